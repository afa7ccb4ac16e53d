set_option maxRecDepth 20000 in
theorem dX0_init_0 : decode cX0_init 0 = .ok (.aload_n 0, 1) ∧ 0 + 1 = 1 := ⟨by decide +kernel, rfl⟩
set_option maxRecDepth 20000 in
theorem dX0_init_1 : decode cX0_init 1 = .ok (.invokespecial 3, 3) ∧ 1 + 3 = 4 := ⟨by decide +kernel, rfl⟩
set_option maxRecDepth 20000 in
theorem dX0_init_4 : decode cX0_init 4 = .ok (.aload_n 0, 1) ∧ 4 + 1 = 5 := ⟨by decide +kernel, rfl⟩
set_option maxRecDepth 20000 in
theorem dX0_init_5 : decode cX0_init 5 = .ok (.bipush 10, 2) ∧ 5 + 2 = 7 := ⟨by decide +kernel, rfl⟩
set_option maxRecDepth 20000 in
theorem dX0_init_7 : decode cX0_init 7 = .ok (.newarray .int, 2) ∧ 7 + 2 = 9 := ⟨by decide +kernel, rfl⟩
set_option maxRecDepth 20000 in
theorem dX0_init_9 : decode cX0_init 9 = .ok (.putfield 11, 3) ∧ 9 + 3 = 12 := ⟨by decide +kernel, rfl⟩
set_option maxRecDepth 20000 in
theorem dX0_init_12 : decode cX0_init 12 = .ok (.aload_n 0, 1) ∧ 12 + 1 = 13 := ⟨by decide +kernel, rfl⟩
set_option maxRecDepth 20000 in
theorem dX0_init_13 : decode cX0_init 13 = .ok (.bipush 51, 2) ∧ 13 + 2 = 15 := ⟨by decide +kernel, rfl⟩
set_option maxRecDepth 20000 in
theorem dX0_init_15 : decode cX0_init 15 = .ok (.newarray .long, 2) ∧ 15 + 2 = 17 := ⟨by decide +kernel, rfl⟩
set_option maxRecDepth 20000 in
theorem dX0_init_17 : decode cX0_init 17 = .ok (.putfield 17, 3) ∧ 17 + 3 = 20 := ⟨by decide +kernel, rfl⟩
set_option maxRecDepth 20000 in
theorem dX0_init_20 : decode cX0_init 20 = .ok (.return_, 1) := by decide +kernel
set_option maxRecDepth 20000 in
theorem dX0_chanceOf_0 : decode cX0_chanceOf 0 = .ok (.aload_n 0, 1) ∧ 0 + 1 = 1 := ⟨by decide +kernel, rfl⟩
set_option maxRecDepth 20000 in
theorem dX0_chanceOf_1 : decode cX0_chanceOf 1 = .ok (.aload_n 1, 1) ∧ 1 + 1 = 2 := ⟨by decide +kernel, rfl⟩
set_option maxRecDepth 20000 in
theorem dX0_chanceOf_2 : decode cX0_chanceOf 2 = .ok (.iload_n 2, 1) ∧ 2 + 1 = 3 := ⟨by decide +kernel, rfl⟩
set_option maxRecDepth 20000 in
theorem dX0_chanceOf_3 : decode cX0_chanceOf 3 = .ok (.iload_n 3, 1) ∧ 3 + 1 = 4 := ⟨by decide +kernel, rfl⟩
set_option maxRecDepth 20000 in
theorem dX0_chanceOf_4 : decode cX0_chanceOf 4 = .ok (.iload 4, 2) ∧ 4 + 2 = 6 := ⟨by decide +kernel, rfl⟩
set_option maxRecDepth 20000 in
theorem dX0_chanceOf_6 : decode cX0_chanceOf 6 = .ok (.invokevirtual 21, 3) ∧ 6 + 3 = 9 := ⟨by decide +kernel, rfl⟩
set_option maxRecDepth 20000 in
theorem dX0_chanceOf_9 : decode cX0_chanceOf 9 = .ok (.aload_n 0, 1) ∧ 9 + 1 = 10 := ⟨by decide +kernel, rfl⟩
set_option maxRecDepth 20000 in
theorem dX0_chanceOf_10 : decode cX0_chanceOf 10 = .ok (.getfield 11, 3) ∧ 10 + 3 = 13 := ⟨by decide +kernel, rfl⟩
set_option maxRecDepth 20000 in
theorem dX0_chanceOf_13 : decode cX0_chanceOf 13 = .ok (.bipush 9, 2) ∧ 13 + 2 = 15 := ⟨by decide +kernel, rfl⟩
set_option maxRecDepth 20000 in
theorem dX0_chanceOf_15 : decode cX0_chanceOf 15 = .ok (.iload 5, 2) ∧ 15 + 2 = 17 := ⟨by decide +kernel, rfl⟩
set_option maxRecDepth 20000 in
theorem dX0_chanceOf_17 : decode cX0_chanceOf 17 = .ok (.iastore, 1) ∧ 17 + 1 = 18 := ⟨by decide +kernel, rfl⟩
set_option maxRecDepth 20000 in
theorem dX0_chanceOf_18 : decode cX0_chanceOf 18 = .ok (.aload_n 0, 1) ∧ 18 + 1 = 19 := ⟨by decide +kernel, rfl⟩
set_option maxRecDepth 20000 in
theorem dX0_chanceOf_19 : decode cX0_chanceOf 19 = .ok (.aload_n 1, 1) ∧ 19 + 1 = 20 := ⟨by decide +kernel, rfl⟩
set_option maxRecDepth 20000 in
theorem dX0_chanceOf_20 : decode cX0_chanceOf 20 = .ok (.invokevirtual 25, 3) ∧ 20 + 3 = 23 := ⟨by decide +kernel, rfl⟩
set_option maxRecDepth 20000 in
theorem dX0_chanceOf_23 : decode cX0_chanceOf 23 = .ok (.iconst 0, 1) ∧ 23 + 1 = 24 := ⟨by decide +kernel, rfl⟩
set_option maxRecDepth 20000 in
theorem dX0_chanceOf_24 : decode cX0_chanceOf 24 = .ok (.bipush 50, 2) ∧ 24 + 2 = 26 := ⟨by decide +kernel, rfl⟩
set_option maxRecDepth 20000 in
theorem dX0_chanceOf_26 : decode cX0_chanceOf 26 = .ok (.bipush 100, 2) ∧ 26 + 2 = 28 := ⟨by decide +kernel, rfl⟩
set_option maxRecDepth 20000 in
theorem dX0_chanceOf_28 : decode cX0_chanceOf 28 = .ok (.invokevirtual 31, 3) ∧ 28 + 3 = 31 := ⟨by decide +kernel, rfl⟩
set_option maxRecDepth 20000 in
theorem dX0_chanceOf_31 : decode cX0_chanceOf 31 = .ok (.ireturn, 1) := by decide +kernel
set_option maxRecDepth 20000 in
theorem dX0_priceOf_0 : decode cX0_priceOf 0 = .ok (.aload_n 0, 1) ∧ 0 + 1 = 1 := ⟨by decide +kernel, rfl⟩
set_option maxRecDepth 20000 in
theorem dX0_priceOf_1 : decode cX0_priceOf 1 = .ok (.aload_n 1, 1) ∧ 1 + 1 = 2 := ⟨by decide +kernel, rfl⟩
set_option maxRecDepth 20000 in
theorem dX0_priceOf_2 : decode cX0_priceOf 2 = .ok (.iload_n 2, 1) ∧ 2 + 1 = 3 := ⟨by decide +kernel, rfl⟩
set_option maxRecDepth 20000 in
theorem dX0_priceOf_3 : decode cX0_priceOf 3 = .ok (.aload_n 1, 1) ∧ 3 + 1 = 4 := ⟨by decide +kernel, rfl⟩
set_option maxRecDepth 20000 in
theorem dX0_priceOf_4 : decode cX0_priceOf 4 = .ok (.getfield 35, 3) ∧ 4 + 3 = 7 := ⟨by decide +kernel, rfl⟩
set_option maxRecDepth 20000 in
theorem dX0_priceOf_7 : decode cX0_priceOf 7 = .ok (.iconst 1, 1) ∧ 7 + 1 = 8 := ⟨by decide +kernel, rfl⟩
set_option maxRecDepth 20000 in
theorem dX0_priceOf_8 : decode cX0_priceOf 8 = .ok (.iaload, 1) ∧ 8 + 1 = 9 := ⟨by decide +kernel, rfl⟩
set_option maxRecDepth 20000 in
theorem dX0_priceOf_9 : decode cX0_priceOf 9 = .ok (.aload_n 1, 1) ∧ 9 + 1 = 10 := ⟨by decide +kernel, rfl⟩
set_option maxRecDepth 20000 in
theorem dX0_priceOf_10 : decode cX0_priceOf 10 = .ok (.iload_n 2, 1) ∧ 10 + 1 = 11 := ⟨by decide +kernel, rfl⟩
set_option maxRecDepth 20000 in
theorem dX0_priceOf_11 : decode cX0_priceOf 11 = .ok (.iconst 5, 1) ∧ 11 + 1 = 12 := ⟨by decide +kernel, rfl⟩
set_option maxRecDepth 20000 in
theorem dX0_priceOf_12 : decode cX0_priceOf 12 = .ok (.invokevirtual 38, 3) ∧ 12 + 3 = 15 := ⟨by decide +kernel, rfl⟩
set_option maxRecDepth 20000 in
theorem dX0_priceOf_15 : decode cX0_priceOf 15 = .ok (.invokevirtual 21, 3) ∧ 15 + 3 = 18 := ⟨by decide +kernel, rfl⟩
set_option maxRecDepth 20000 in
theorem dX0_priceOf_18 : decode cX0_priceOf 18 = .ok (.aload_n 0, 1) ∧ 18 + 1 = 19 := ⟨by decide +kernel, rfl⟩
set_option maxRecDepth 20000 in
theorem dX0_priceOf_19 : decode cX0_priceOf 19 = .ok (.getfield 11, 3) ∧ 19 + 3 = 22 := ⟨by decide +kernel, rfl⟩
set_option maxRecDepth 20000 in
theorem dX0_priceOf_22 : decode cX0_priceOf 22 = .ok (.bipush 8, 2) ∧ 22 + 2 = 24 := ⟨by decide +kernel, rfl⟩
set_option maxRecDepth 20000 in
theorem dX0_priceOf_24 : decode cX0_priceOf 24 = .ok (.iload_n 3, 1) ∧ 24 + 1 = 25 := ⟨by decide +kernel, rfl⟩
set_option maxRecDepth 20000 in
theorem dX0_priceOf_25 : decode cX0_priceOf 25 = .ok (.iastore, 1) ∧ 25 + 1 = 26 := ⟨by decide +kernel, rfl⟩
set_option maxRecDepth 20000 in
theorem dX0_priceOf_26 : decode cX0_priceOf 26 = .ok (.aload_n 0, 1) ∧ 26 + 1 = 27 := ⟨by decide +kernel, rfl⟩
set_option maxRecDepth 20000 in
theorem dX0_priceOf_27 : decode cX0_priceOf 27 = .ok (.aload_n 1, 1) ∧ 27 + 1 = 28 := ⟨by decide +kernel, rfl⟩
set_option maxRecDepth 20000 in
theorem dX0_priceOf_28 : decode cX0_priceOf 28 = .ok (.invokevirtual 25, 3) ∧ 28 + 3 = 31 := ⟨by decide +kernel, rfl⟩
set_option maxRecDepth 20000 in
theorem dX0_priceOf_31 : decode cX0_priceOf 31 = .ok (.iconst 2, 1) ∧ 31 + 1 = 32 := ⟨by decide +kernel, rfl⟩
set_option maxRecDepth 20000 in
theorem dX0_priceOf_32 : decode cX0_priceOf 32 = .ok (.bipush 10, 2) ∧ 32 + 2 = 34 := ⟨by decide +kernel, rfl⟩
set_option maxRecDepth 20000 in
theorem dX0_priceOf_34 : decode cX0_priceOf 34 = .ok (.sipush 999, 3) ∧ 34 + 3 = 37 := ⟨by decide +kernel, rfl⟩
set_option maxRecDepth 20000 in
theorem dX0_priceOf_37 : decode cX0_priceOf 37 = .ok (.invokevirtual 31, 3) ∧ 37 + 3 = 40 := ⟨by decide +kernel, rfl⟩
set_option maxRecDepth 20000 in
theorem dX0_priceOf_40 : decode cX0_priceOf 40 = .ok (.ireturn, 1) := by decide +kernel
set_option maxRecDepth 20000 in
theorem dX0_liesOf_0 : decode cX0_liesOf 0 = .ok (.aload_n 0, 1) ∧ 0 + 1 = 1 := ⟨by decide +kernel, rfl⟩
set_option maxRecDepth 20000 in
theorem dX0_liesOf_1 : decode cX0_liesOf 1 = .ok (.aload_n 1, 1) ∧ 1 + 1 = 2 := ⟨by decide +kernel, rfl⟩
set_option maxRecDepth 20000 in
theorem dX0_liesOf_2 : decode cX0_liesOf 2 = .ok (.iload_n 2, 1) ∧ 2 + 1 = 3 := ⟨by decide +kernel, rfl⟩
set_option maxRecDepth 20000 in
theorem dX0_liesOf_3 : decode cX0_liesOf 3 = .ok (.aload_n 1, 1) ∧ 3 + 1 = 4 := ⟨by decide +kernel, rfl⟩
set_option maxRecDepth 20000 in
theorem dX0_liesOf_4 : decode cX0_liesOf 4 = .ok (.getfield 35, 3) ∧ 4 + 3 = 7 := ⟨by decide +kernel, rfl⟩
set_option maxRecDepth 20000 in
theorem dX0_liesOf_7 : decode cX0_liesOf 7 = .ok (.iconst 1, 1) ∧ 7 + 1 = 8 := ⟨by decide +kernel, rfl⟩
set_option maxRecDepth 20000 in
theorem dX0_liesOf_8 : decode cX0_liesOf 8 = .ok (.iaload, 1) ∧ 8 + 1 = 9 := ⟨by decide +kernel, rfl⟩
set_option maxRecDepth 20000 in
theorem dX0_liesOf_9 : decode cX0_liesOf 9 = .ok (.aload_n 1, 1) ∧ 9 + 1 = 10 := ⟨by decide +kernel, rfl⟩
set_option maxRecDepth 20000 in
theorem dX0_liesOf_10 : decode cX0_liesOf 10 = .ok (.iload_n 2, 1) ∧ 10 + 1 = 11 := ⟨by decide +kernel, rfl⟩
set_option maxRecDepth 20000 in
theorem dX0_liesOf_11 : decode cX0_liesOf 11 = .ok (.iconst 5, 1) ∧ 11 + 1 = 12 := ⟨by decide +kernel, rfl⟩
set_option maxRecDepth 20000 in
theorem dX0_liesOf_12 : decode cX0_liesOf 12 = .ok (.invokevirtual 38, 3) ∧ 12 + 3 = 15 := ⟨by decide +kernel, rfl⟩
set_option maxRecDepth 20000 in
theorem dX0_liesOf_15 : decode cX0_liesOf 15 = .ok (.invokevirtual 21, 3) ∧ 15 + 3 = 18 := ⟨by decide +kernel, rfl⟩
set_option maxRecDepth 20000 in
theorem dX0_liesOf_18 : decode cX0_liesOf 18 = .ok (.aload_n 0, 1) ∧ 18 + 1 = 19 := ⟨by decide +kernel, rfl⟩
set_option maxRecDepth 20000 in
theorem dX0_liesOf_19 : decode cX0_liesOf 19 = .ok (.getfield 11, 3) ∧ 19 + 3 = 22 := ⟨by decide +kernel, rfl⟩
set_option maxRecDepth 20000 in
theorem dX0_liesOf_22 : decode cX0_liesOf 22 = .ok (.bipush 9, 2) ∧ 22 + 2 = 24 := ⟨by decide +kernel, rfl⟩
set_option maxRecDepth 20000 in
theorem dX0_liesOf_24 : decode cX0_liesOf 24 = .ok (.iload_n 3, 1) ∧ 24 + 1 = 25 := ⟨by decide +kernel, rfl⟩
set_option maxRecDepth 20000 in
theorem dX0_liesOf_25 : decode cX0_liesOf 25 = .ok (.iastore, 1) ∧ 25 + 1 = 26 := ⟨by decide +kernel, rfl⟩
set_option maxRecDepth 20000 in
theorem dX0_liesOf_26 : decode cX0_liesOf 26 = .ok (.aload_n 0, 1) ∧ 26 + 1 = 27 := ⟨by decide +kernel, rfl⟩
set_option maxRecDepth 20000 in
theorem dX0_liesOf_27 : decode cX0_liesOf 27 = .ok (.aload_n 1, 1) ∧ 27 + 1 = 28 := ⟨by decide +kernel, rfl⟩
set_option maxRecDepth 20000 in
theorem dX0_liesOf_28 : decode cX0_liesOf 28 = .ok (.invokevirtual 25, 3) ∧ 28 + 3 = 31 := ⟨by decide +kernel, rfl⟩
set_option maxRecDepth 20000 in
theorem dX0_liesOf_31 : decode cX0_liesOf 31 = .ok (.iconst 1, 1) ∧ 31 + 1 = 32 := ⟨by decide +kernel, rfl⟩
set_option maxRecDepth 20000 in
theorem dX0_liesOf_32 : decode cX0_liesOf 32 = .ok (.bipush 10, 2) ∧ 32 + 2 = 34 := ⟨by decide +kernel, rfl⟩
set_option maxRecDepth 20000 in
theorem dX0_liesOf_34 : decode cX0_liesOf 34 = .ok (.bipush 100, 2) ∧ 34 + 2 = 36 := ⟨by decide +kernel, rfl⟩
set_option maxRecDepth 20000 in
theorem dX0_liesOf_36 : decode cX0_liesOf 36 = .ok (.invokevirtual 31, 3) ∧ 36 + 3 = 39 := ⟨by decide +kernel, rfl⟩
set_option maxRecDepth 20000 in
theorem dX0_liesOf_39 : decode cX0_liesOf 39 = .ok (.ireturn, 1) := by decide +kernel
set_option maxRecDepth 20000 in
theorem dX0_learn_0 : decode cX0_learn 0 = .ok (.aload_n 0, 1) ∧ 0 + 1 = 1 := ⟨by decide +kernel, rfl⟩
set_option maxRecDepth 20000 in
theorem dX0_learn_1 : decode cX0_learn 1 = .ok (.getfield 11, 3) ∧ 1 + 3 = 4 := ⟨by decide +kernel, rfl⟩
set_option maxRecDepth 20000 in
theorem dX0_learn_4 : decode cX0_learn 4 = .ok (.iconst 0, 1) ∧ 4 + 1 = 5 := ⟨by decide +kernel, rfl⟩
set_option maxRecDepth 20000 in
theorem dX0_learn_5 : decode cX0_learn 5 = .ok (.iload_n 2, 1) ∧ 5 + 1 = 6 := ⟨by decide +kernel, rfl⟩
set_option maxRecDepth 20000 in
theorem dX0_learn_6 : decode cX0_learn 6 = .ok (.iastore, 1) ∧ 6 + 1 = 7 := ⟨by decide +kernel, rfl⟩
set_option maxRecDepth 20000 in
theorem dX0_learn_7 : decode cX0_learn 7 = .ok (.aload_n 0, 1) ∧ 7 + 1 = 8 := ⟨by decide +kernel, rfl⟩
set_option maxRecDepth 20000 in
theorem dX0_learn_8 : decode cX0_learn 8 = .ok (.getfield 11, 3) ∧ 8 + 3 = 11 := ⟨by decide +kernel, rfl⟩
set_option maxRecDepth 20000 in
theorem dX0_learn_11 : decode cX0_learn 11 = .ok (.iconst 1, 1) ∧ 11 + 1 = 12 := ⟨by decide +kernel, rfl⟩
set_option maxRecDepth 20000 in
theorem dX0_learn_12 : decode cX0_learn 12 = .ok (.aload_n 1, 1) ∧ 12 + 1 = 13 := ⟨by decide +kernel, rfl⟩
set_option maxRecDepth 20000 in
theorem dX0_learn_13 : decode cX0_learn 13 = .ok (.iload_n 2, 1) ∧ 13 + 1 = 14 := ⟨by decide +kernel, rfl⟩
set_option maxRecDepth 20000 in
theorem dX0_learn_14 : decode cX0_learn 14 = .ok (.iconst 0, 1) ∧ 14 + 1 = 15 := ⟨by decide +kernel, rfl⟩
set_option maxRecDepth 20000 in
theorem dX0_learn_15 : decode cX0_learn 15 = .ok (.invokevirtual 38, 3) ∧ 15 + 3 = 18 := ⟨by decide +kernel, rfl⟩
set_option maxRecDepth 20000 in
theorem dX0_learn_18 : decode cX0_learn 18 = .ok (.iastore, 1) ∧ 18 + 1 = 19 := ⟨by decide +kernel, rfl⟩
set_option maxRecDepth 20000 in
theorem dX0_learn_19 : decode cX0_learn 19 = .ok (.aload_n 0, 1) ∧ 19 + 1 = 20 := ⟨by decide +kernel, rfl⟩
set_option maxRecDepth 20000 in
theorem dX0_learn_20 : decode cX0_learn 20 = .ok (.getfield 11, 3) ∧ 20 + 3 = 23 := ⟨by decide +kernel, rfl⟩
set_option maxRecDepth 20000 in
theorem dX0_learn_23 : decode cX0_learn 23 = .ok (.iconst 2, 1) ∧ 23 + 1 = 24 := ⟨by decide +kernel, rfl⟩
set_option maxRecDepth 20000 in
theorem dX0_learn_24 : decode cX0_learn 24 = .ok (.aload_n 1, 1) ∧ 24 + 1 = 25 := ⟨by decide +kernel, rfl⟩
set_option maxRecDepth 20000 in
theorem dX0_learn_25 : decode cX0_learn 25 = .ok (.iload_n 2, 1) ∧ 25 + 1 = 26 := ⟨by decide +kernel, rfl⟩
set_option maxRecDepth 20000 in
theorem dX0_learn_26 : decode cX0_learn 26 = .ok (.iload_n 3, 1) ∧ 26 + 1 = 27 := ⟨by decide +kernel, rfl⟩
set_option maxRecDepth 20000 in
theorem dX0_learn_27 : decode cX0_learn 27 = .ok (.invokevirtual 42, 3) ∧ 27 + 3 = 30 := ⟨by decide +kernel, rfl⟩
set_option maxRecDepth 20000 in
theorem dX0_learn_30 : decode cX0_learn 30 = .ok (.iastore, 1) ∧ 30 + 1 = 31 := ⟨by decide +kernel, rfl⟩
set_option maxRecDepth 20000 in
theorem dX0_learn_31 : decode cX0_learn 31 = .ok (.aload_n 0, 1) ∧ 31 + 1 = 32 := ⟨by decide +kernel, rfl⟩
set_option maxRecDepth 20000 in
theorem dX0_learn_32 : decode cX0_learn 32 = .ok (.getfield 11, 3) ∧ 32 + 3 = 35 := ⟨by decide +kernel, rfl⟩
set_option maxRecDepth 20000 in
theorem dX0_learn_35 : decode cX0_learn 35 = .ok (.iconst 3, 1) ∧ 35 + 1 = 36 := ⟨by decide +kernel, rfl⟩
set_option maxRecDepth 20000 in
theorem dX0_learn_36 : decode cX0_learn 36 = .ok (.aload_n 1, 1) ∧ 36 + 1 = 37 := ⟨by decide +kernel, rfl⟩
set_option maxRecDepth 20000 in
theorem dX0_learn_37 : decode cX0_learn 37 = .ok (.iload_n 2, 1) ∧ 37 + 1 = 38 := ⟨by decide +kernel, rfl⟩
set_option maxRecDepth 20000 in
theorem dX0_learn_38 : decode cX0_learn 38 = .ok (.iconst 3, 1) ∧ 38 + 1 = 39 := ⟨by decide +kernel, rfl⟩
set_option maxRecDepth 20000 in
theorem dX0_learn_39 : decode cX0_learn 39 = .ok (.invokevirtual 38, 3) ∧ 39 + 3 = 42 := ⟨by decide +kernel, rfl⟩
set_option maxRecDepth 20000 in
theorem dX0_learn_42 : decode cX0_learn 42 = .ok (.iastore, 1) ∧ 42 + 1 = 43 := ⟨by decide +kernel, rfl⟩
set_option maxRecDepth 20000 in
theorem dX0_learn_43 : decode cX0_learn 43 = .ok (.aload_n 0, 1) ∧ 43 + 1 = 44 := ⟨by decide +kernel, rfl⟩
set_option maxRecDepth 20000 in
theorem dX0_learn_44 : decode cX0_learn 44 = .ok (.getfield 11, 3) ∧ 44 + 3 = 47 := ⟨by decide +kernel, rfl⟩
set_option maxRecDepth 20000 in
theorem dX0_learn_47 : decode cX0_learn 47 = .ok (.iconst 4, 1) ∧ 47 + 1 = 48 := ⟨by decide +kernel, rfl⟩
set_option maxRecDepth 20000 in
theorem dX0_learn_48 : decode cX0_learn 48 = .ok (.aload_n 1, 1) ∧ 48 + 1 = 49 := ⟨by decide +kernel, rfl⟩
set_option maxRecDepth 20000 in
theorem dX0_learn_49 : decode cX0_learn 49 = .ok (.iload_n 2, 1) ∧ 49 + 1 = 50 := ⟨by decide +kernel, rfl⟩
set_option maxRecDepth 20000 in
theorem dX0_learn_50 : decode cX0_learn 50 = .ok (.iconst 4, 1) ∧ 50 + 1 = 51 := ⟨by decide +kernel, rfl⟩
set_option maxRecDepth 20000 in
theorem dX0_learn_51 : decode cX0_learn 51 = .ok (.invokevirtual 38, 3) ∧ 51 + 3 = 54 := ⟨by decide +kernel, rfl⟩
set_option maxRecDepth 20000 in
theorem dX0_learn_54 : decode cX0_learn 54 = .ok (.iastore, 1) ∧ 54 + 1 = 55 := ⟨by decide +kernel, rfl⟩
set_option maxRecDepth 20000 in
theorem dX0_learn_55 : decode cX0_learn 55 = .ok (.aload_n 0, 1) ∧ 55 + 1 = 56 := ⟨by decide +kernel, rfl⟩
set_option maxRecDepth 20000 in
theorem dX0_learn_56 : decode cX0_learn 56 = .ok (.getfield 11, 3) ∧ 56 + 3 = 59 := ⟨by decide +kernel, rfl⟩
set_option maxRecDepth 20000 in
theorem dX0_learn_59 : decode cX0_learn 59 = .ok (.iconst 5, 1) ∧ 59 + 1 = 60 := ⟨by decide +kernel, rfl⟩
set_option maxRecDepth 20000 in
theorem dX0_learn_60 : decode cX0_learn 60 = .ok (.iload 4, 2) ∧ 60 + 2 = 62 := ⟨by decide +kernel, rfl⟩
set_option maxRecDepth 20000 in
theorem dX0_learn_62 : decode cX0_learn 62 = .ok (.iastore, 1) ∧ 62 + 1 = 63 := ⟨by decide +kernel, rfl⟩
set_option maxRecDepth 20000 in
theorem dX0_learn_63 : decode cX0_learn 63 = .ok (.aload_n 0, 1) ∧ 63 + 1 = 64 := ⟨by decide +kernel, rfl⟩
set_option maxRecDepth 20000 in
theorem dX0_learn_64 : decode cX0_learn 64 = .ok (.getfield 11, 3) ∧ 64 + 3 = 67 := ⟨by decide +kernel, rfl⟩
set_option maxRecDepth 20000 in
theorem dX0_learn_67 : decode cX0_learn 67 = .ok (.bipush 6, 2) ∧ 67 + 2 = 69 := ⟨by decide +kernel, rfl⟩
set_option maxRecDepth 20000 in
theorem dX0_learn_69 : decode cX0_learn 69 = .ok (.iload_n 3, 1) ∧ 69 + 1 = 70 := ⟨by decide +kernel, rfl⟩
set_option maxRecDepth 20000 in
theorem dX0_learn_70 : decode cX0_learn 70 = .ok (.iastore, 1) ∧ 70 + 1 = 71 := ⟨by decide +kernel, rfl⟩
set_option maxRecDepth 20000 in
theorem dX0_learn_71 : decode cX0_learn 71 = .ok (.aload_n 0, 1) ∧ 71 + 1 = 72 := ⟨by decide +kernel, rfl⟩
set_option maxRecDepth 20000 in
theorem dX0_learn_72 : decode cX0_learn 72 = .ok (.getfield 11, 3) ∧ 72 + 3 = 75 := ⟨by decide +kernel, rfl⟩
set_option maxRecDepth 20000 in
theorem dX0_learn_75 : decode cX0_learn 75 = .ok (.bipush 7, 2) ∧ 75 + 2 = 77 := ⟨by decide +kernel, rfl⟩
set_option maxRecDepth 20000 in
theorem dX0_learn_77 : decode cX0_learn 77 = .ok (.aload_n 1, 1) ∧ 77 + 1 = 78 := ⟨by decide +kernel, rfl⟩
set_option maxRecDepth 20000 in
theorem dX0_learn_78 : decode cX0_learn 78 = .ok (.getfield 35, 3) ∧ 78 + 3 = 81 := ⟨by decide +kernel, rfl⟩
set_option maxRecDepth 20000 in
theorem dX0_learn_81 : decode cX0_learn 81 = .ok (.iconst 2, 1) ∧ 81 + 1 = 82 := ⟨by decide +kernel, rfl⟩
set_option maxRecDepth 20000 in
theorem dX0_learn_82 : decode cX0_learn 82 = .ok (.iaload, 1) ∧ 82 + 1 = 83 := ⟨by decide +kernel, rfl⟩
set_option maxRecDepth 20000 in
theorem dX0_learn_83 : decode cX0_learn 83 = .ok (.iastore, 1) ∧ 83 + 1 = 84 := ⟨by decide +kernel, rfl⟩
set_option maxRecDepth 20000 in
theorem dX0_learn_84 : decode cX0_learn 84 = .ok (.aload_n 0, 1) ∧ 84 + 1 = 85 := ⟨by decide +kernel, rfl⟩
set_option maxRecDepth 20000 in
theorem dX0_learn_85 : decode cX0_learn 85 = .ok (.getfield 11, 3) ∧ 85 + 3 = 88 := ⟨by decide +kernel, rfl⟩
set_option maxRecDepth 20000 in
theorem dX0_learn_88 : decode cX0_learn 88 = .ok (.bipush 8, 2) ∧ 88 + 2 = 90 := ⟨by decide +kernel, rfl⟩
set_option maxRecDepth 20000 in
theorem dX0_learn_90 : decode cX0_learn 90 = .ok (.iconst (-1), 1) ∧ 90 + 1 = 91 := ⟨by decide +kernel, rfl⟩
set_option maxRecDepth 20000 in
theorem dX0_learn_91 : decode cX0_learn 91 = .ok (.iastore, 1) ∧ 91 + 1 = 92 := ⟨by decide +kernel, rfl⟩
set_option maxRecDepth 20000 in
theorem dX0_learn_92 : decode cX0_learn 92 = .ok (.aload_n 0, 1) ∧ 92 + 1 = 93 := ⟨by decide +kernel, rfl⟩
set_option maxRecDepth 20000 in
theorem dX0_learn_93 : decode cX0_learn 93 = .ok (.getfield 11, 3) ∧ 93 + 3 = 96 := ⟨by decide +kernel, rfl⟩
set_option maxRecDepth 20000 in
theorem dX0_learn_96 : decode cX0_learn 96 = .ok (.bipush 9, 2) ∧ 96 + 2 = 98 := ⟨by decide +kernel, rfl⟩
set_option maxRecDepth 20000 in
theorem dX0_learn_98 : decode cX0_learn 98 = .ok (.iconst 0, 1) ∧ 98 + 1 = 99 := ⟨by decide +kernel, rfl⟩
set_option maxRecDepth 20000 in
theorem dX0_learn_99 : decode cX0_learn 99 = .ok (.iastore, 1) ∧ 99 + 1 = 100 := ⟨by decide +kernel, rfl⟩
set_option maxRecDepth 20000 in
theorem dX0_learn_100 : decode cX0_learn 100 = .ok (.return_, 1) := by decide +kernel
set_option maxRecDepth 20000 in
theorem dX0_told_0 : decode cX0_told 0 = .ok (.aload_n 1, 1) ∧ 0 + 1 = 1 := ⟨by decide +kernel, rfl⟩
set_option maxRecDepth 20000 in
theorem dX0_told_1 : decode cX0_told 1 = .ok (.ifnonnull 5, 3) ∧ 1 + 3 = 4 ∧ ((1 : Nat) : Int) + (5) = ((6 : Nat) : Int) := ⟨by decide +kernel, rfl, by decide⟩
set_option maxRecDepth 20000 in
theorem dX0_told_4 : decode cX0_told 4 = .ok (.iload_n 3, 1) ∧ 4 + 1 = 5 := ⟨by decide +kernel, rfl⟩
set_option maxRecDepth 20000 in
theorem dX0_told_5 : decode cX0_told 5 = .ok (.ireturn, 1) := by decide +kernel
set_option maxRecDepth 20000 in
theorem dX0_told_6 : decode cX0_told 6 = .ok (.aload_n 1, 1) ∧ 6 + 1 = 7 := ⟨by decide +kernel, rfl⟩
set_option maxRecDepth 20000 in
theorem dX0_told_7 : decode cX0_told 7 = .ok (.getfield 45, 3) ∧ 7 + 3 = 10 := ⟨by decide +kernel, rfl⟩
set_option maxRecDepth 20000 in
theorem dX0_told_10 : decode cX0_told 10 = .ok (.arraylength, 1) ∧ 10 + 1 = 11 := ⟨by decide +kernel, rfl⟩
set_option maxRecDepth 20000 in
theorem dX0_told_11 : decode cX0_told 11 = .ok (.iconst 1, 1) ∧ 11 + 1 = 12 := ⟨by decide +kernel, rfl⟩
set_option maxRecDepth 20000 in
theorem dX0_told_12 : decode cX0_told 12 = .ok (.isub, 1) ∧ 12 + 1 = 13 := ⟨by decide +kernel, rfl⟩
set_option maxRecDepth 20000 in
theorem dX0_told_13 : decode cX0_told 13 = .ok (.istore 5, 2) ∧ 13 + 2 = 15 := ⟨by decide +kernel, rfl⟩
set_option maxRecDepth 20000 in
theorem dX0_told_15 : decode cX0_told 15 = .ok (.iload 5, 2) ∧ 15 + 2 = 17 := ⟨by decide +kernel, rfl⟩
set_option maxRecDepth 20000 in
theorem dX0_told_17 : decode cX0_told 17 = .ok (.ifCond .lt 46, 3) ∧ 17 + 3 = 20 ∧ ((17 : Nat) : Int) + (46) = ((63 : Nat) : Int) := ⟨by decide +kernel, rfl, by decide⟩
set_option maxRecDepth 20000 in
theorem dX0_told_20 : decode cX0_told 20 = .ok (.aload_n 1, 1) ∧ 20 + 1 = 21 := ⟨by decide +kernel, rfl⟩
set_option maxRecDepth 20000 in
theorem dX0_told_21 : decode cX0_told 21 = .ok (.getfield 45, 3) ∧ 21 + 3 = 24 := ⟨by decide +kernel, rfl⟩
set_option maxRecDepth 20000 in
theorem dX0_told_24 : decode cX0_told 24 = .ok (.iload 5, 2) ∧ 24 + 2 = 26 := ⟨by decide +kernel, rfl⟩
set_option maxRecDepth 20000 in
theorem dX0_told_26 : decode cX0_told 26 = .ok (.iaload, 1) ∧ 26 + 1 = 27 := ⟨by decide +kernel, rfl⟩
set_option maxRecDepth 20000 in
theorem dX0_told_27 : decode cX0_told 27 = .ok (.iload_n 2, 1) ∧ 27 + 1 = 28 := ⟨by decide +kernel, rfl⟩
set_option maxRecDepth 20000 in
theorem dX0_told_28 : decode cX0_told 28 = .ok (.if_icmp .ne 29, 3) ∧ 28 + 3 = 31 ∧ ((28 : Nat) : Int) + (29) = ((57 : Nat) : Int) := ⟨by decide +kernel, rfl, by decide⟩
set_option maxRecDepth 20000 in
theorem dX0_told_31 : decode cX0_told 31 = .ok (.aload_n 0, 1) ∧ 31 + 1 = 32 := ⟨by decide +kernel, rfl⟩
set_option maxRecDepth 20000 in
theorem dX0_told_32 : decode cX0_told 32 = .ok (.aload_n 1, 1) ∧ 32 + 1 = 33 := ⟨by decide +kernel, rfl⟩
set_option maxRecDepth 20000 in
theorem dX0_told_33 : decode cX0_told 33 = .ok (.iload 5, 2) ∧ 33 + 2 = 35 := ⟨by decide +kernel, rfl⟩
set_option maxRecDepth 20000 in
theorem dX0_told_35 : decode cX0_told 35 = .ok (.invokevirtual 50, 3) ∧ 35 + 3 = 38 := ⟨by decide +kernel, rfl⟩
set_option maxRecDepth 20000 in
theorem dX0_told_38 : decode cX0_told 38 = .ok (.ifCond .eq 19, 3) ∧ 38 + 3 = 41 ∧ ((38 : Nat) : Int) + (19) = ((57 : Nat) : Int) := ⟨by decide +kernel, rfl, by decide⟩
set_option maxRecDepth 20000 in
theorem dX0_told_41 : decode cX0_told 41 = .ok (.lconst 0, 1) ∧ 41 + 1 = 42 := ⟨by decide +kernel, rfl⟩
set_option maxRecDepth 20000 in
theorem dX0_told_42 : decode cX0_told 42 = .ok (.iload 4, 2) ∧ 42 + 2 = 44 := ⟨by decide +kernel, rfl⟩
set_option maxRecDepth 20000 in
theorem dX0_told_44 : decode cX0_told 44 = .ok (.i2l, 1) ∧ 44 + 1 = 45 := ⟨by decide +kernel, rfl⟩
set_option maxRecDepth 20000 in
theorem dX0_told_45 : decode cX0_told 45 = .ok (.aload_n 0, 1) ∧ 45 + 1 = 46 := ⟨by decide +kernel, rfl⟩
set_option maxRecDepth 20000 in
theorem dX0_told_46 : decode cX0_told 46 = .ok (.getfield 54, 3) ∧ 46 + 3 = 49 := ⟨by decide +kernel, rfl⟩
set_option maxRecDepth 20000 in
theorem dX0_told_49 : decode cX0_told 49 = .ok (.invokestatic 58, 3) ∧ 49 + 3 = 52 := ⟨by decide +kernel, rfl⟩
set_option maxRecDepth 20000 in
theorem dX0_told_52 : decode cX0_told 52 = .ok (.invokestatic 64, 3) ∧ 52 + 3 = 55 := ⟨by decide +kernel, rfl⟩
set_option maxRecDepth 20000 in
theorem dX0_told_55 : decode cX0_told 55 = .ok (.l2i, 1) ∧ 55 + 1 = 56 := ⟨by decide +kernel, rfl⟩
set_option maxRecDepth 20000 in
theorem dX0_told_56 : decode cX0_told 56 = .ok (.ireturn, 1) := by decide +kernel
set_option maxRecDepth 20000 in
theorem dX0_told_57 : decode cX0_told 57 = .ok (.iinc 5 (-1), 3) ∧ 57 + 3 = 60 := ⟨by decide +kernel, rfl⟩
set_option maxRecDepth 20000 in
theorem dX0_told_60 : decode cX0_told 60 = .ok (.goto (-45), 3) ∧ ((60 : Nat) : Int) + (-45) = ((15 : Nat) : Int) := ⟨by decide +kernel, by decide⟩
set_option maxRecDepth 20000 in
theorem dX0_told_63 : decode cX0_told 63 = .ok (.iload_n 3, 1) ∧ 63 + 1 = 64 := ⟨by decide +kernel, rfl⟩
set_option maxRecDepth 20000 in
theorem dX0_told_64 : decode cX0_told 64 = .ok (.ireturn, 1) := by decide +kernel
set_option maxRecDepth 20000 in
theorem dX0_holds_0 : decode cX0_holds 0 = .ok (.iload_n 2, 1) ∧ 0 + 1 = 1 := ⟨by decide +kernel, rfl⟩
set_option maxRecDepth 20000 in
theorem dX0_holds_1 : decode cX0_holds 1 = .ok (.ifCond .ne 7, 3) ∧ 1 + 3 = 4 ∧ ((1 : Nat) : Int) + (7) = ((8 : Nat) : Int) := ⟨by decide +kernel, rfl, by decide⟩
set_option maxRecDepth 20000 in
theorem dX0_holds_4 : decode cX0_holds 4 = .ok (.iconst 0, 1) ∧ 4 + 1 = 5 := ⟨by decide +kernel, rfl⟩
set_option maxRecDepth 20000 in
theorem dX0_holds_5 : decode cX0_holds 5 = .ok (.goto 11, 3) ∧ ((5 : Nat) : Int) + (11) = ((16 : Nat) : Int) := ⟨by decide +kernel, by decide⟩
set_option maxRecDepth 20000 in
theorem dX0_holds_8 : decode cX0_holds 8 = .ok (.aload_n 1, 1) ∧ 8 + 1 = 9 := ⟨by decide +kernel, rfl⟩
set_option maxRecDepth 20000 in
theorem dX0_holds_9 : decode cX0_holds 9 = .ok (.getfield 67, 3) ∧ 9 + 3 = 12 := ⟨by decide +kernel, rfl⟩
set_option maxRecDepth 20000 in
theorem dX0_holds_12 : decode cX0_holds 12 = .ok (.iload_n 2, 1) ∧ 12 + 1 = 13 := ⟨by decide +kernel, rfl⟩
set_option maxRecDepth 20000 in
theorem dX0_holds_13 : decode cX0_holds 13 = .ok (.iconst 1, 1) ∧ 13 + 1 = 14 := ⟨by decide +kernel, rfl⟩
set_option maxRecDepth 20000 in
theorem dX0_holds_14 : decode cX0_holds 14 = .ok (.isub, 1) ∧ 14 + 1 = 15 := ⟨by decide +kernel, rfl⟩
set_option maxRecDepth 20000 in
theorem dX0_holds_15 : decode cX0_holds 15 = .ok (.iaload, 1) ∧ 15 + 1 = 16 := ⟨by decide +kernel, rfl⟩
set_option maxRecDepth 20000 in
theorem dX0_holds_16 : decode cX0_holds 16 = .ok (.istore_n 3, 1) ∧ 16 + 1 = 17 := ⟨by decide +kernel, rfl⟩
set_option maxRecDepth 20000 in
theorem dX0_holds_17 : decode cX0_holds 17 = .ok (.aload_n 1, 1) ∧ 17 + 1 = 18 := ⟨by decide +kernel, rfl⟩
set_option maxRecDepth 20000 in
theorem dX0_holds_18 : decode cX0_holds 18 = .ok (.getfield 70, 3) ∧ 18 + 3 = 21 := ⟨by decide +kernel, rfl⟩
set_option maxRecDepth 20000 in
theorem dX0_holds_21 : decode cX0_holds 21 = .ok (.iload_n 2, 1) ∧ 21 + 1 = 22 := ⟨by decide +kernel, rfl⟩
set_option maxRecDepth 20000 in
theorem dX0_holds_22 : decode cX0_holds 22 = .ok (.iaload, 1) ∧ 22 + 1 = 23 := ⟨by decide +kernel, rfl⟩
set_option maxRecDepth 20000 in
theorem dX0_holds_23 : decode cX0_holds 23 = .ok (.istore 4, 2) ∧ 23 + 2 = 25 := ⟨by decide +kernel, rfl⟩
set_option maxRecDepth 20000 in
theorem dX0_holds_25 : decode cX0_holds 25 = .ok (.iload 4, 2) ∧ 25 + 2 = 27 := ⟨by decide +kernel, rfl⟩
set_option maxRecDepth 20000 in
theorem dX0_holds_27 : decode cX0_holds 27 = .ok (.aload_n 1, 1) ∧ 27 + 1 = 28 := ⟨by decide +kernel, rfl⟩
set_option maxRecDepth 20000 in
theorem dX0_holds_28 : decode cX0_holds 28 = .ok (.getfield 67, 3) ∧ 28 + 3 = 31 := ⟨by decide +kernel, rfl⟩
set_option maxRecDepth 20000 in
theorem dX0_holds_31 : decode cX0_holds 31 = .ok (.iload_n 2, 1) ∧ 31 + 1 = 32 := ⟨by decide +kernel, rfl⟩
set_option maxRecDepth 20000 in
theorem dX0_holds_32 : decode cX0_holds 32 = .ok (.iaload, 1) ∧ 32 + 1 = 33 := ⟨by decide +kernel, rfl⟩
set_option maxRecDepth 20000 in
theorem dX0_holds_33 : decode cX0_holds 33 = .ok (.if_icmp .ge 36, 3) ∧ 33 + 3 = 36 ∧ ((33 : Nat) : Int) + (36) = ((69 : Nat) : Int) := ⟨by decide +kernel, rfl, by decide⟩
set_option maxRecDepth 20000 in
theorem dX0_holds_36 : decode cX0_holds 36 = .ok (.aload_n 0, 1) ∧ 36 + 1 = 37 := ⟨by decide +kernel, rfl⟩
set_option maxRecDepth 20000 in
theorem dX0_holds_37 : decode cX0_holds 37 = .ok (.aload_n 1, 1) ∧ 37 + 1 = 38 := ⟨by decide +kernel, rfl⟩
set_option maxRecDepth 20000 in
theorem dX0_holds_38 : decode cX0_holds 38 = .ok (.iload 4, 2) ∧ 38 + 2 = 40 := ⟨by decide +kernel, rfl⟩
set_option maxRecDepth 20000 in
theorem dX0_holds_40 : decode cX0_holds 40 = .ok (.aload_n 1, 1) ∧ 40 + 1 = 41 := ⟨by decide +kernel, rfl⟩
set_option maxRecDepth 20000 in
theorem dX0_holds_41 : decode cX0_holds 41 = .ok (.getfield 67, 3) ∧ 41 + 3 = 44 := ⟨by decide +kernel, rfl⟩
set_option maxRecDepth 20000 in
theorem dX0_holds_44 : decode cX0_holds 44 = .ok (.iload_n 2, 1) ∧ 44 + 1 = 45 := ⟨by decide +kernel, rfl⟩
set_option maxRecDepth 20000 in
theorem dX0_holds_45 : decode cX0_holds 45 = .ok (.iaload, 1) ∧ 45 + 1 = 46 := ⟨by decide +kernel, rfl⟩
set_option maxRecDepth 20000 in
theorem dX0_holds_46 : decode cX0_holds 46 = .ok (.invokevirtual 73, 3) ∧ 46 + 3 = 49 := ⟨by decide +kernel, rfl⟩
set_option maxRecDepth 20000 in
theorem dX0_holds_49 : decode cX0_holds 49 = .ok (.istore 5, 2) ∧ 49 + 2 = 51 := ⟨by decide +kernel, rfl⟩
set_option maxRecDepth 20000 in
theorem dX0_holds_51 : decode cX0_holds 51 = .ok (.iload 5, 2) ∧ 51 + 2 = 53 := ⟨by decide +kernel, rfl⟩
set_option maxRecDepth 20000 in
theorem dX0_holds_53 : decode cX0_holds 53 = .ok (.ifCond .eq 14, 3) ∧ 53 + 3 = 56 ∧ ((53 : Nat) : Int) + (14) = ((67 : Nat) : Int) := ⟨by decide +kernel, rfl, by decide⟩
set_option maxRecDepth 20000 in
theorem dX0_holds_56 : decode cX0_holds 56 = .ok (.aload_n 0, 1) ∧ 56 + 1 = 57 := ⟨by decide +kernel, rfl⟩
set_option maxRecDepth 20000 in
theorem dX0_holds_57 : decode cX0_holds 57 = .ok (.getfield 17, 3) ∧ 57 + 3 = 60 := ⟨by decide +kernel, rfl⟩
set_option maxRecDepth 20000 in
theorem dX0_holds_60 : decode cX0_holds 60 = .ok (.iconst 0, 1) ∧ 60 + 1 = 61 := ⟨by decide +kernel, rfl⟩
set_option maxRecDepth 20000 in
theorem dX0_holds_61 : decode cX0_holds 61 = .ok (.laload, 1) ∧ 61 + 1 = 62 := ⟨by decide +kernel, rfl⟩
set_option maxRecDepth 20000 in
theorem dX0_holds_62 : decode cX0_holds 62 = .ok (.lconst 0, 1) ∧ 62 + 1 = 63 := ⟨by decide +kernel, rfl⟩
set_option maxRecDepth 20000 in
theorem dX0_holds_63 : decode cX0_holds 63 = .ok (.lcmp, 1) ∧ 63 + 1 = 64 := ⟨by decide +kernel, rfl⟩
set_option maxRecDepth 20000 in
theorem dX0_holds_64 : decode cX0_holds 64 = .ok (.ifCond .ne 5, 3) ∧ 64 + 3 = 67 ∧ ((64 : Nat) : Int) + (5) = ((69 : Nat) : Int) := ⟨by decide +kernel, rfl, by decide⟩
set_option maxRecDepth 20000 in
theorem dX0_holds_67 : decode cX0_holds 67 = .ok (.iconst 0, 1) ∧ 67 + 1 = 68 := ⟨by decide +kernel, rfl⟩
set_option maxRecDepth 20000 in
theorem dX0_holds_68 : decode cX0_holds 68 = .ok (.ireturn, 1) := by decide +kernel
set_option maxRecDepth 20000 in
theorem dX0_holds_69 : decode cX0_holds 69 = .ok (.aload_n 0, 1) ∧ 69 + 1 = 70 := ⟨by decide +kernel, rfl⟩
set_option maxRecDepth 20000 in
theorem dX0_holds_70 : decode cX0_holds 70 = .ok (.aload_n 1, 1) ∧ 70 + 1 = 71 := ⟨by decide +kernel, rfl⟩
set_option maxRecDepth 20000 in
theorem dX0_holds_71 : decode cX0_holds 71 = .ok (.iload_n 3, 1) ∧ 71 + 1 = 72 := ⟨by decide +kernel, rfl⟩
set_option maxRecDepth 20000 in
theorem dX0_holds_72 : decode cX0_holds 72 = .ok (.iload 4, 2) ∧ 72 + 2 = 74 := ⟨by decide +kernel, rfl⟩
set_option maxRecDepth 20000 in
theorem dX0_holds_74 : decode cX0_holds 74 = .ok (.invokevirtual 73, 3) ∧ 74 + 3 = 77 := ⟨by decide +kernel, rfl⟩
set_option maxRecDepth 20000 in
theorem dX0_holds_77 : decode cX0_holds 77 = .ok (.istore 5, 2) ∧ 77 + 2 = 79 := ⟨by decide +kernel, rfl⟩
set_option maxRecDepth 20000 in
theorem dX0_holds_79 : decode cX0_holds 79 = .ok (.aload_n 0, 1) ∧ 79 + 1 = 80 := ⟨by decide +kernel, rfl⟩
set_option maxRecDepth 20000 in
theorem dX0_holds_80 : decode cX0_holds 80 = .ok (.aload_n 0, 1) ∧ 80 + 1 = 81 := ⟨by decide +kernel, rfl⟩
set_option maxRecDepth 20000 in
theorem dX0_holds_81 : decode cX0_holds 81 = .ok (.getfield 17, 3) ∧ 81 + 3 = 84 := ⟨by decide +kernel, rfl⟩
set_option maxRecDepth 20000 in
theorem dX0_holds_84 : decode cX0_holds 84 = .ok (.iconst 0, 1) ∧ 84 + 1 = 85 := ⟨by decide +kernel, rfl⟩
set_option maxRecDepth 20000 in
theorem dX0_holds_85 : decode cX0_holds 85 = .ok (.laload, 1) ∧ 85 + 1 = 86 := ⟨by decide +kernel, rfl⟩
set_option maxRecDepth 20000 in
theorem dX0_holds_86 : decode cX0_holds 86 = .ok (.putfield 54, 3) ∧ 86 + 3 = 89 := ⟨by decide +kernel, rfl⟩
set_option maxRecDepth 20000 in
theorem dX0_holds_89 : decode cX0_holds 89 = .ok (.iload 5, 2) ∧ 89 + 2 = 91 := ⟨by decide +kernel, rfl⟩
set_option maxRecDepth 20000 in
theorem dX0_holds_91 : decode cX0_holds 91 = .ok (.ireturn, 1) := by decide +kernel
set_option maxRecDepth 20000 in
theorem dX0_follow_0 : decode cX0_follow 0 = .ok (.aload_n 0, 1) ∧ 0 + 1 = 1 := ⟨by decide +kernel, rfl⟩
set_option maxRecDepth 20000 in
theorem dX0_follow_1 : decode cX0_follow 1 = .ok (.iconst 0, 1) ∧ 1 + 1 = 2 := ⟨by decide +kernel, rfl⟩
set_option maxRecDepth 20000 in
theorem dX0_follow_2 : decode cX0_follow 2 = .ok (.putfield 77, 3) ∧ 2 + 3 = 5 := ⟨by decide +kernel, rfl⟩
set_option maxRecDepth 20000 in
theorem dX0_follow_5 : decode cX0_follow 5 = .ok (.iload_n 2, 1) ∧ 5 + 1 = 6 := ⟨by decide +kernel, rfl⟩
set_option maxRecDepth 20000 in
theorem dX0_follow_6 : decode cX0_follow 6 = .ok (.istore 4, 2) ∧ 6 + 2 = 8 := ⟨by decide +kernel, rfl⟩
set_option maxRecDepth 20000 in
theorem dX0_follow_8 : decode cX0_follow 8 = .ok (.iload 4, 2) ∧ 8 + 2 = 10 := ⟨by decide +kernel, rfl⟩
set_option maxRecDepth 20000 in
theorem dX0_follow_10 : decode cX0_follow 10 = .ok (.iload_n 3, 1) ∧ 10 + 1 = 11 := ⟨by decide +kernel, rfl⟩
set_option maxRecDepth 20000 in
theorem dX0_follow_11 : decode cX0_follow 11 = .ok (.if_icmp .ge 233, 3) ∧ 11 + 3 = 14 ∧ ((11 : Nat) : Int) + (233) = ((244 : Nat) : Int) := ⟨by decide +kernel, rfl, by decide⟩
set_option maxRecDepth 20000 in
theorem dX0_follow_14 : decode cX0_follow 14 = .ok (.iload 4, 2) ∧ 14 + 2 = 16 := ⟨by decide +kernel, rfl⟩
set_option maxRecDepth 20000 in
theorem dX0_follow_16 : decode cX0_follow 16 = .ok (.aload_n 1, 1) ∧ 16 + 1 = 17 := ⟨by decide +kernel, rfl⟩
set_option maxRecDepth 20000 in
theorem dX0_follow_17 : decode cX0_follow 17 = .ok (.getfield 81, 3) ∧ 17 + 3 = 20 := ⟨by decide +kernel, rfl⟩
set_option maxRecDepth 20000 in
theorem dX0_follow_20 : decode cX0_follow 20 = .ok (.arraylength, 1) ∧ 20 + 1 = 21 := ⟨by decide +kernel, rfl⟩
set_option maxRecDepth 20000 in
theorem dX0_follow_21 : decode cX0_follow 21 = .ok (.if_icmp .ge 223, 3) ∧ 21 + 3 = 24 ∧ ((21 : Nat) : Int) + (223) = ((244 : Nat) : Int) := ⟨by decide +kernel, rfl, by decide⟩
set_option maxRecDepth 20000 in
theorem dX0_follow_24 : decode cX0_follow 24 = .ok (.aload_n 1, 1) ∧ 24 + 1 = 25 := ⟨by decide +kernel, rfl⟩
set_option maxRecDepth 20000 in
theorem dX0_follow_25 : decode cX0_follow 25 = .ok (.getfield 81, 3) ∧ 25 + 3 = 28 := ⟨by decide +kernel, rfl⟩
set_option maxRecDepth 20000 in
theorem dX0_follow_28 : decode cX0_follow 28 = .ok (.iload 4, 2) ∧ 28 + 2 = 30 := ⟨by decide +kernel, rfl⟩
set_option maxRecDepth 20000 in
theorem dX0_follow_30 : decode cX0_follow 30 = .ok (.iaload, 1) ∧ 30 + 1 = 31 := ⟨by decide +kernel, rfl⟩
set_option maxRecDepth 20000 in
theorem dX0_follow_31 : decode cX0_follow 31 = .ok (.sipush 1024, 3) ∧ 31 + 3 = 34 := ⟨by decide +kernel, rfl⟩
set_option maxRecDepth 20000 in
theorem dX0_follow_34 : decode cX0_follow 34 = .ok (.idiv, 1) ∧ 34 + 1 = 35 := ⟨by decide +kernel, rfl⟩
set_option maxRecDepth 20000 in
theorem dX0_follow_35 : decode cX0_follow 35 = .ok (.istore 5, 2) ∧ 35 + 2 = 37 := ⟨by decide +kernel, rfl⟩
set_option maxRecDepth 20000 in
theorem dX0_follow_37 : decode cX0_follow 37 = .ok (.aload_n 1, 1) ∧ 37 + 1 = 38 := ⟨by decide +kernel, rfl⟩
set_option maxRecDepth 20000 in
theorem dX0_follow_38 : decode cX0_follow 38 = .ok (.getfield 81, 3) ∧ 38 + 3 = 41 := ⟨by decide +kernel, rfl⟩
set_option maxRecDepth 20000 in
theorem dX0_follow_41 : decode cX0_follow 41 = .ok (.iload 4, 2) ∧ 41 + 2 = 43 := ⟨by decide +kernel, rfl⟩
set_option maxRecDepth 20000 in
theorem dX0_follow_43 : decode cX0_follow 43 = .ok (.iaload, 1) ∧ 43 + 1 = 44 := ⟨by decide +kernel, rfl⟩
set_option maxRecDepth 20000 in
theorem dX0_follow_44 : decode cX0_follow 44 = .ok (.sipush 1024, 3) ∧ 44 + 3 = 47 := ⟨by decide +kernel, rfl⟩
set_option maxRecDepth 20000 in
theorem dX0_follow_47 : decode cX0_follow 47 = .ok (.irem, 1) ∧ 47 + 1 = 48 := ⟨by decide +kernel, rfl⟩
set_option maxRecDepth 20000 in
theorem dX0_follow_48 : decode cX0_follow 48 = .ok (.istore 6, 2) ∧ 48 + 2 = 50 := ⟨by decide +kernel, rfl⟩
set_option maxRecDepth 20000 in
theorem dX0_follow_50 : decode cX0_follow 50 = .ok (.iload 5, 2) ∧ 50 + 2 = 52 := ⟨by decide +kernel, rfl⟩
set_option maxRecDepth 20000 in
theorem dX0_follow_52 : decode cX0_follow 52 = .ok (.ifCond .ne 12, 3) ∧ 52 + 3 = 55 ∧ ((52 : Nat) : Int) + (12) = ((64 : Nat) : Int) := ⟨by decide +kernel, rfl, by decide⟩
set_option maxRecDepth 20000 in
theorem dX0_follow_55 : decode cX0_follow 55 = .ok (.aload_n 0, 1) ∧ 55 + 1 = 56 := ⟨by decide +kernel, rfl⟩
set_option maxRecDepth 20000 in
theorem dX0_follow_56 : decode cX0_follow 56 = .ok (.iload 6, 2) ∧ 56 + 2 = 58 := ⟨by decide +kernel, rfl⟩
set_option maxRecDepth 20000 in
theorem dX0_follow_58 : decode cX0_follow 58 = .ok (.invokevirtual 84, 3) ∧ 58 + 3 = 61 := ⟨by decide +kernel, rfl⟩
set_option maxRecDepth 20000 in
theorem dX0_follow_61 : decode cX0_follow 61 = .ok (.goto 177, 3) ∧ ((61 : Nat) : Int) + (177) = ((238 : Nat) : Int) := ⟨by decide +kernel, by decide⟩
set_option maxRecDepth 20000 in
theorem dX0_follow_64 : decode cX0_follow 64 = .ok (.iload 5, 2) ∧ 64 + 2 = 66 := ⟨by decide +kernel, rfl⟩
set_option maxRecDepth 20000 in
theorem dX0_follow_66 : decode cX0_follow 66 = .ok (.iconst 1, 1) ∧ 66 + 1 = 67 := ⟨by decide +kernel, rfl⟩
set_option maxRecDepth 20000 in
theorem dX0_follow_67 : decode cX0_follow 67 = .ok (.if_icmp .ne 28, 3) ∧ 67 + 3 = 70 ∧ ((67 : Nat) : Int) + (28) = ((95 : Nat) : Int) := ⟨by decide +kernel, rfl, by decide⟩
set_option maxRecDepth 20000 in
theorem dX0_follow_70 : decode cX0_follow 70 = .ok (.aload_n 0, 1) ∧ 70 + 1 = 71 := ⟨by decide +kernel, rfl⟩
set_option maxRecDepth 20000 in
theorem dX0_follow_71 : decode cX0_follow 71 = .ok (.iload 6, 2) ∧ 71 + 2 = 73 := ⟨by decide +kernel, rfl⟩
set_option maxRecDepth 20000 in
theorem dX0_follow_73 : decode cX0_follow 73 = .ok (.bipush 10, 2) ∧ 73 + 2 = 75 := ⟨by decide +kernel, rfl⟩
set_option maxRecDepth 20000 in
theorem dX0_follow_75 : decode cX0_follow 75 = .ok (.if_icmp .ge 13, 3) ∧ 75 + 3 = 78 ∧ ((75 : Nat) : Int) + (13) = ((88 : Nat) : Int) := ⟨by decide +kernel, rfl, by decide⟩
set_option maxRecDepth 20000 in
theorem dX0_follow_78 : decode cX0_follow 78 = .ok (.aload_n 0, 1) ∧ 78 + 1 = 79 := ⟨by decide +kernel, rfl⟩
set_option maxRecDepth 20000 in
theorem dX0_follow_79 : decode cX0_follow 79 = .ok (.getfield 11, 3) ∧ 79 + 3 = 82 := ⟨by decide +kernel, rfl⟩
set_option maxRecDepth 20000 in
theorem dX0_follow_82 : decode cX0_follow 82 = .ok (.iload 6, 2) ∧ 82 + 2 = 84 := ⟨by decide +kernel, rfl⟩
set_option maxRecDepth 20000 in
theorem dX0_follow_84 : decode cX0_follow 84 = .ok (.iaload, 1) ∧ 84 + 1 = 85 := ⟨by decide +kernel, rfl⟩
set_option maxRecDepth 20000 in
theorem dX0_follow_85 : decode cX0_follow 85 = .ok (.goto 4, 3) ∧ ((85 : Nat) : Int) + (4) = ((89 : Nat) : Int) := ⟨by decide +kernel, by decide⟩
set_option maxRecDepth 20000 in
theorem dX0_follow_88 : decode cX0_follow 88 = .ok (.iconst 0, 1) ∧ 88 + 1 = 89 := ⟨by decide +kernel, rfl⟩
set_option maxRecDepth 20000 in
theorem dX0_follow_89 : decode cX0_follow 89 = .ok (.invokevirtual 84, 3) ∧ 89 + 3 = 92 := ⟨by decide +kernel, rfl⟩
set_option maxRecDepth 20000 in
theorem dX0_follow_92 : decode cX0_follow 92 = .ok (.goto 146, 3) ∧ ((92 : Nat) : Int) + (146) = ((238 : Nat) : Int) := ⟨by decide +kernel, by decide⟩
set_option maxRecDepth 20000 in
theorem dX0_follow_95 : decode cX0_follow 95 = .ok (.aload_n 0, 1) ∧ 95 + 1 = 96 := ⟨by decide +kernel, rfl⟩
set_option maxRecDepth 20000 in
theorem dX0_follow_96 : decode cX0_follow 96 = .ok (.getfield 77, 3) ∧ 96 + 3 = 99 := ⟨by decide +kernel, rfl⟩
set_option maxRecDepth 20000 in
theorem dX0_follow_99 : decode cX0_follow 99 = .ok (.ifCond .ne 5, 3) ∧ 99 + 3 = 102 ∧ ((99 : Nat) : Int) + (5) = ((104 : Nat) : Int) := ⟨by decide +kernel, rfl, by decide⟩
set_option maxRecDepth 20000 in
theorem dX0_follow_102 : decode cX0_follow 102 = .ok (.iconst 0, 1) ∧ 102 + 1 = 103 := ⟨by decide +kernel, rfl⟩
set_option maxRecDepth 20000 in
theorem dX0_follow_103 : decode cX0_follow 103 = .ok (.ireturn, 1) := by decide +kernel
set_option maxRecDepth 20000 in
theorem dX0_follow_104 : decode cX0_follow 104 = .ok (.iload 5, 2) ∧ 104 + 2 = 106 := ⟨by decide +kernel, rfl⟩
set_option maxRecDepth 20000 in
theorem dX0_follow_106 : decode cX0_follow 106 = .ok (.bipush 9, 2) ∧ 106 + 2 = 108 := ⟨by decide +kernel, rfl⟩
set_option maxRecDepth 20000 in
theorem dX0_follow_108 : decode cX0_follow 108 = .ok (.if_icmp .ne 30, 3) ∧ 108 + 3 = 111 ∧ ((108 : Nat) : Int) + (30) = ((138 : Nat) : Int) := ⟨by decide +kernel, rfl, by decide⟩
set_option maxRecDepth 20000 in
theorem dX0_follow_111 : decode cX0_follow 111 = .ok (.aload_n 0, 1) ∧ 111 + 1 = 112 := ⟨by decide +kernel, rfl⟩
set_option maxRecDepth 20000 in
theorem dX0_follow_112 : decode cX0_follow 112 = .ok (.getfield 17, 3) ∧ 112 + 3 = 115 := ⟨by decide +kernel, rfl⟩
set_option maxRecDepth 20000 in
theorem dX0_follow_115 : decode cX0_follow 115 = .ok (.aload_n 0, 1) ∧ 115 + 1 = 116 := ⟨by decide +kernel, rfl⟩
set_option maxRecDepth 20000 in
theorem dX0_follow_116 : decode cX0_follow 116 = .ok (.getfield 77, 3) ∧ 116 + 3 = 119 := ⟨by decide +kernel, rfl⟩
set_option maxRecDepth 20000 in
theorem dX0_follow_119 : decode cX0_follow 119 = .ok (.iconst 1, 1) ∧ 119 + 1 = 120 := ⟨by decide +kernel, rfl⟩
set_option maxRecDepth 20000 in
theorem dX0_follow_120 : decode cX0_follow 120 = .ok (.isub, 1) ∧ 120 + 1 = 121 := ⟨by decide +kernel, rfl⟩
set_option maxRecDepth 20000 in
theorem dX0_follow_121 : decode cX0_follow 121 = .ok (.lconst 1, 1) ∧ 121 + 1 = 122 := ⟨by decide +kernel, rfl⟩
set_option maxRecDepth 20000 in
theorem dX0_follow_122 : decode cX0_follow 122 = .ok (.aload_n 0, 1) ∧ 122 + 1 = 123 := ⟨by decide +kernel, rfl⟩
set_option maxRecDepth 20000 in
theorem dX0_follow_123 : decode cX0_follow 123 = .ok (.getfield 17, 3) ∧ 123 + 3 = 126 := ⟨by decide +kernel, rfl⟩
set_option maxRecDepth 20000 in
theorem dX0_follow_126 : decode cX0_follow 126 = .ok (.aload_n 0, 1) ∧ 126 + 1 = 127 := ⟨by decide +kernel, rfl⟩
set_option maxRecDepth 20000 in
theorem dX0_follow_127 : decode cX0_follow 127 = .ok (.getfield 77, 3) ∧ 127 + 3 = 130 := ⟨by decide +kernel, rfl⟩
set_option maxRecDepth 20000 in
theorem dX0_follow_130 : decode cX0_follow 130 = .ok (.iconst 1, 1) ∧ 130 + 1 = 131 := ⟨by decide +kernel, rfl⟩
set_option maxRecDepth 20000 in
theorem dX0_follow_131 : decode cX0_follow 131 = .ok (.isub, 1) ∧ 131 + 1 = 132 := ⟨by decide +kernel, rfl⟩
set_option maxRecDepth 20000 in
theorem dX0_follow_132 : decode cX0_follow 132 = .ok (.laload, 1) ∧ 132 + 1 = 133 := ⟨by decide +kernel, rfl⟩
set_option maxRecDepth 20000 in
theorem dX0_follow_133 : decode cX0_follow 133 = .ok (.lsub, 1) ∧ 133 + 1 = 134 := ⟨by decide +kernel, rfl⟩
set_option maxRecDepth 20000 in
theorem dX0_follow_134 : decode cX0_follow 134 = .ok (.lastore, 1) ∧ 134 + 1 = 135 := ⟨by decide +kernel, rfl⟩
set_option maxRecDepth 20000 in
theorem dX0_follow_135 : decode cX0_follow 135 = .ok (.goto 103, 3) ∧ ((135 : Nat) : Int) + (103) = ((238 : Nat) : Int) := ⟨by decide +kernel, by decide⟩
set_option maxRecDepth 20000 in
theorem dX0_follow_138 : decode cX0_follow 138 = .ok (.iload 5, 2) ∧ 138 + 2 = 140 := ⟨by decide +kernel, rfl⟩
set_option maxRecDepth 20000 in
theorem dX0_follow_140 : decode cX0_follow 140 = .ok (.bipush 10, 2) ∧ 140 + 2 = 142 := ⟨by decide +kernel, rfl⟩
set_option maxRecDepth 20000 in
theorem dX0_follow_142 : decode cX0_follow 142 = .ok (.if_icmp .eq 10, 3) ∧ 142 + 3 = 145 ∧ ((142 : Nat) : Int) + (10) = ((152 : Nat) : Int) := ⟨by decide +kernel, rfl, by decide⟩
set_option maxRecDepth 20000 in
theorem dX0_follow_145 : decode cX0_follow 145 = .ok (.iload 5, 2) ∧ 145 + 2 = 147 := ⟨by decide +kernel, rfl⟩
set_option maxRecDepth 20000 in
theorem dX0_follow_147 : decode cX0_follow 147 = .ok (.bipush 11, 2) ∧ 147 + 2 = 149 := ⟨by decide +kernel, rfl⟩
set_option maxRecDepth 20000 in
theorem dX0_follow_149 : decode cX0_follow 149 = .ok (.if_icmp .ne 78, 3) ∧ 149 + 3 = 152 ∧ ((149 : Nat) : Int) + (78) = ((227 : Nat) : Int) := ⟨by decide +kernel, rfl, by decide⟩
set_option maxRecDepth 20000 in
theorem dX0_follow_152 : decode cX0_follow 152 = .ok (.aload_n 0, 1) ∧ 152 + 1 = 153 := ⟨by decide +kernel, rfl⟩
set_option maxRecDepth 20000 in
theorem dX0_follow_153 : decode cX0_follow 153 = .ok (.getfield 17, 3) ∧ 153 + 3 = 156 := ⟨by decide +kernel, rfl⟩
set_option maxRecDepth 20000 in
theorem dX0_follow_156 : decode cX0_follow 156 = .ok (.aload_n 0, 1) ∧ 156 + 1 = 157 := ⟨by decide +kernel, rfl⟩
set_option maxRecDepth 20000 in
theorem dX0_follow_157 : decode cX0_follow 157 = .ok (.getfield 77, 3) ∧ 157 + 3 = 160 := ⟨by decide +kernel, rfl⟩
set_option maxRecDepth 20000 in
theorem dX0_follow_160 : decode cX0_follow 160 = .ok (.iconst 1, 1) ∧ 160 + 1 = 161 := ⟨by decide +kernel, rfl⟩
set_option maxRecDepth 20000 in
theorem dX0_follow_161 : decode cX0_follow 161 = .ok (.isub, 1) ∧ 161 + 1 = 162 := ⟨by decide +kernel, rfl⟩
set_option maxRecDepth 20000 in
theorem dX0_follow_162 : decode cX0_follow 162 = .ok (.laload, 1) ∧ 162 + 1 = 163 := ⟨by decide +kernel, rfl⟩
set_option maxRecDepth 20000 in
theorem dX0_follow_163 : decode cX0_follow 163 = .ok (.lconst 1, 1) ∧ 163 + 1 = 164 := ⟨by decide +kernel, rfl⟩
set_option maxRecDepth 20000 in
theorem dX0_follow_164 : decode cX0_follow 164 = .ok (.lcmp, 1) ∧ 164 + 1 = 165 := ⟨by decide +kernel, rfl⟩
set_option maxRecDepth 20000 in
theorem dX0_follow_165 : decode cX0_follow 165 = .ok (.ifCond .ne 7, 3) ∧ 165 + 3 = 168 ∧ ((165 : Nat) : Int) + (7) = ((172 : Nat) : Int) := ⟨by decide +kernel, rfl, by decide⟩
set_option maxRecDepth 20000 in
theorem dX0_follow_168 : decode cX0_follow 168 = .ok (.iconst 1, 1) ∧ 168 + 1 = 169 := ⟨by decide +kernel, rfl⟩
set_option maxRecDepth 20000 in
theorem dX0_follow_169 : decode cX0_follow 169 = .ok (.goto 4, 3) ∧ ((169 : Nat) : Int) + (4) = ((173 : Nat) : Int) := ⟨by decide +kernel, by decide⟩
set_option maxRecDepth 20000 in
theorem dX0_follow_172 : decode cX0_follow 172 = .ok (.iconst 0, 1) ∧ 172 + 1 = 173 := ⟨by decide +kernel, rfl⟩
set_option maxRecDepth 20000 in
theorem dX0_follow_173 : decode cX0_follow 173 = .ok (.iload 5, 2) ∧ 173 + 2 = 175 := ⟨by decide +kernel, rfl⟩
set_option maxRecDepth 20000 in
theorem dX0_follow_175 : decode cX0_follow 175 = .ok (.bipush 10, 2) ∧ 175 + 2 = 177 := ⟨by decide +kernel, rfl⟩
set_option maxRecDepth 20000 in
theorem dX0_follow_177 : decode cX0_follow 177 = .ok (.if_icmp .ne 7, 3) ∧ 177 + 3 = 180 ∧ ((177 : Nat) : Int) + (7) = ((184 : Nat) : Int) := ⟨by decide +kernel, rfl, by decide⟩
set_option maxRecDepth 20000 in
theorem dX0_follow_180 : decode cX0_follow 180 = .ok (.iconst 1, 1) ∧ 180 + 1 = 181 := ⟨by decide +kernel, rfl⟩
set_option maxRecDepth 20000 in
theorem dX0_follow_181 : decode cX0_follow 181 = .ok (.goto 4, 3) ∧ ((181 : Nat) : Int) + (4) = ((185 : Nat) : Int) := ⟨by decide +kernel, by decide⟩
set_option maxRecDepth 20000 in
theorem dX0_follow_184 : decode cX0_follow 184 = .ok (.iconst 0, 1) ∧ 184 + 1 = 185 := ⟨by decide +kernel, rfl⟩
set_option maxRecDepth 20000 in
theorem dX0_follow_185 : decode cX0_follow 185 = .ok (.if_icmp .ne 7, 3) ∧ 185 + 3 = 188 ∧ ((185 : Nat) : Int) + (7) = ((192 : Nat) : Int) := ⟨by decide +kernel, rfl, by decide⟩
set_option maxRecDepth 20000 in
theorem dX0_follow_188 : decode cX0_follow 188 = .ok (.iconst 1, 1) ∧ 188 + 1 = 189 := ⟨by decide +kernel, rfl⟩
set_option maxRecDepth 20000 in
theorem dX0_follow_189 : decode cX0_follow 189 = .ok (.goto 4, 3) ∧ ((189 : Nat) : Int) + (4) = ((193 : Nat) : Int) := ⟨by decide +kernel, by decide⟩
set_option maxRecDepth 20000 in
theorem dX0_follow_192 : decode cX0_follow 192 = .ok (.iconst 0, 1) ∧ 192 + 1 = 193 := ⟨by decide +kernel, rfl⟩
set_option maxRecDepth 20000 in
theorem dX0_follow_193 : decode cX0_follow 193 = .ok (.istore 7, 2) ∧ 193 + 2 = 195 := ⟨by decide +kernel, rfl⟩
set_option maxRecDepth 20000 in
theorem dX0_follow_195 : decode cX0_follow 195 = .ok (.iload 7, 2) ∧ 195 + 2 = 197 := ⟨by decide +kernel, rfl⟩
set_option maxRecDepth 20000 in
theorem dX0_follow_197 : decode cX0_follow 197 = .ok (.ifCond .eq 17, 3) ∧ 197 + 3 = 200 ∧ ((197 : Nat) : Int) + (17) = ((214 : Nat) : Int) := ⟨by decide +kernel, rfl, by decide⟩
set_option maxRecDepth 20000 in
theorem dX0_follow_200 : decode cX0_follow 200 = .ok (.iload 4, 2) ∧ 200 + 2 = 202 := ⟨by decide +kernel, rfl⟩
set_option maxRecDepth 20000 in
theorem dX0_follow_202 : decode cX0_follow 202 = .ok (.iload 6, 2) ∧ 202 + 2 = 204 := ⟨by decide +kernel, rfl⟩
set_option maxRecDepth 20000 in
theorem dX0_follow_204 : decode cX0_follow 204 = .ok (.iconst 1, 1) ∧ 204 + 1 = 205 := ⟨by decide +kernel, rfl⟩
set_option maxRecDepth 20000 in
theorem dX0_follow_205 : decode cX0_follow 205 = .ok (.isub, 1) ∧ 205 + 1 = 206 := ⟨by decide +kernel, rfl⟩
set_option maxRecDepth 20000 in
theorem dX0_follow_206 : decode cX0_follow 206 = .ok (.invokestatic 88, 3) ∧ 206 + 3 = 209 := ⟨by decide +kernel, rfl⟩
set_option maxRecDepth 20000 in
theorem dX0_follow_209 : decode cX0_follow 209 = .ok (.istore 4, 2) ∧ 209 + 2 = 211 := ⟨by decide +kernel, rfl⟩
set_option maxRecDepth 20000 in
theorem dX0_follow_211 : decode cX0_follow 211 = .ok (.goto 13, 3) ∧ ((211 : Nat) : Int) + (13) = ((224 : Nat) : Int) := ⟨by decide +kernel, by decide⟩
set_option maxRecDepth 20000 in
theorem dX0_follow_214 : decode cX0_follow 214 = .ok (.aload_n 0, 1) ∧ 214 + 1 = 215 := ⟨by decide +kernel, rfl⟩
set_option maxRecDepth 20000 in
theorem dX0_follow_215 : decode cX0_follow 215 = .ok (.dup, 1) ∧ 215 + 1 = 216 := ⟨by decide +kernel, rfl⟩
set_option maxRecDepth 20000 in
theorem dX0_follow_216 : decode cX0_follow 216 = .ok (.getfield 77, 3) ∧ 216 + 3 = 219 := ⟨by decide +kernel, rfl⟩
set_option maxRecDepth 20000 in
theorem dX0_follow_219 : decode cX0_follow 219 = .ok (.iconst 1, 1) ∧ 219 + 1 = 220 := ⟨by decide +kernel, rfl⟩
set_option maxRecDepth 20000 in
theorem dX0_follow_220 : decode cX0_follow 220 = .ok (.isub, 1) ∧ 220 + 1 = 221 := ⟨by decide +kernel, rfl⟩
set_option maxRecDepth 20000 in
theorem dX0_follow_221 : decode cX0_follow 221 = .ok (.putfield 77, 3) ∧ 221 + 3 = 224 := ⟨by decide +kernel, rfl⟩
set_option maxRecDepth 20000 in
theorem dX0_follow_224 : decode cX0_follow 224 = .ok (.goto 14, 3) ∧ ((224 : Nat) : Int) + (14) = ((238 : Nat) : Int) := ⟨by decide +kernel, by decide⟩
set_option maxRecDepth 20000 in
theorem dX0_follow_227 : decode cX0_follow 227 = .ok (.aload_n 0, 1) ∧ 227 + 1 = 228 := ⟨by decide +kernel, rfl⟩
set_option maxRecDepth 20000 in
theorem dX0_follow_228 : decode cX0_follow 228 = .ok (.iload 5, 2) ∧ 228 + 2 = 230 := ⟨by decide +kernel, rfl⟩
set_option maxRecDepth 20000 in
theorem dX0_follow_230 : decode cX0_follow 230 = .ok (.invokevirtual 90, 3) ∧ 230 + 3 = 233 := ⟨by decide +kernel, rfl⟩
set_option maxRecDepth 20000 in
theorem dX0_follow_233 : decode cX0_follow 233 = .ok (.ifCond .ne 5, 3) ∧ 233 + 3 = 236 ∧ ((233 : Nat) : Int) + (5) = ((238 : Nat) : Int) := ⟨by decide +kernel, rfl, by decide⟩
set_option maxRecDepth 20000 in
theorem dX0_follow_236 : decode cX0_follow 236 = .ok (.iconst 0, 1) ∧ 236 + 1 = 237 := ⟨by decide +kernel, rfl⟩
set_option maxRecDepth 20000 in
theorem dX0_follow_237 : decode cX0_follow 237 = .ok (.ireturn, 1) := by decide +kernel
set_option maxRecDepth 20000 in
theorem dX0_follow_238 : decode cX0_follow 238 = .ok (.iinc 4 1, 3) ∧ 238 + 3 = 241 := ⟨by decide +kernel, rfl⟩
set_option maxRecDepth 20000 in
theorem dX0_follow_241 : decode cX0_follow 241 = .ok (.goto (-233), 3) ∧ ((241 : Nat) : Int) + (-233) = ((8 : Nat) : Int) := ⟨by decide +kernel, by decide⟩
set_option maxRecDepth 20000 in
theorem dX0_follow_244 : decode cX0_follow 244 = .ok (.aload_n 0, 1) ∧ 244 + 1 = 245 := ⟨by decide +kernel, rfl⟩
set_option maxRecDepth 20000 in
theorem dX0_follow_245 : decode cX0_follow 245 = .ok (.getfield 77, 3) ∧ 245 + 3 = 248 := ⟨by decide +kernel, rfl⟩
set_option maxRecDepth 20000 in
theorem dX0_follow_248 : decode cX0_follow 248 = .ok (.iconst 1, 1) ∧ 248 + 1 = 249 := ⟨by decide +kernel, rfl⟩
set_option maxRecDepth 20000 in
theorem dX0_follow_249 : decode cX0_follow 249 = .ok (.if_icmp .ne 7, 3) ∧ 249 + 3 = 252 ∧ ((249 : Nat) : Int) + (7) = ((256 : Nat) : Int) := ⟨by decide +kernel, rfl, by decide⟩
set_option maxRecDepth 20000 in
theorem dX0_follow_252 : decode cX0_follow 252 = .ok (.iconst 1, 1) ∧ 252 + 1 = 253 := ⟨by decide +kernel, rfl⟩
set_option maxRecDepth 20000 in
theorem dX0_follow_253 : decode cX0_follow 253 = .ok (.goto 4, 3) ∧ ((253 : Nat) : Int) + (4) = ((257 : Nat) : Int) := ⟨by decide +kernel, by decide⟩
set_option maxRecDepth 20000 in
theorem dX0_follow_256 : decode cX0_follow 256 = .ok (.iconst 0, 1) ∧ 256 + 1 = 257 := ⟨by decide +kernel, rfl⟩
set_option maxRecDepth 20000 in
theorem dX0_follow_257 : decode cX0_follow 257 = .ok (.ireturn, 1) := by decide +kernel
set_option maxRecDepth 20000 in
theorem dX0_push_0 : decode cX0_push 0 = .ok (.aload_n 0, 1) ∧ 0 + 1 = 1 := ⟨by decide +kernel, rfl⟩
set_option maxRecDepth 20000 in
theorem dX0_push_1 : decode cX0_push 1 = .ok (.getfield 77, 3) ∧ 1 + 3 = 4 := ⟨by decide +kernel, rfl⟩
set_option maxRecDepth 20000 in
theorem dX0_push_4 : decode cX0_push 4 = .ok (.aload_n 0, 1) ∧ 4 + 1 = 5 := ⟨by decide +kernel, rfl⟩
set_option maxRecDepth 20000 in
theorem dX0_push_5 : decode cX0_push 5 = .ok (.getfield 17, 3) ∧ 5 + 3 = 8 := ⟨by decide +kernel, rfl⟩
set_option maxRecDepth 20000 in
theorem dX0_push_8 : decode cX0_push 8 = .ok (.arraylength, 1) ∧ 8 + 1 = 9 := ⟨by decide +kernel, rfl⟩
set_option maxRecDepth 20000 in
theorem dX0_push_9 : decode cX0_push 9 = .ok (.if_icmp .ge 24, 3) ∧ 9 + 3 = 12 ∧ ((9 : Nat) : Int) + (24) = ((33 : Nat) : Int) := ⟨by decide +kernel, rfl, by decide⟩
set_option maxRecDepth 20000 in
theorem dX0_push_12 : decode cX0_push 12 = .ok (.aload_n 0, 1) ∧ 12 + 1 = 13 := ⟨by decide +kernel, rfl⟩
set_option maxRecDepth 20000 in
theorem dX0_push_13 : decode cX0_push 13 = .ok (.getfield 17, 3) ∧ 13 + 3 = 16 := ⟨by decide +kernel, rfl⟩
set_option maxRecDepth 20000 in
theorem dX0_push_16 : decode cX0_push 16 = .ok (.aload_n 0, 1) ∧ 16 + 1 = 17 := ⟨by decide +kernel, rfl⟩
set_option maxRecDepth 20000 in
theorem dX0_push_17 : decode cX0_push 17 = .ok (.getfield 77, 3) ∧ 17 + 3 = 20 := ⟨by decide +kernel, rfl⟩
set_option maxRecDepth 20000 in
theorem dX0_push_20 : decode cX0_push 20 = .ok (.iload_n 1, 1) ∧ 20 + 1 = 21 := ⟨by decide +kernel, rfl⟩
set_option maxRecDepth 20000 in
theorem dX0_push_21 : decode cX0_push 21 = .ok (.i2l, 1) ∧ 21 + 1 = 22 := ⟨by decide +kernel, rfl⟩
set_option maxRecDepth 20000 in
theorem dX0_push_22 : decode cX0_push 22 = .ok (.lastore, 1) ∧ 22 + 1 = 23 := ⟨by decide +kernel, rfl⟩
set_option maxRecDepth 20000 in
theorem dX0_push_23 : decode cX0_push 23 = .ok (.aload_n 0, 1) ∧ 23 + 1 = 24 := ⟨by decide +kernel, rfl⟩
set_option maxRecDepth 20000 in
theorem dX0_push_24 : decode cX0_push 24 = .ok (.dup, 1) ∧ 24 + 1 = 25 := ⟨by decide +kernel, rfl⟩
set_option maxRecDepth 20000 in
theorem dX0_push_25 : decode cX0_push 25 = .ok (.getfield 77, 3) ∧ 25 + 3 = 28 := ⟨by decide +kernel, rfl⟩
set_option maxRecDepth 20000 in
theorem dX0_push_28 : decode cX0_push 28 = .ok (.iconst 1, 1) ∧ 28 + 1 = 29 := ⟨by decide +kernel, rfl⟩
set_option maxRecDepth 20000 in
theorem dX0_push_29 : decode cX0_push 29 = .ok (.iadd, 1) ∧ 29 + 1 = 30 := ⟨by decide +kernel, rfl⟩
set_option maxRecDepth 20000 in
theorem dX0_push_30 : decode cX0_push 30 = .ok (.putfield 77, 3) ∧ 30 + 3 = 33 := ⟨by decide +kernel, rfl⟩
set_option maxRecDepth 20000 in
theorem dX0_push_33 : decode cX0_push 33 = .ok (.return_, 1) := by decide +kernel
set_option maxRecDepth 20000 in
theorem dX0_combine_0 : decode cX0_combine 0 = .ok (.aload_n 0, 1) ∧ 0 + 1 = 1 := ⟨by decide +kernel, rfl⟩
set_option maxRecDepth 20000 in
theorem dX0_combine_1 : decode cX0_combine 1 = .ok (.getfield 77, 3) ∧ 1 + 3 = 4 := ⟨by decide +kernel, rfl⟩
set_option maxRecDepth 20000 in
theorem dX0_combine_4 : decode cX0_combine 4 = .ok (.iconst 2, 1) ∧ 4 + 1 = 5 := ⟨by decide +kernel, rfl⟩
set_option maxRecDepth 20000 in
theorem dX0_combine_5 : decode cX0_combine 5 = .ok (.if_icmp .lt 24, 3) ∧ 5 + 3 = 8 ∧ ((5 : Nat) : Int) + (24) = ((29 : Nat) : Int) := ⟨by decide +kernel, rfl, by decide⟩
set_option maxRecDepth 20000 in
theorem dX0_combine_8 : decode cX0_combine 8 = .ok (.iload_n 1, 1) ∧ 8 + 1 = 9 := ⟨by decide +kernel, rfl⟩
set_option maxRecDepth 20000 in
theorem dX0_combine_9 : decode cX0_combine 9 = .ok (.iconst 5, 1) ∧ 9 + 1 = 10 := ⟨by decide +kernel, rfl⟩
set_option maxRecDepth 20000 in
theorem dX0_combine_10 : decode cX0_combine 10 = .ok (.if_icmp .ne 21, 3) ∧ 10 + 3 = 13 ∧ ((10 : Nat) : Int) + (21) = ((31 : Nat) : Int) := ⟨by decide +kernel, rfl, by decide⟩
set_option maxRecDepth 20000 in
theorem dX0_combine_13 : decode cX0_combine 13 = .ok (.aload_n 0, 1) ∧ 13 + 1 = 14 := ⟨by decide +kernel, rfl⟩
set_option maxRecDepth 20000 in
theorem dX0_combine_14 : decode cX0_combine 14 = .ok (.getfield 17, 3) ∧ 14 + 3 = 17 := ⟨by decide +kernel, rfl⟩
set_option maxRecDepth 20000 in
theorem dX0_combine_17 : decode cX0_combine 17 = .ok (.aload_n 0, 1) ∧ 17 + 1 = 18 := ⟨by decide +kernel, rfl⟩
set_option maxRecDepth 20000 in
theorem dX0_combine_18 : decode cX0_combine 18 = .ok (.getfield 77, 3) ∧ 18 + 3 = 21 := ⟨by decide +kernel, rfl⟩
set_option maxRecDepth 20000 in
theorem dX0_combine_21 : decode cX0_combine 21 = .ok (.iconst 1, 1) ∧ 21 + 1 = 22 := ⟨by decide +kernel, rfl⟩
set_option maxRecDepth 20000 in
theorem dX0_combine_22 : decode cX0_combine 22 = .ok (.isub, 1) ∧ 22 + 1 = 23 := ⟨by decide +kernel, rfl⟩
set_option maxRecDepth 20000 in
theorem dX0_combine_23 : decode cX0_combine 23 = .ok (.laload, 1) ∧ 23 + 1 = 24 := ⟨by decide +kernel, rfl⟩
set_option maxRecDepth 20000 in
theorem dX0_combine_24 : decode cX0_combine 24 = .ok (.lconst 0, 1) ∧ 24 + 1 = 25 := ⟨by decide +kernel, rfl⟩
set_option maxRecDepth 20000 in
theorem dX0_combine_25 : decode cX0_combine 25 = .ok (.lcmp, 1) ∧ 25 + 1 = 26 := ⟨by decide +kernel, rfl⟩
set_option maxRecDepth 20000 in
theorem dX0_combine_26 : decode cX0_combine 26 = .ok (.ifCond .ne 5, 3) ∧ 26 + 3 = 29 ∧ ((26 : Nat) : Int) + (5) = ((31 : Nat) : Int) := ⟨by decide +kernel, rfl, by decide⟩
set_option maxRecDepth 20000 in
theorem dX0_combine_29 : decode cX0_combine 29 = .ok (.iconst 0, 1) ∧ 29 + 1 = 30 := ⟨by decide +kernel, rfl⟩
set_option maxRecDepth 20000 in
theorem dX0_combine_30 : decode cX0_combine 30 = .ok (.ireturn, 1) := by decide +kernel
set_option maxRecDepth 20000 in
theorem dX0_combine_31 : decode cX0_combine 31 = .ok (.aload_n 0, 1) ∧ 31 + 1 = 32 := ⟨by decide +kernel, rfl⟩
set_option maxRecDepth 20000 in
theorem dX0_combine_32 : decode cX0_combine 32 = .ok (.dup, 1) ∧ 32 + 1 = 33 := ⟨by decide +kernel, rfl⟩
set_option maxRecDepth 20000 in
theorem dX0_combine_33 : decode cX0_combine 33 = .ok (.getfield 77, 3) ∧ 33 + 3 = 36 := ⟨by decide +kernel, rfl⟩
set_option maxRecDepth 20000 in
theorem dX0_combine_36 : decode cX0_combine 36 = .ok (.iconst 1, 1) ∧ 36 + 1 = 37 := ⟨by decide +kernel, rfl⟩
set_option maxRecDepth 20000 in
theorem dX0_combine_37 : decode cX0_combine 37 = .ok (.isub, 1) ∧ 37 + 1 = 38 := ⟨by decide +kernel, rfl⟩
set_option maxRecDepth 20000 in
theorem dX0_combine_38 : decode cX0_combine 38 = .ok (.putfield 77, 3) ∧ 38 + 3 = 41 := ⟨by decide +kernel, rfl⟩
set_option maxRecDepth 20000 in
theorem dX0_combine_41 : decode cX0_combine 41 = .ok (.aload_n 0, 1) ∧ 41 + 1 = 42 := ⟨by decide +kernel, rfl⟩
set_option maxRecDepth 20000 in
theorem dX0_combine_42 : decode cX0_combine 42 = .ok (.getfield 17, 3) ∧ 42 + 3 = 45 := ⟨by decide +kernel, rfl⟩
set_option maxRecDepth 20000 in
theorem dX0_combine_45 : decode cX0_combine 45 = .ok (.aload_n 0, 1) ∧ 45 + 1 = 46 := ⟨by decide +kernel, rfl⟩
set_option maxRecDepth 20000 in
theorem dX0_combine_46 : decode cX0_combine 46 = .ok (.getfield 77, 3) ∧ 46 + 3 = 49 := ⟨by decide +kernel, rfl⟩
set_option maxRecDepth 20000 in
theorem dX0_combine_49 : decode cX0_combine 49 = .ok (.iconst 1, 1) ∧ 49 + 1 = 50 := ⟨by decide +kernel, rfl⟩
set_option maxRecDepth 20000 in
theorem dX0_combine_50 : decode cX0_combine 50 = .ok (.isub, 1) ∧ 50 + 1 = 51 := ⟨by decide +kernel, rfl⟩
set_option maxRecDepth 20000 in
theorem dX0_combine_51 : decode cX0_combine 51 = .ok (.laload, 1) ∧ 51 + 1 = 52 := ⟨by decide +kernel, rfl⟩
set_option maxRecDepth 20000 in
theorem dX0_combine_52 : decode cX0_combine 52 = .ok (.lstore_n 2, 1) ∧ 52 + 1 = 53 := ⟨by decide +kernel, rfl⟩
set_option maxRecDepth 20000 in
theorem dX0_combine_53 : decode cX0_combine 53 = .ok (.aload_n 0, 1) ∧ 53 + 1 = 54 := ⟨by decide +kernel, rfl⟩
set_option maxRecDepth 20000 in
theorem dX0_combine_54 : decode cX0_combine 54 = .ok (.getfield 17, 3) ∧ 54 + 3 = 57 := ⟨by decide +kernel, rfl⟩
set_option maxRecDepth 20000 in
theorem dX0_combine_57 : decode cX0_combine 57 = .ok (.aload_n 0, 1) ∧ 57 + 1 = 58 := ⟨by decide +kernel, rfl⟩
set_option maxRecDepth 20000 in
theorem dX0_combine_58 : decode cX0_combine 58 = .ok (.getfield 77, 3) ∧ 58 + 3 = 61 := ⟨by decide +kernel, rfl⟩
set_option maxRecDepth 20000 in
theorem dX0_combine_61 : decode cX0_combine 61 = .ok (.laload, 1) ∧ 61 + 1 = 62 := ⟨by decide +kernel, rfl⟩
set_option maxRecDepth 20000 in
theorem dX0_combine_62 : decode cX0_combine 62 = .ok (.lstore 4, 2) ∧ 62 + 2 = 64 := ⟨by decide +kernel, rfl⟩
set_option maxRecDepth 20000 in
theorem dX0_combine_64 : decode cX0_combine 64 = .ok (.iload_n 1, 1) ∧ 64 + 1 = 65 := ⟨by decide +kernel, rfl⟩
set_option maxRecDepth 20000 in
theorem dX0_combine_65 : decode cX0_combine 65 = .ok (.tableswitch 120 2 7 #[39, 48, 57, 66, 86, 103], 39) := by decide +kernel
set_option maxRecDepth 20000 in
theorem dX0_combine_104 : decode cX0_combine 104 = .ok (.lload_n 2, 1) ∧ 104 + 1 = 105 := ⟨by decide +kernel, rfl⟩
set_option maxRecDepth 20000 in
theorem dX0_combine_105 : decode cX0_combine 105 = .ok (.lload 4, 2) ∧ 105 + 2 = 107 := ⟨by decide +kernel, rfl⟩
set_option maxRecDepth 20000 in
theorem dX0_combine_107 : decode cX0_combine 107 = .ok (.ladd, 1) ∧ 107 + 1 = 108 := ⟨by decide +kernel, rfl⟩
set_option maxRecDepth 20000 in
theorem dX0_combine_108 : decode cX0_combine 108 = .ok (.lstore 6, 2) ∧ 108 + 2 = 110 := ⟨by decide +kernel, rfl⟩
set_option maxRecDepth 20000 in
theorem dX0_combine_110 : decode cX0_combine 110 = .ok (.goto 89, 3) ∧ ((110 : Nat) : Int) + (89) = ((199 : Nat) : Int) := ⟨by decide +kernel, by decide⟩
set_option maxRecDepth 20000 in
theorem dX0_combine_113 : decode cX0_combine 113 = .ok (.lload_n 2, 1) ∧ 113 + 1 = 114 := ⟨by decide +kernel, rfl⟩
set_option maxRecDepth 20000 in
theorem dX0_combine_114 : decode cX0_combine 114 = .ok (.lload 4, 2) ∧ 114 + 2 = 116 := ⟨by decide +kernel, rfl⟩
set_option maxRecDepth 20000 in
theorem dX0_combine_116 : decode cX0_combine 116 = .ok (.lsub, 1) ∧ 116 + 1 = 117 := ⟨by decide +kernel, rfl⟩
set_option maxRecDepth 20000 in
theorem dX0_combine_117 : decode cX0_combine 117 = .ok (.lstore 6, 2) ∧ 117 + 2 = 119 := ⟨by decide +kernel, rfl⟩
set_option maxRecDepth 20000 in
theorem dX0_combine_119 : decode cX0_combine 119 = .ok (.goto 80, 3) ∧ ((119 : Nat) : Int) + (80) = ((199 : Nat) : Int) := ⟨by decide +kernel, by decide⟩
set_option maxRecDepth 20000 in
theorem dX0_combine_122 : decode cX0_combine 122 = .ok (.lload_n 2, 1) ∧ 122 + 1 = 123 := ⟨by decide +kernel, rfl⟩
set_option maxRecDepth 20000 in
theorem dX0_combine_123 : decode cX0_combine 123 = .ok (.lload 4, 2) ∧ 123 + 2 = 125 := ⟨by decide +kernel, rfl⟩
set_option maxRecDepth 20000 in
theorem dX0_combine_125 : decode cX0_combine 125 = .ok (.lmul, 1) ∧ 125 + 1 = 126 := ⟨by decide +kernel, rfl⟩
set_option maxRecDepth 20000 in
theorem dX0_combine_126 : decode cX0_combine 126 = .ok (.lstore 6, 2) ∧ 126 + 2 = 128 := ⟨by decide +kernel, rfl⟩
set_option maxRecDepth 20000 in
theorem dX0_combine_128 : decode cX0_combine 128 = .ok (.goto 71, 3) ∧ ((128 : Nat) : Int) + (71) = ((199 : Nat) : Int) := ⟨by decide +kernel, by decide⟩
set_option maxRecDepth 20000 in
theorem dX0_combine_131 : decode cX0_combine 131 = .ok (.lload 4, 2) ∧ 131 + 2 = 133 := ⟨by decide +kernel, rfl⟩
set_option maxRecDepth 20000 in
theorem dX0_combine_133 : decode cX0_combine 133 = .ok (.lconst 0, 1) ∧ 133 + 1 = 134 := ⟨by decide +kernel, rfl⟩
set_option maxRecDepth 20000 in
theorem dX0_combine_134 : decode cX0_combine 134 = .ok (.lcmp, 1) ∧ 134 + 1 = 135 := ⟨by decide +kernel, rfl⟩
set_option maxRecDepth 20000 in
theorem dX0_combine_135 : decode cX0_combine 135 = .ok (.ifCond .ne 7, 3) ∧ 135 + 3 = 138 ∧ ((135 : Nat) : Int) + (7) = ((142 : Nat) : Int) := ⟨by decide +kernel, rfl, by decide⟩
set_option maxRecDepth 20000 in
theorem dX0_combine_138 : decode cX0_combine 138 = .ok (.lconst 0, 1) ∧ 138 + 1 = 139 := ⟨by decide +kernel, rfl⟩
set_option maxRecDepth 20000 in
theorem dX0_combine_139 : decode cX0_combine 139 = .ok (.goto 7, 3) ∧ ((139 : Nat) : Int) + (7) = ((146 : Nat) : Int) := ⟨by decide +kernel, by decide⟩
set_option maxRecDepth 20000 in
theorem dX0_combine_142 : decode cX0_combine 142 = .ok (.lload_n 2, 1) ∧ 142 + 1 = 143 := ⟨by decide +kernel, rfl⟩
set_option maxRecDepth 20000 in
theorem dX0_combine_143 : decode cX0_combine 143 = .ok (.lload 4, 2) ∧ 143 + 2 = 145 := ⟨by decide +kernel, rfl⟩
set_option maxRecDepth 20000 in
theorem dX0_combine_145 : decode cX0_combine 145 = .ok (.ldiv, 1) ∧ 145 + 1 = 146 := ⟨by decide +kernel, rfl⟩
set_option maxRecDepth 20000 in
theorem dX0_combine_146 : decode cX0_combine 146 = .ok (.lstore 6, 2) ∧ 146 + 2 = 148 := ⟨by decide +kernel, rfl⟩
set_option maxRecDepth 20000 in
theorem dX0_combine_148 : decode cX0_combine 148 = .ok (.goto 51, 3) ∧ ((148 : Nat) : Int) + (51) = ((199 : Nat) : Int) := ⟨by decide +kernel, by decide⟩
set_option maxRecDepth 20000 in
theorem dX0_combine_151 : decode cX0_combine 151 = .ok (.lload_n 2, 1) ∧ 151 + 1 = 152 := ⟨by decide +kernel, rfl⟩
set_option maxRecDepth 20000 in
theorem dX0_combine_152 : decode cX0_combine 152 = .ok (.lload 4, 2) ∧ 152 + 2 = 154 := ⟨by decide +kernel, rfl⟩
set_option maxRecDepth 20000 in
theorem dX0_combine_154 : decode cX0_combine 154 = .ok (.lcmp, 1) ∧ 154 + 1 = 155 := ⟨by decide +kernel, rfl⟩
set_option maxRecDepth 20000 in
theorem dX0_combine_155 : decode cX0_combine 155 = .ok (.ifCond .ge 7, 3) ∧ 155 + 3 = 158 ∧ ((155 : Nat) : Int) + (7) = ((162 : Nat) : Int) := ⟨by decide +kernel, rfl, by decide⟩
set_option maxRecDepth 20000 in
theorem dX0_combine_158 : decode cX0_combine 158 = .ok (.lconst 1, 1) ∧ 158 + 1 = 159 := ⟨by decide +kernel, rfl⟩
set_option maxRecDepth 20000 in
theorem dX0_combine_159 : decode cX0_combine 159 = .ok (.goto 4, 3) ∧ ((159 : Nat) : Int) + (4) = ((163 : Nat) : Int) := ⟨by decide +kernel, by decide⟩
set_option maxRecDepth 20000 in
theorem dX0_combine_162 : decode cX0_combine 162 = .ok (.lconst 0, 1) ∧ 162 + 1 = 163 := ⟨by decide +kernel, rfl⟩
set_option maxRecDepth 20000 in
theorem dX0_combine_163 : decode cX0_combine 163 = .ok (.lstore 6, 2) ∧ 163 + 2 = 165 := ⟨by decide +kernel, rfl⟩
set_option maxRecDepth 20000 in
theorem dX0_combine_165 : decode cX0_combine 165 = .ok (.goto 34, 3) ∧ ((165 : Nat) : Int) + (34) = ((199 : Nat) : Int) := ⟨by decide +kernel, by decide⟩
set_option maxRecDepth 20000 in
theorem dX0_combine_168 : decode cX0_combine 168 = .ok (.lload_n 2, 1) ∧ 168 + 1 = 169 := ⟨by decide +kernel, rfl⟩
set_option maxRecDepth 20000 in
theorem dX0_combine_169 : decode cX0_combine 169 = .ok (.lload 4, 2) ∧ 169 + 2 = 171 := ⟨by decide +kernel, rfl⟩
set_option maxRecDepth 20000 in
theorem dX0_combine_171 : decode cX0_combine 171 = .ok (.lcmp, 1) ∧ 171 + 1 = 172 := ⟨by decide +kernel, rfl⟩
set_option maxRecDepth 20000 in
theorem dX0_combine_172 : decode cX0_combine 172 = .ok (.ifCond .le 7, 3) ∧ 172 + 3 = 175 ∧ ((172 : Nat) : Int) + (7) = ((179 : Nat) : Int) := ⟨by decide +kernel, rfl, by decide⟩
set_option maxRecDepth 20000 in
theorem dX0_combine_175 : decode cX0_combine 175 = .ok (.lconst 1, 1) ∧ 175 + 1 = 176 := ⟨by decide +kernel, rfl⟩
set_option maxRecDepth 20000 in
theorem dX0_combine_176 : decode cX0_combine 176 = .ok (.goto 4, 3) ∧ ((176 : Nat) : Int) + (4) = ((180 : Nat) : Int) := ⟨by decide +kernel, by decide⟩
set_option maxRecDepth 20000 in
theorem dX0_combine_179 : decode cX0_combine 179 = .ok (.lconst 0, 1) ∧ 179 + 1 = 180 := ⟨by decide +kernel, rfl⟩
set_option maxRecDepth 20000 in
theorem dX0_combine_180 : decode cX0_combine 180 = .ok (.lstore 6, 2) ∧ 180 + 2 = 182 := ⟨by decide +kernel, rfl⟩
set_option maxRecDepth 20000 in
theorem dX0_combine_182 : decode cX0_combine 182 = .ok (.goto 17, 3) ∧ ((182 : Nat) : Int) + (17) = ((199 : Nat) : Int) := ⟨by decide +kernel, by decide⟩
set_option maxRecDepth 20000 in
theorem dX0_combine_185 : decode cX0_combine 185 = .ok (.lload_n 2, 1) ∧ 185 + 1 = 186 := ⟨by decide +kernel, rfl⟩
set_option maxRecDepth 20000 in
theorem dX0_combine_186 : decode cX0_combine 186 = .ok (.lload 4, 2) ∧ 186 + 2 = 188 := ⟨by decide +kernel, rfl⟩
set_option maxRecDepth 20000 in
theorem dX0_combine_188 : decode cX0_combine 188 = .ok (.lcmp, 1) ∧ 188 + 1 = 189 := ⟨by decide +kernel, rfl⟩
set_option maxRecDepth 20000 in
theorem dX0_combine_189 : decode cX0_combine 189 = .ok (.ifCond .ne 7, 3) ∧ 189 + 3 = 192 ∧ ((189 : Nat) : Int) + (7) = ((196 : Nat) : Int) := ⟨by decide +kernel, rfl, by decide⟩
set_option maxRecDepth 20000 in
theorem dX0_combine_192 : decode cX0_combine 192 = .ok (.lconst 1, 1) ∧ 192 + 1 = 193 := ⟨by decide +kernel, rfl⟩
set_option maxRecDepth 20000 in
theorem dX0_combine_193 : decode cX0_combine 193 = .ok (.goto 4, 3) ∧ ((193 : Nat) : Int) + (4) = ((197 : Nat) : Int) := ⟨by decide +kernel, by decide⟩
set_option maxRecDepth 20000 in
theorem dX0_combine_196 : decode cX0_combine 196 = .ok (.lconst 0, 1) ∧ 196 + 1 = 197 := ⟨by decide +kernel, rfl⟩
set_option maxRecDepth 20000 in
theorem dX0_combine_197 : decode cX0_combine 197 = .ok (.lstore 6, 2) ∧ 197 + 2 = 199 := ⟨by decide +kernel, rfl⟩
set_option maxRecDepth 20000 in
theorem dX0_combine_199 : decode cX0_combine 199 = .ok (.aload_n 0, 1) ∧ 199 + 1 = 200 := ⟨by decide +kernel, rfl⟩
set_option maxRecDepth 20000 in
theorem dX0_combine_200 : decode cX0_combine 200 = .ok (.getfield 17, 3) ∧ 200 + 3 = 203 := ⟨by decide +kernel, rfl⟩
set_option maxRecDepth 20000 in
theorem dX0_combine_203 : decode cX0_combine 203 = .ok (.aload_n 0, 1) ∧ 203 + 1 = 204 := ⟨by decide +kernel, rfl⟩
set_option maxRecDepth 20000 in
theorem dX0_combine_204 : decode cX0_combine 204 = .ok (.getfield 77, 3) ∧ 204 + 3 = 207 := ⟨by decide +kernel, rfl⟩
set_option maxRecDepth 20000 in
theorem dX0_combine_207 : decode cX0_combine 207 = .ok (.iconst 1, 1) ∧ 207 + 1 = 208 := ⟨by decide +kernel, rfl⟩
set_option maxRecDepth 20000 in
theorem dX0_combine_208 : decode cX0_combine 208 = .ok (.isub, 1) ∧ 208 + 1 = 209 := ⟨by decide +kernel, rfl⟩
set_option maxRecDepth 20000 in
theorem dX0_combine_209 : decode cX0_combine 209 = .ok (.lload 6, 2) ∧ 209 + 2 = 211 := ⟨by decide +kernel, rfl⟩
set_option maxRecDepth 20000 in
theorem dX0_combine_211 : decode cX0_combine 211 = .ok (.lastore, 1) ∧ 211 + 1 = 212 := ⟨by decide +kernel, rfl⟩
set_option maxRecDepth 20000 in
theorem dX0_combine_212 : decode cX0_combine 212 = .ok (.lload 6, 2) ∧ 212 + 2 = 214 := ⟨by decide +kernel, rfl⟩
set_option maxRecDepth 20000 in
theorem dX0_combine_214 : decode cX0_combine 214 = .ok (.ldc2_w 94, 3) ∧ 214 + 3 = 217 := ⟨by decide +kernel, rfl⟩
set_option maxRecDepth 20000 in
theorem dX0_combine_217 : decode cX0_combine 217 = .ok (.lcmp, 1) ∧ 217 + 1 = 218 := ⟨by decide +kernel, rfl⟩
set_option maxRecDepth 20000 in
theorem dX0_combine_218 : decode cX0_combine 218 = .ok (.ifCond .lt 16, 3) ∧ 218 + 3 = 221 ∧ ((218 : Nat) : Int) + (16) = ((234 : Nat) : Int) := ⟨by decide +kernel, rfl, by decide⟩
set_option maxRecDepth 20000 in
theorem dX0_combine_221 : decode cX0_combine 221 = .ok (.lload 6, 2) ∧ 221 + 2 = 223 := ⟨by decide +kernel, rfl⟩
set_option maxRecDepth 20000 in
theorem dX0_combine_223 : decode cX0_combine 223 = .ok (.ldc2_w 96, 3) ∧ 223 + 3 = 226 := ⟨by decide +kernel, rfl⟩
set_option maxRecDepth 20000 in
theorem dX0_combine_226 : decode cX0_combine 226 = .ok (.lcmp, 1) ∧ 226 + 1 = 227 := ⟨by decide +kernel, rfl⟩
set_option maxRecDepth 20000 in
theorem dX0_combine_227 : decode cX0_combine 227 = .ok (.ifCond .gt 7, 3) ∧ 227 + 3 = 230 ∧ ((227 : Nat) : Int) + (7) = ((234 : Nat) : Int) := ⟨by decide +kernel, rfl, by decide⟩
set_option maxRecDepth 20000 in
theorem dX0_combine_230 : decode cX0_combine 230 = .ok (.iconst 1, 1) ∧ 230 + 1 = 231 := ⟨by decide +kernel, rfl⟩
set_option maxRecDepth 20000 in
theorem dX0_combine_231 : decode cX0_combine 231 = .ok (.goto 4, 3) ∧ ((231 : Nat) : Int) + (4) = ((235 : Nat) : Int) := ⟨by decide +kernel, by decide⟩
set_option maxRecDepth 20000 in
theorem dX0_combine_234 : decode cX0_combine 234 = .ok (.iconst 0, 1) ∧ 234 + 1 = 235 := ⟨by decide +kernel, rfl⟩
set_option maxRecDepth 20000 in
theorem dX0_combine_235 : decode cX0_combine 235 = .ok (.ireturn, 1) := by decide +kernel
set_option maxRecDepth 20000 in
theorem dX1_init_0 : decode cX1_init 0 = .ok (.aload_n 0, 1) ∧ 0 + 1 = 1 := ⟨by decide +kernel, rfl⟩
set_option maxRecDepth 20000 in
theorem dX1_init_1 : decode cX1_init 1 = .ok (.invokespecial 3, 3) ∧ 1 + 3 = 4 := ⟨by decide +kernel, rfl⟩
set_option maxRecDepth 20000 in
theorem dX1_init_4 : decode cX1_init 4 = .ok (.aload_n 0, 1) ∧ 4 + 1 = 5 := ⟨by decide +kernel, rfl⟩
set_option maxRecDepth 20000 in
theorem dX1_init_5 : decode cX1_init 5 = .ok (.bipush 32, 2) ∧ 5 + 2 = 7 := ⟨by decide +kernel, rfl⟩
set_option maxRecDepth 20000 in
theorem dX1_init_7 : decode cX1_init 7 = .ok (.newarray .int, 2) ∧ 7 + 2 = 9 := ⟨by decide +kernel, rfl⟩
set_option maxRecDepth 20000 in
theorem dX1_init_9 : decode cX1_init 9 = .ok (.putfield 9, 3) ∧ 9 + 3 = 12 := ⟨by decide +kernel, rfl⟩
set_option maxRecDepth 20000 in
theorem dX1_init_12 : decode cX1_init 12 = .ok (.aload_n 0, 1) ∧ 12 + 1 = 13 := ⟨by decide +kernel, rfl⟩
set_option maxRecDepth 20000 in
theorem dX1_init_13 : decode cX1_init 13 = .ok (.bipush 8, 2) ∧ 13 + 2 = 15 := ⟨by decide +kernel, rfl⟩
set_option maxRecDepth 20000 in
theorem dX1_init_15 : decode cX1_init 15 = .ok (.newarray .int, 2) ∧ 15 + 2 = 17 := ⟨by decide +kernel, rfl⟩
set_option maxRecDepth 20000 in
theorem dX1_init_17 : decode cX1_init 17 = .ok (.putfield 15, 3) ∧ 17 + 3 = 20 := ⟨by decide +kernel, rfl⟩
set_option maxRecDepth 20000 in
theorem dX1_init_20 : decode cX1_init 20 = .ok (.aload_n 0, 1) ∧ 20 + 1 = 21 := ⟨by decide +kernel, rfl⟩
set_option maxRecDepth 20000 in
theorem dX1_init_21 : decode cX1_init 21 = .ok (.bipush 16, 2) ∧ 21 + 2 = 23 := ⟨by decide +kernel, rfl⟩
set_option maxRecDepth 20000 in
theorem dX1_init_23 : decode cX1_init 23 = .ok (.newarray .int, 2) ∧ 23 + 2 = 25 := ⟨by decide +kernel, rfl⟩
set_option maxRecDepth 20000 in
theorem dX1_init_25 : decode cX1_init 25 = .ok (.putfield 18, 3) ∧ 25 + 3 = 28 := ⟨by decide +kernel, rfl⟩
set_option maxRecDepth 20000 in
theorem dX1_init_28 : decode cX1_init 28 = .ok (.aload_n 0, 1) ∧ 28 + 1 = 29 := ⟨by decide +kernel, rfl⟩
set_option maxRecDepth 20000 in
theorem dX1_init_29 : decode cX1_init 29 = .ok (.sipush 512, 3) ∧ 29 + 3 = 32 := ⟨by decide +kernel, rfl⟩
set_option maxRecDepth 20000 in
theorem dX1_init_32 : decode cX1_init 32 = .ok (.newarray .int, 2) ∧ 32 + 2 = 34 := ⟨by decide +kernel, rfl⟩
set_option maxRecDepth 20000 in
theorem dX1_init_34 : decode cX1_init 34 = .ok (.putfield 21, 3) ∧ 34 + 3 = 37 := ⟨by decide +kernel, rfl⟩
set_option maxRecDepth 20000 in
theorem dX1_init_37 : decode cX1_init 37 = .ok (.aload_n 0, 1) ∧ 37 + 1 = 38 := ⟨by decide +kernel, rfl⟩
set_option maxRecDepth 20000 in
theorem dX1_init_38 : decode cX1_init 38 = .ok (.iconst 2, 1) ∧ 38 + 1 = 39 := ⟨by decide +kernel, rfl⟩
set_option maxRecDepth 20000 in
theorem dX1_init_39 : decode cX1_init 39 = .ok (.newarray .int, 2) ∧ 39 + 2 = 41 := ⟨by decide +kernel, rfl⟩
set_option maxRecDepth 20000 in
theorem dX1_init_41 : decode cX1_init 41 = .ok (.putfield 24, 3) ∧ 41 + 3 = 44 := ⟨by decide +kernel, rfl⟩
set_option maxRecDepth 20000 in
theorem dX1_init_44 : decode cX1_init 44 = .ok (.aload_n 0, 1) ∧ 44 + 1 = 45 := ⟨by decide +kernel, rfl⟩
set_option maxRecDepth 20000 in
theorem dX1_init_45 : decode cX1_init 45 = .ok (.sipush 512, 3) ∧ 45 + 3 = 48 := ⟨by decide +kernel, rfl⟩
set_option maxRecDepth 20000 in
theorem dX1_init_48 : decode cX1_init 48 = .ok (.newarray .long, 2) ∧ 48 + 2 = 50 := ⟨by decide +kernel, rfl⟩
set_option maxRecDepth 20000 in
theorem dX1_init_50 : decode cX1_init 50 = .ok (.putfield 27, 3) ∧ 50 + 3 = 53 := ⟨by decide +kernel, rfl⟩
set_option maxRecDepth 20000 in
theorem dX1_init_53 : decode cX1_init 53 = .ok (.aload_n 0, 1) ∧ 53 + 1 = 54 := ⟨by decide +kernel, rfl⟩
set_option maxRecDepth 20000 in
theorem dX1_init_54 : decode cX1_init 54 = .ok (.bipush 8, 2) ∧ 54 + 2 = 56 := ⟨by decide +kernel, rfl⟩
set_option maxRecDepth 20000 in
theorem dX1_init_56 : decode cX1_init 56 = .ok (.newarray .int, 2) ∧ 56 + 2 = 58 := ⟨by decide +kernel, rfl⟩
set_option maxRecDepth 20000 in
theorem dX1_init_58 : decode cX1_init 58 = .ok (.putfield 31, 3) ∧ 58 + 3 = 61 := ⟨by decide +kernel, rfl⟩
set_option maxRecDepth 20000 in
theorem dX1_init_61 : decode cX1_init 61 = .ok (.aload_n 0, 1) ∧ 61 + 1 = 62 := ⟨by decide +kernel, rfl⟩
set_option maxRecDepth 20000 in
theorem dX1_init_62 : decode cX1_init 62 = .ok (.bipush 8, 2) ∧ 62 + 2 = 64 := ⟨by decide +kernel, rfl⟩
set_option maxRecDepth 20000 in
theorem dX1_init_64 : decode cX1_init 64 = .ok (.anewarray 34, 3) ∧ 64 + 3 = 67 := ⟨by decide +kernel, rfl⟩
set_option maxRecDepth 20000 in
theorem dX1_init_67 : decode cX1_init 67 = .ok (.putfield 36, 3) ∧ 67 + 3 = 70 := ⟨by decide +kernel, rfl⟩
set_option maxRecDepth 20000 in
theorem dX1_init_70 : decode cX1_init 70 = .ok (.iconst 0, 1) ∧ 70 + 1 = 71 := ⟨by decide +kernel, rfl⟩
set_option maxRecDepth 20000 in
theorem dX1_init_71 : decode cX1_init 71 = .ok (.istore_n 1, 1) ∧ 71 + 1 = 72 := ⟨by decide +kernel, rfl⟩
set_option maxRecDepth 20000 in
theorem dX1_init_72 : decode cX1_init 72 = .ok (.iload_n 1, 1) ∧ 72 + 1 = 73 := ⟨by decide +kernel, rfl⟩
set_option maxRecDepth 20000 in
theorem dX1_init_73 : decode cX1_init 73 = .ok (.bipush 8, 2) ∧ 73 + 2 = 75 := ⟨by decide +kernel, rfl⟩
set_option maxRecDepth 20000 in
theorem dX1_init_75 : decode cX1_init 75 = .ok (.if_icmp .ge 22, 3) ∧ 75 + 3 = 78 ∧ ((75 : Nat) : Int) + (22) = ((97 : Nat) : Int) := ⟨by decide +kernel, rfl, by decide⟩
set_option maxRecDepth 20000 in
theorem dX1_init_78 : decode cX1_init 78 = .ok (.aload_n 0, 1) ∧ 78 + 1 = 79 := ⟨by decide +kernel, rfl⟩
set_option maxRecDepth 20000 in
theorem dX1_init_79 : decode cX1_init 79 = .ok (.getfield 36, 3) ∧ 79 + 3 = 82 := ⟨by decide +kernel, rfl⟩
set_option maxRecDepth 20000 in
theorem dX1_init_82 : decode cX1_init 82 = .ok (.iload_n 1, 1) ∧ 82 + 1 = 83 := ⟨by decide +kernel, rfl⟩
set_option maxRecDepth 20000 in
theorem dX1_init_83 : decode cX1_init 83 = .ok (.new 34, 3) ∧ 83 + 3 = 86 := ⟨by decide +kernel, rfl⟩
set_option maxRecDepth 20000 in
theorem dX1_init_86 : decode cX1_init 86 = .ok (.dup, 1) ∧ 86 + 1 = 87 := ⟨by decide +kernel, rfl⟩
set_option maxRecDepth 20000 in
theorem dX1_init_87 : decode cX1_init 87 = .ok (.invokespecial 40, 3) ∧ 87 + 3 = 90 := ⟨by decide +kernel, rfl⟩
set_option maxRecDepth 20000 in
theorem dX1_init_90 : decode cX1_init 90 = .ok (.aastore, 1) ∧ 90 + 1 = 91 := ⟨by decide +kernel, rfl⟩
set_option maxRecDepth 20000 in
theorem dX1_init_91 : decode cX1_init 91 = .ok (.iinc 1 1, 3) ∧ 91 + 3 = 94 := ⟨by decide +kernel, rfl⟩
set_option maxRecDepth 20000 in
theorem dX1_init_94 : decode cX1_init 94 = .ok (.goto (-22), 3) ∧ ((94 : Nat) : Int) + (-22) = ((72 : Nat) : Int) := ⟨by decide +kernel, by decide⟩
set_option maxRecDepth 20000 in
theorem dX1_init_97 : decode cX1_init 97 = .ok (.aload_n 0, 1) ∧ 97 + 1 = 98 := ⟨by decide +kernel, rfl⟩
set_option maxRecDepth 20000 in
theorem dX1_init_98 : decode cX1_init 98 = .ok (.new 34, 3) ∧ 98 + 3 = 101 := ⟨by decide +kernel, rfl⟩
set_option maxRecDepth 20000 in
theorem dX1_init_101 : decode cX1_init 101 = .ok (.dup, 1) ∧ 101 + 1 = 102 := ⟨by decide +kernel, rfl⟩
set_option maxRecDepth 20000 in
theorem dX1_init_102 : decode cX1_init 102 = .ok (.invokespecial 40, 3) ∧ 102 + 3 = 105 := ⟨by decide +kernel, rfl⟩
set_option maxRecDepth 20000 in
theorem dX1_init_105 : decode cX1_init 105 = .ok (.putfield 41, 3) ∧ 105 + 3 = 108 := ⟨by decide +kernel, rfl⟩
set_option maxRecDepth 20000 in
theorem dX1_init_108 : decode cX1_init 108 = .ok (.return_, 1) := by decide +kernel
set_option maxRecDepth 20000 in
theorem dX1_forget_0 : decode cX1_forget 0 = .ok (.aload_n 0, 1) ∧ 0 + 1 = 1 := ⟨by decide +kernel, rfl⟩
set_option maxRecDepth 20000 in
theorem dX1_forget_1 : decode cX1_forget 1 = .ok (.iconst 0, 1) ∧ 1 + 1 = 2 := ⟨by decide +kernel, rfl⟩
set_option maxRecDepth 20000 in
theorem dX1_forget_2 : decode cX1_forget 2 = .ok (.putfield 45, 3) ∧ 2 + 3 = 5 := ⟨by decide +kernel, rfl⟩
set_option maxRecDepth 20000 in
theorem dX1_forget_5 : decode cX1_forget 5 = .ok (.return_, 1) := by decide +kernel
set_option maxRecDepth 20000 in
theorem dX1_learn_0 : decode cX1_learn 0 = .ok (.aload_n 0, 1) ∧ 0 + 1 = 1 := ⟨by decide +kernel, rfl⟩
set_option maxRecDepth 20000 in
theorem dX1_learn_1 : decode cX1_learn 1 = .ok (.getfield 45, 3) ∧ 1 + 3 = 4 := ⟨by decide +kernel, rfl⟩
set_option maxRecDepth 20000 in
theorem dX1_learn_4 : decode cX1_learn 4 = .ok (.ifCond .eq 4, 3) ∧ 4 + 3 = 7 ∧ ((4 : Nat) : Int) + (4) = ((8 : Nat) : Int) := ⟨by decide +kernel, rfl, by decide⟩
set_option maxRecDepth 20000 in
theorem dX1_learn_7 : decode cX1_learn 7 = .ok (.return_, 1) := by decide +kernel
set_option maxRecDepth 20000 in
theorem dX1_learn_8 : decode cX1_learn 8 = .ok (.aload_n 0, 1) ∧ 8 + 1 = 9 := ⟨by decide +kernel, rfl⟩
set_option maxRecDepth 20000 in
theorem dX1_learn_9 : decode cX1_learn 9 = .ok (.iconst 1, 1) ∧ 9 + 1 = 10 := ⟨by decide +kernel, rfl⟩
set_option maxRecDepth 20000 in
theorem dX1_learn_10 : decode cX1_learn 10 = .ok (.putfield 45, 3) ∧ 10 + 3 = 13 := ⟨by decide +kernel, rfl⟩
set_option maxRecDepth 20000 in
theorem dX1_learn_13 : decode cX1_learn 13 = .ok (.aload_n 0, 1) ∧ 13 + 1 = 14 := ⟨by decide +kernel, rfl⟩
set_option maxRecDepth 20000 in
theorem dX1_learn_14 : decode cX1_learn 14 = .ok (.iconst 0, 1) ∧ 14 + 1 = 15 := ⟨by decide +kernel, rfl⟩
set_option maxRecDepth 20000 in
theorem dX1_learn_15 : decode cX1_learn 15 = .ok (.putfield 49, 3) ∧ 15 + 3 = 18 := ⟨by decide +kernel, rfl⟩
set_option maxRecDepth 20000 in
theorem dX1_learn_18 : decode cX1_learn 18 = .ok (.aload_n 0, 1) ∧ 18 + 1 = 19 := ⟨by decide +kernel, rfl⟩
set_option maxRecDepth 20000 in
theorem dX1_learn_19 : decode cX1_learn 19 = .ok (.aload_n 1, 1) ∧ 19 + 1 = 20 := ⟨by decide +kernel, rfl⟩
set_option maxRecDepth 20000 in
theorem dX1_learn_20 : decode cX1_learn 20 = .ok (.getfield 52, 3) ∧ 20 + 3 = 23 := ⟨by decide +kernel, rfl⟩
set_option maxRecDepth 20000 in
theorem dX1_learn_23 : decode cX1_learn 23 = .ok (.putfield 58, 3) ∧ 23 + 3 = 26 := ⟨by decide +kernel, rfl⟩
set_option maxRecDepth 20000 in
theorem dX1_learn_26 : decode cX1_learn 26 = .ok (.aload_n 0, 1) ∧ 26 + 1 = 27 := ⟨by decide +kernel, rfl⟩
set_option maxRecDepth 20000 in
theorem dX1_learn_27 : decode cX1_learn 27 = .ok (.aload_n 1, 1) ∧ 27 + 1 = 28 := ⟨by decide +kernel, rfl⟩
set_option maxRecDepth 20000 in
theorem dX1_learn_28 : decode cX1_learn 28 = .ok (.getfield 59, 3) ∧ 28 + 3 = 31 := ⟨by decide +kernel, rfl⟩
set_option maxRecDepth 20000 in
theorem dX1_learn_31 : decode cX1_learn 31 = .ok (.putfield 62, 3) ∧ 31 + 3 = 34 := ⟨by decide +kernel, rfl⟩
set_option maxRecDepth 20000 in
theorem dX1_learn_34 : decode cX1_learn 34 = .ok (.aload_n 0, 1) ∧ 34 + 1 = 35 := ⟨by decide +kernel, rfl⟩
set_option maxRecDepth 20000 in
theorem dX1_learn_35 : decode cX1_learn 35 = .ok (.aload_n 1, 1) ∧ 35 + 1 = 36 := ⟨by decide +kernel, rfl⟩
set_option maxRecDepth 20000 in
theorem dX1_learn_36 : decode cX1_learn 36 = .ok (.getfield 63, 3) ∧ 36 + 3 = 39 := ⟨by decide +kernel, rfl⟩
set_option maxRecDepth 20000 in
theorem dX1_learn_39 : decode cX1_learn 39 = .ok (.iconst 0, 1) ∧ 39 + 1 = 40 := ⟨by decide +kernel, rfl⟩
set_option maxRecDepth 20000 in
theorem dX1_learn_40 : decode cX1_learn 40 = .ok (.iaload, 1) ∧ 40 + 1 = 41 := ⟨by decide +kernel, rfl⟩
set_option maxRecDepth 20000 in
theorem dX1_learn_41 : decode cX1_learn 41 = .ok (.putfield 66, 3) ∧ 41 + 3 = 44 := ⟨by decide +kernel, rfl⟩
set_option maxRecDepth 20000 in
theorem dX1_learn_44 : decode cX1_learn 44 = .ok (.aload_n 0, 1) ∧ 44 + 1 = 45 := ⟨by decide +kernel, rfl⟩
set_option maxRecDepth 20000 in
theorem dX1_learn_45 : decode cX1_learn 45 = .ok (.iconst 0, 1) ∧ 45 + 1 = 46 := ⟨by decide +kernel, rfl⟩
set_option maxRecDepth 20000 in
theorem dX1_learn_46 : decode cX1_learn 46 = .ok (.putfield 69, 3) ∧ 46 + 3 = 49 := ⟨by decide +kernel, rfl⟩
set_option maxRecDepth 20000 in
theorem dX1_learn_49 : decode cX1_learn 49 = .ok (.iconst 0, 1) ∧ 49 + 1 = 50 := ⟨by decide +kernel, rfl⟩
set_option maxRecDepth 20000 in
theorem dX1_learn_50 : decode cX1_learn 50 = .ok (.istore_n 3, 1) ∧ 50 + 1 = 51 := ⟨by decide +kernel, rfl⟩
set_option maxRecDepth 20000 in
theorem dX1_learn_51 : decode cX1_learn 51 = .ok (.iload_n 3, 1) ∧ 51 + 1 = 52 := ⟨by decide +kernel, rfl⟩
set_option maxRecDepth 20000 in
theorem dX1_learn_52 : decode cX1_learn 52 = .ok (.aload_n 0, 1) ∧ 52 + 1 = 53 := ⟨by decide +kernel, rfl⟩
set_option maxRecDepth 20000 in
theorem dX1_learn_53 : decode cX1_learn 53 = .ok (.getfield 58, 3) ∧ 53 + 3 = 56 := ⟨by decide +kernel, rfl⟩
set_option maxRecDepth 20000 in
theorem dX1_learn_56 : decode cX1_learn 56 = .ok (.if_icmp .ge 90, 3) ∧ 56 + 3 = 59 ∧ ((56 : Nat) : Int) + (90) = ((146 : Nat) : Int) := ⟨by decide +kernel, rfl, by decide⟩
set_option maxRecDepth 20000 in
theorem dX1_learn_59 : decode cX1_learn 59 = .ok (.aload_n 1, 1) ∧ 59 + 1 = 60 := ⟨by decide +kernel, rfl⟩
set_option maxRecDepth 20000 in
theorem dX1_learn_60 : decode cX1_learn 60 = .ok (.iload_n 3, 1) ∧ 60 + 1 = 61 := ⟨by decide +kernel, rfl⟩
set_option maxRecDepth 20000 in
theorem dX1_learn_61 : decode cX1_learn 61 = .ok (.invokevirtual 72, 3) ∧ 61 + 3 = 64 := ⟨by decide +kernel, rfl⟩
set_option maxRecDepth 20000 in
theorem dX1_learn_64 : decode cX1_learn 64 = .ok (.ifCond .eq 23, 3) ∧ 64 + 3 = 67 ∧ ((64 : Nat) : Int) + (23) = ((87 : Nat) : Int) := ⟨by decide +kernel, rfl, by decide⟩
set_option maxRecDepth 20000 in
theorem dX1_learn_67 : decode cX1_learn 67 = .ok (.aload_n 0, 1) ∧ 67 + 1 = 68 := ⟨by decide +kernel, rfl⟩
set_option maxRecDepth 20000 in
theorem dX1_learn_68 : decode cX1_learn 68 = .ok (.getfield 31, 3) ∧ 68 + 3 = 71 := ⟨by decide +kernel, rfl⟩
set_option maxRecDepth 20000 in
theorem dX1_learn_71 : decode cX1_learn 71 = .ok (.aload_n 0, 1) ∧ 71 + 1 = 72 := ⟨by decide +kernel, rfl⟩
set_option maxRecDepth 20000 in
theorem dX1_learn_72 : decode cX1_learn 72 = .ok (.getfield 69, 3) ∧ 72 + 3 = 75 := ⟨by decide +kernel, rfl⟩
set_option maxRecDepth 20000 in
theorem dX1_learn_75 : decode cX1_learn 75 = .ok (.iload_n 3, 1) ∧ 75 + 1 = 76 := ⟨by decide +kernel, rfl⟩
set_option maxRecDepth 20000 in
theorem dX1_learn_76 : decode cX1_learn 76 = .ok (.iastore, 1) ∧ 76 + 1 = 77 := ⟨by decide +kernel, rfl⟩
set_option maxRecDepth 20000 in
theorem dX1_learn_77 : decode cX1_learn 77 = .ok (.aload_n 0, 1) ∧ 77 + 1 = 78 := ⟨by decide +kernel, rfl⟩
set_option maxRecDepth 20000 in
theorem dX1_learn_78 : decode cX1_learn 78 = .ok (.dup, 1) ∧ 78 + 1 = 79 := ⟨by decide +kernel, rfl⟩
set_option maxRecDepth 20000 in
theorem dX1_learn_79 : decode cX1_learn 79 = .ok (.getfield 69, 3) ∧ 79 + 3 = 82 := ⟨by decide +kernel, rfl⟩
set_option maxRecDepth 20000 in
theorem dX1_learn_82 : decode cX1_learn 82 = .ok (.iconst 1, 1) ∧ 82 + 1 = 83 := ⟨by decide +kernel, rfl⟩
set_option maxRecDepth 20000 in
theorem dX1_learn_83 : decode cX1_learn 83 = .ok (.iadd, 1) ∧ 83 + 1 = 84 := ⟨by decide +kernel, rfl⟩
set_option maxRecDepth 20000 in
theorem dX1_learn_84 : decode cX1_learn 84 = .ok (.putfield 69, 3) ∧ 84 + 3 = 87 := ⟨by decide +kernel, rfl⟩
set_option maxRecDepth 20000 in
theorem dX1_learn_87 : decode cX1_learn 87 = .ok (.aload_n 0, 1) ∧ 87 + 1 = 88 := ⟨by decide +kernel, rfl⟩
set_option maxRecDepth 20000 in
theorem dX1_learn_88 : decode cX1_learn 88 = .ok (.getfield 15, 3) ∧ 88 + 3 = 91 := ⟨by decide +kernel, rfl⟩
set_option maxRecDepth 20000 in
theorem dX1_learn_91 : decode cX1_learn 91 = .ok (.iload_n 3, 1) ∧ 91 + 1 = 92 := ⟨by decide +kernel, rfl⟩
set_option maxRecDepth 20000 in
theorem dX1_learn_92 : decode cX1_learn 92 = .ok (.aload_n 1, 1) ∧ 92 + 1 = 93 := ⟨by decide +kernel, rfl⟩
set_option maxRecDepth 20000 in
theorem dX1_learn_93 : decode cX1_learn 93 = .ok (.iload_n 3, 1) ∧ 93 + 1 = 94 := ⟨by decide +kernel, rfl⟩
set_option maxRecDepth 20000 in
theorem dX1_learn_94 : decode cX1_learn 94 = .ok (.iconst 5, 1) ∧ 94 + 1 = 95 := ⟨by decide +kernel, rfl⟩
set_option maxRecDepth 20000 in
theorem dX1_learn_95 : decode cX1_learn 95 = .ok (.invokevirtual 76, 3) ∧ 95 + 3 = 98 := ⟨by decide +kernel, rfl⟩
set_option maxRecDepth 20000 in
theorem dX1_learn_98 : decode cX1_learn 98 = .ok (.iastore, 1) ∧ 98 + 1 = 99 := ⟨by decide +kernel, rfl⟩
set_option maxRecDepth 20000 in
theorem dX1_learn_99 : decode cX1_learn 99 = .ok (.iconst 0, 1) ∧ 99 + 1 = 100 := ⟨by decide +kernel, rfl⟩
set_option maxRecDepth 20000 in
theorem dX1_learn_100 : decode cX1_learn 100 = .ok (.istore 4, 2) ∧ 100 + 2 = 102 := ⟨by decide +kernel, rfl⟩
set_option maxRecDepth 20000 in
theorem dX1_learn_102 : decode cX1_learn 102 = .ok (.iload 4, 2) ∧ 102 + 2 = 104 := ⟨by decide +kernel, rfl⟩
set_option maxRecDepth 20000 in
theorem dX1_learn_104 : decode cX1_learn 104 = .ok (.iconst 3, 1) ∧ 104 + 1 = 105 := ⟨by decide +kernel, rfl⟩
set_option maxRecDepth 20000 in
theorem dX1_learn_105 : decode cX1_learn 105 = .ok (.if_icmp .gt 35, 3) ∧ 105 + 3 = 108 ∧ ((105 : Nat) : Int) + (35) = ((140 : Nat) : Int) := ⟨by decide +kernel, rfl, by decide⟩
set_option maxRecDepth 20000 in
theorem dX1_learn_108 : decode cX1_learn 108 = .ok (.aload_n 0, 1) ∧ 108 + 1 = 109 := ⟨by decide +kernel, rfl⟩
set_option maxRecDepth 20000 in
theorem dX1_learn_109 : decode cX1_learn 109 = .ok (.getfield 9, 3) ∧ 109 + 3 = 112 := ⟨by decide +kernel, rfl⟩
set_option maxRecDepth 20000 in
theorem dX1_learn_112 : decode cX1_learn 112 = .ok (.iload_n 3, 1) ∧ 112 + 1 = 113 := ⟨by decide +kernel, rfl⟩
set_option maxRecDepth 20000 in
theorem dX1_learn_113 : decode cX1_learn 113 = .ok (.iconst 4, 1) ∧ 113 + 1 = 114 := ⟨by decide +kernel, rfl⟩
set_option maxRecDepth 20000 in
theorem dX1_learn_114 : decode cX1_learn 114 = .ok (.imul, 1) ∧ 114 + 1 = 115 := ⟨by decide +kernel, rfl⟩
set_option maxRecDepth 20000 in
theorem dX1_learn_115 : decode cX1_learn 115 = .ok (.iload 4, 2) ∧ 115 + 2 = 117 := ⟨by decide +kernel, rfl⟩
set_option maxRecDepth 20000 in
theorem dX1_learn_117 : decode cX1_learn 117 = .ok (.iadd, 1) ∧ 117 + 1 = 118 := ⟨by decide +kernel, rfl⟩
set_option maxRecDepth 20000 in
theorem dX1_learn_118 : decode cX1_learn 118 = .ok (.aload_n 2, 1) ∧ 118 + 1 = 119 := ⟨by decide +kernel, rfl⟩
set_option maxRecDepth 20000 in
theorem dX1_learn_119 : decode cX1_learn 119 = .ok (.aload_n 1, 1) ∧ 119 + 1 = 120 := ⟨by decide +kernel, rfl⟩
set_option maxRecDepth 20000 in
theorem dX1_learn_120 : decode cX1_learn 120 = .ok (.iload_n 3, 1) ∧ 120 + 1 = 121 := ⟨by decide +kernel, rfl⟩
set_option maxRecDepth 20000 in
theorem dX1_learn_121 : decode cX1_learn 121 = .ok (.aload_n 1, 1) ∧ 121 + 1 = 122 := ⟨by decide +kernel, rfl⟩
set_option maxRecDepth 20000 in
theorem dX1_learn_122 : decode cX1_learn 122 = .ok (.getfield 63, 3) ∧ 122 + 3 = 125 := ⟨by decide +kernel, rfl⟩
set_option maxRecDepth 20000 in
theorem dX1_learn_125 : decode cX1_learn 125 = .ok (.iconst 1, 1) ∧ 125 + 1 = 126 := ⟨by decide +kernel, rfl⟩
set_option maxRecDepth 20000 in
theorem dX1_learn_126 : decode cX1_learn 126 = .ok (.iaload, 1) ∧ 126 + 1 = 127 := ⟨by decide +kernel, rfl⟩
set_option maxRecDepth 20000 in
theorem dX1_learn_127 : decode cX1_learn 127 = .ok (.iload 4, 2) ∧ 127 + 2 = 129 := ⟨by decide +kernel, rfl⟩
set_option maxRecDepth 20000 in
theorem dX1_learn_129 : decode cX1_learn 129 = .ok (.iconst 0, 1) ∧ 129 + 1 = 130 := ⟨by decide +kernel, rfl⟩
set_option maxRecDepth 20000 in
theorem dX1_learn_130 : decode cX1_learn 130 = .ok (.invokevirtual 80, 3) ∧ 130 + 3 = 133 := ⟨by decide +kernel, rfl⟩
set_option maxRecDepth 20000 in
theorem dX1_learn_133 : decode cX1_learn 133 = .ok (.iastore, 1) ∧ 133 + 1 = 134 := ⟨by decide +kernel, rfl⟩
set_option maxRecDepth 20000 in
theorem dX1_learn_134 : decode cX1_learn 134 = .ok (.iinc 4 1, 3) ∧ 134 + 3 = 137 := ⟨by decide +kernel, rfl⟩
set_option maxRecDepth 20000 in
theorem dX1_learn_137 : decode cX1_learn 137 = .ok (.goto (-35), 3) ∧ ((137 : Nat) : Int) + (-35) = ((102 : Nat) : Int) := ⟨by decide +kernel, by decide⟩
set_option maxRecDepth 20000 in
theorem dX1_learn_140 : decode cX1_learn 140 = .ok (.iinc 3 1, 3) ∧ 140 + 3 = 143 := ⟨by decide +kernel, rfl⟩
set_option maxRecDepth 20000 in
theorem dX1_learn_143 : decode cX1_learn 143 = .ok (.goto (-92), 3) ∧ ((143 : Nat) : Int) + (-92) = ((51 : Nat) : Int) := ⟨by decide +kernel, by decide⟩
set_option maxRecDepth 20000 in
theorem dX1_learn_146 : decode cX1_learn 146 = .ok (.iconst 0, 1) ∧ 146 + 1 = 147 := ⟨by decide +kernel, rfl⟩
set_option maxRecDepth 20000 in
theorem dX1_learn_147 : decode cX1_learn 147 = .ok (.istore_n 3, 1) ∧ 147 + 1 = 148 := ⟨by decide +kernel, rfl⟩
set_option maxRecDepth 20000 in
theorem dX1_learn_148 : decode cX1_learn 148 = .ok (.iload_n 3, 1) ∧ 148 + 1 = 149 := ⟨by decide +kernel, rfl⟩
set_option maxRecDepth 20000 in
theorem dX1_learn_149 : decode cX1_learn 149 = .ok (.iconst 2, 1) ∧ 149 + 1 = 150 := ⟨by decide +kernel, rfl⟩
set_option maxRecDepth 20000 in
theorem dX1_learn_150 : decode cX1_learn 150 = .ok (.if_icmp .ge 66, 3) ∧ 150 + 3 = 153 ∧ ((150 : Nat) : Int) + (66) = ((216 : Nat) : Int) := ⟨by decide +kernel, rfl, by decide⟩
set_option maxRecDepth 20000 in
theorem dX1_learn_153 : decode cX1_learn 153 = .ok (.aload_n 0, 1) ∧ 153 + 1 = 154 := ⟨by decide +kernel, rfl⟩
set_option maxRecDepth 20000 in
theorem dX1_learn_154 : decode cX1_learn 154 = .ok (.getfield 24, 3) ∧ 154 + 3 = 157 := ⟨by decide +kernel, rfl⟩
set_option maxRecDepth 20000 in
theorem dX1_learn_157 : decode cX1_learn 157 = .ok (.iload_n 3, 1) ∧ 157 + 1 = 158 := ⟨by decide +kernel, rfl⟩
set_option maxRecDepth 20000 in
theorem dX1_learn_158 : decode cX1_learn 158 = .ok (.aload_n 1, 1) ∧ 158 + 1 = 159 := ⟨by decide +kernel, rfl⟩
set_option maxRecDepth 20000 in
theorem dX1_learn_159 : decode cX1_learn 159 = .ok (.getfield 63, 3) ∧ 159 + 3 = 162 := ⟨by decide +kernel, rfl⟩
set_option maxRecDepth 20000 in
theorem dX1_learn_162 : decode cX1_learn 162 = .ok (.iconst 3, 1) ∧ 162 + 1 = 163 := ⟨by decide +kernel, rfl⟩
set_option maxRecDepth 20000 in
theorem dX1_learn_163 : decode cX1_learn 163 = .ok (.iload_n 3, 1) ∧ 163 + 1 = 164 := ⟨by decide +kernel, rfl⟩
set_option maxRecDepth 20000 in
theorem dX1_learn_164 : decode cX1_learn 164 = .ok (.iadd, 1) ∧ 164 + 1 = 165 := ⟨by decide +kernel, rfl⟩
set_option maxRecDepth 20000 in
theorem dX1_learn_165 : decode cX1_learn 165 = .ok (.iaload, 1) ∧ 165 + 1 = 166 := ⟨by decide +kernel, rfl⟩
set_option maxRecDepth 20000 in
theorem dX1_learn_166 : decode cX1_learn 166 = .ok (.iastore, 1) ∧ 166 + 1 = 167 := ⟨by decide +kernel, rfl⟩
set_option maxRecDepth 20000 in
theorem dX1_learn_167 : decode cX1_learn 167 = .ok (.iconst 0, 1) ∧ 167 + 1 = 168 := ⟨by decide +kernel, rfl⟩
set_option maxRecDepth 20000 in
theorem dX1_learn_168 : decode cX1_learn 168 = .ok (.istore 4, 2) ∧ 168 + 2 = 170 := ⟨by decide +kernel, rfl⟩
set_option maxRecDepth 20000 in
theorem dX1_learn_170 : decode cX1_learn 170 = .ok (.iload 4, 2) ∧ 170 + 2 = 172 := ⟨by decide +kernel, rfl⟩
set_option maxRecDepth 20000 in
theorem dX1_learn_172 : decode cX1_learn 172 = .ok (.aload_n 0, 1) ∧ 172 + 1 = 173 := ⟨by decide +kernel, rfl⟩
set_option maxRecDepth 20000 in
theorem dX1_learn_173 : decode cX1_learn 173 = .ok (.getfield 58, 3) ∧ 173 + 3 = 176 := ⟨by decide +kernel, rfl⟩
set_option maxRecDepth 20000 in
theorem dX1_learn_176 : decode cX1_learn 176 = .ok (.if_icmp .ge 29, 3) ∧ 176 + 3 = 179 ∧ ((176 : Nat) : Int) + (29) = ((205 : Nat) : Int) := ⟨by decide +kernel, rfl, by decide⟩
set_option maxRecDepth 20000 in
theorem dX1_learn_179 : decode cX1_learn 179 = .ok (.aload_n 0, 1) ∧ 179 + 1 = 180 := ⟨by decide +kernel, rfl⟩
set_option maxRecDepth 20000 in
theorem dX1_learn_180 : decode cX1_learn 180 = .ok (.getfield 18, 3) ∧ 180 + 3 = 183 := ⟨by decide +kernel, rfl⟩
set_option maxRecDepth 20000 in
theorem dX1_learn_183 : decode cX1_learn 183 = .ok (.iload_n 3, 1) ∧ 183 + 1 = 184 := ⟨by decide +kernel, rfl⟩
set_option maxRecDepth 20000 in
theorem dX1_learn_184 : decode cX1_learn 184 = .ok (.bipush 8, 2) ∧ 184 + 2 = 186 := ⟨by decide +kernel, rfl⟩
set_option maxRecDepth 20000 in
theorem dX1_learn_186 : decode cX1_learn 186 = .ok (.imul, 1) ∧ 186 + 1 = 187 := ⟨by decide +kernel, rfl⟩
set_option maxRecDepth 20000 in
theorem dX1_learn_187 : decode cX1_learn 187 = .ok (.iload 4, 2) ∧ 187 + 2 = 189 := ⟨by decide +kernel, rfl⟩
set_option maxRecDepth 20000 in
theorem dX1_learn_189 : decode cX1_learn 189 = .ok (.iadd, 1) ∧ 189 + 1 = 190 := ⟨by decide +kernel, rfl⟩
set_option maxRecDepth 20000 in
theorem dX1_learn_190 : decode cX1_learn 190 = .ok (.aload_n 2, 1) ∧ 190 + 1 = 191 := ⟨by decide +kernel, rfl⟩
set_option maxRecDepth 20000 in
theorem dX1_learn_191 : decode cX1_learn 191 = .ok (.aload_n 1, 1) ∧ 191 + 1 = 192 := ⟨by decide +kernel, rfl⟩
set_option maxRecDepth 20000 in
theorem dX1_learn_192 : decode cX1_learn 192 = .ok (.iload 4, 2) ∧ 192 + 2 = 194 := ⟨by decide +kernel, rfl⟩
set_option maxRecDepth 20000 in
theorem dX1_learn_194 : decode cX1_learn 194 = .ok (.iload_n 3, 1) ∧ 194 + 1 = 195 := ⟨by decide +kernel, rfl⟩
set_option maxRecDepth 20000 in
theorem dX1_learn_195 : decode cX1_learn 195 = .ok (.invokevirtual 86, 3) ∧ 195 + 3 = 198 := ⟨by decide +kernel, rfl⟩
set_option maxRecDepth 20000 in
theorem dX1_learn_198 : decode cX1_learn 198 = .ok (.iastore, 1) ∧ 198 + 1 = 199 := ⟨by decide +kernel, rfl⟩
set_option maxRecDepth 20000 in
theorem dX1_learn_199 : decode cX1_learn 199 = .ok (.iinc 4 1, 3) ∧ 199 + 3 = 202 := ⟨by decide +kernel, rfl⟩
set_option maxRecDepth 20000 in
theorem dX1_learn_202 : decode cX1_learn 202 = .ok (.goto (-32), 3) ∧ ((202 : Nat) : Int) + (-32) = ((170 : Nat) : Int) := ⟨by decide +kernel, by decide⟩
set_option maxRecDepth 20000 in
theorem dX1_learn_205 : decode cX1_learn 205 = .ok (.aload_n 0, 1) ∧ 205 + 1 = 206 := ⟨by decide +kernel, rfl⟩
set_option maxRecDepth 20000 in
theorem dX1_learn_206 : decode cX1_learn 206 = .ok (.iload_n 3, 1) ∧ 206 + 1 = 207 := ⟨by decide +kernel, rfl⟩
set_option maxRecDepth 20000 in
theorem dX1_learn_207 : decode cX1_learn 207 = .ok (.invokevirtual 90, 3) ∧ 207 + 3 = 210 := ⟨by decide +kernel, rfl⟩
set_option maxRecDepth 20000 in
theorem dX1_learn_210 : decode cX1_learn 210 = .ok (.iinc 3 1, 3) ∧ 210 + 3 = 213 := ⟨by decide +kernel, rfl⟩
set_option maxRecDepth 20000 in
theorem dX1_learn_213 : decode cX1_learn 213 = .ok (.goto (-65), 3) ∧ ((213 : Nat) : Int) + (-65) = ((148 : Nat) : Int) := ⟨by decide +kernel, by decide⟩
set_option maxRecDepth 20000 in
theorem dX1_learn_216 : decode cX1_learn 216 = .ok (.return_, 1) := by decide +kernel
set_option maxRecDepth 20000 in
theorem dX1_addPrices_0 : decode cX1_addPrices 0 = .ok (.aload_n 0, 1) ∧ 0 + 1 = 1 := ⟨by decide +kernel, rfl⟩
set_option maxRecDepth 20000 in
theorem dX1_addPrices_1 : decode cX1_addPrices 1 = .ok (.getfield 21, 3) ∧ 1 + 3 = 4 := ⟨by decide +kernel, rfl⟩
set_option maxRecDepth 20000 in
theorem dX1_addPrices_4 : decode cX1_addPrices 4 = .ok (.iload_n 1, 1) ∧ 4 + 1 = 5 := ⟨by decide +kernel, rfl⟩
set_option maxRecDepth 20000 in
theorem dX1_addPrices_5 : decode cX1_addPrices 5 = .ok (.sipush 256, 3) ∧ 5 + 3 = 8 := ⟨by decide +kernel, rfl⟩
set_option maxRecDepth 20000 in
theorem dX1_addPrices_8 : decode cX1_addPrices 8 = .ok (.imul, 1) ∧ 8 + 1 = 9 := ⟨by decide +kernel, rfl⟩
set_option maxRecDepth 20000 in
theorem dX1_addPrices_9 : decode cX1_addPrices 9 = .ok (.iconst 0, 1) ∧ 9 + 1 = 10 := ⟨by decide +kernel, rfl⟩
set_option maxRecDepth 20000 in
theorem dX1_addPrices_10 : decode cX1_addPrices 10 = .ok (.iastore, 1) ∧ 10 + 1 = 11 := ⟨by decide +kernel, rfl⟩
set_option maxRecDepth 20000 in
theorem dX1_addPrices_11 : decode cX1_addPrices 11 = .ok (.iconst 1, 1) ∧ 11 + 1 = 12 := ⟨by decide +kernel, rfl⟩
set_option maxRecDepth 20000 in
theorem dX1_addPrices_12 : decode cX1_addPrices 12 = .ok (.istore_n 2, 1) ∧ 12 + 1 = 13 := ⟨by decide +kernel, rfl⟩
set_option maxRecDepth 20000 in
theorem dX1_addPrices_13 : decode cX1_addPrices 13 = .ok (.iload_n 2, 1) ∧ 13 + 1 = 14 := ⟨by decide +kernel, rfl⟩
set_option maxRecDepth 20000 in
theorem dX1_addPrices_14 : decode cX1_addPrices 14 = .ok (.iconst 1, 1) ∧ 14 + 1 = 15 := ⟨by decide +kernel, rfl⟩
set_option maxRecDepth 20000 in
theorem dX1_addPrices_15 : decode cX1_addPrices 15 = .ok (.aload_n 0, 1) ∧ 15 + 1 = 16 := ⟨by decide +kernel, rfl⟩
set_option maxRecDepth 20000 in
theorem dX1_addPrices_16 : decode cX1_addPrices 16 = .ok (.getfield 58, 3) ∧ 16 + 3 = 19 := ⟨by decide +kernel, rfl⟩
set_option maxRecDepth 20000 in
theorem dX1_addPrices_19 : decode cX1_addPrices 19 = .ok (.ishl, 1) ∧ 19 + 1 = 20 := ⟨by decide +kernel, rfl⟩
set_option maxRecDepth 20000 in
theorem dX1_addPrices_20 : decode cX1_addPrices 20 = .ok (.if_icmp .ge 58, 3) ∧ 20 + 3 = 23 ∧ ((20 : Nat) : Int) + (58) = ((78 : Nat) : Int) := ⟨by decide +kernel, rfl, by decide⟩
set_option maxRecDepth 20000 in
theorem dX1_addPrices_23 : decode cX1_addPrices 23 = .ok (.iload_n 2, 1) ∧ 23 + 1 = 24 := ⟨by decide +kernel, rfl⟩
set_option maxRecDepth 20000 in
theorem dX1_addPrices_24 : decode cX1_addPrices 24 = .ok (.invokestatic 94, 3) ∧ 24 + 3 = 27 := ⟨by decide +kernel, rfl⟩
set_option maxRecDepth 20000 in
theorem dX1_addPrices_27 : decode cX1_addPrices 27 = .ok (.istore_n 3, 1) ∧ 27 + 1 = 28 := ⟨by decide +kernel, rfl⟩
set_option maxRecDepth 20000 in
theorem dX1_addPrices_28 : decode cX1_addPrices 28 = .ok (.iload_n 2, 1) ∧ 28 + 1 = 29 := ⟨by decide +kernel, rfl⟩
set_option maxRecDepth 20000 in
theorem dX1_addPrices_29 : decode cX1_addPrices 29 = .ok (.iload_n 2, 1) ∧ 29 + 1 = 30 := ⟨by decide +kernel, rfl⟩
set_option maxRecDepth 20000 in
theorem dX1_addPrices_30 : decode cX1_addPrices 30 = .ok (.iconst 1, 1) ∧ 30 + 1 = 31 := ⟨by decide +kernel, rfl⟩
set_option maxRecDepth 20000 in
theorem dX1_addPrices_31 : decode cX1_addPrices 31 = .ok (.isub, 1) ∧ 31 + 1 = 32 := ⟨by decide +kernel, rfl⟩
set_option maxRecDepth 20000 in
theorem dX1_addPrices_32 : decode cX1_addPrices 32 = .ok (.iand, 1) ∧ 32 + 1 = 33 := ⟨by decide +kernel, rfl⟩
set_option maxRecDepth 20000 in
theorem dX1_addPrices_33 : decode cX1_addPrices 33 = .ok (.istore 4, 2) ∧ 33 + 2 = 35 := ⟨by decide +kernel, rfl⟩
set_option maxRecDepth 20000 in
theorem dX1_addPrices_35 : decode cX1_addPrices 35 = .ok (.aload_n 0, 1) ∧ 35 + 1 = 36 := ⟨by decide +kernel, rfl⟩
set_option maxRecDepth 20000 in
theorem dX1_addPrices_36 : decode cX1_addPrices 36 = .ok (.getfield 21, 3) ∧ 36 + 3 = 39 := ⟨by decide +kernel, rfl⟩
set_option maxRecDepth 20000 in
theorem dX1_addPrices_39 : decode cX1_addPrices 39 = .ok (.iload_n 1, 1) ∧ 39 + 1 = 40 := ⟨by decide +kernel, rfl⟩
set_option maxRecDepth 20000 in
theorem dX1_addPrices_40 : decode cX1_addPrices 40 = .ok (.sipush 256, 3) ∧ 40 + 3 = 43 := ⟨by decide +kernel, rfl⟩
set_option maxRecDepth 20000 in
theorem dX1_addPrices_43 : decode cX1_addPrices 43 = .ok (.imul, 1) ∧ 43 + 1 = 44 := ⟨by decide +kernel, rfl⟩
set_option maxRecDepth 20000 in
theorem dX1_addPrices_44 : decode cX1_addPrices 44 = .ok (.iload_n 2, 1) ∧ 44 + 1 = 45 := ⟨by decide +kernel, rfl⟩
set_option maxRecDepth 20000 in
theorem dX1_addPrices_45 : decode cX1_addPrices 45 = .ok (.iadd, 1) ∧ 45 + 1 = 46 := ⟨by decide +kernel, rfl⟩
set_option maxRecDepth 20000 in
theorem dX1_addPrices_46 : decode cX1_addPrices 46 = .ok (.aload_n 0, 1) ∧ 46 + 1 = 47 := ⟨by decide +kernel, rfl⟩
set_option maxRecDepth 20000 in
theorem dX1_addPrices_47 : decode cX1_addPrices 47 = .ok (.getfield 21, 3) ∧ 47 + 3 = 50 := ⟨by decide +kernel, rfl⟩
set_option maxRecDepth 20000 in
theorem dX1_addPrices_50 : decode cX1_addPrices 50 = .ok (.iload_n 1, 1) ∧ 50 + 1 = 51 := ⟨by decide +kernel, rfl⟩
set_option maxRecDepth 20000 in
theorem dX1_addPrices_51 : decode cX1_addPrices 51 = .ok (.sipush 256, 3) ∧ 51 + 3 = 54 := ⟨by decide +kernel, rfl⟩
set_option maxRecDepth 20000 in
theorem dX1_addPrices_54 : decode cX1_addPrices 54 = .ok (.imul, 1) ∧ 54 + 1 = 55 := ⟨by decide +kernel, rfl⟩
set_option maxRecDepth 20000 in
theorem dX1_addPrices_55 : decode cX1_addPrices 55 = .ok (.iload 4, 2) ∧ 55 + 2 = 57 := ⟨by decide +kernel, rfl⟩
set_option maxRecDepth 20000 in
theorem dX1_addPrices_57 : decode cX1_addPrices 57 = .ok (.iadd, 1) ∧ 57 + 1 = 58 := ⟨by decide +kernel, rfl⟩
set_option maxRecDepth 20000 in
theorem dX1_addPrices_58 : decode cX1_addPrices 58 = .ok (.iaload, 1) ∧ 58 + 1 = 59 := ⟨by decide +kernel, rfl⟩
set_option maxRecDepth 20000 in
theorem dX1_addPrices_59 : decode cX1_addPrices 59 = .ok (.aload_n 0, 1) ∧ 59 + 1 = 60 := ⟨by decide +kernel, rfl⟩
set_option maxRecDepth 20000 in
theorem dX1_addPrices_60 : decode cX1_addPrices 60 = .ok (.getfield 18, 3) ∧ 60 + 3 = 63 := ⟨by decide +kernel, rfl⟩
set_option maxRecDepth 20000 in
theorem dX1_addPrices_63 : decode cX1_addPrices 63 = .ok (.iload_n 1, 1) ∧ 63 + 1 = 64 := ⟨by decide +kernel, rfl⟩
set_option maxRecDepth 20000 in
theorem dX1_addPrices_64 : decode cX1_addPrices 64 = .ok (.bipush 8, 2) ∧ 64 + 2 = 66 := ⟨by decide +kernel, rfl⟩
set_option maxRecDepth 20000 in
theorem dX1_addPrices_66 : decode cX1_addPrices 66 = .ok (.imul, 1) ∧ 66 + 1 = 67 := ⟨by decide +kernel, rfl⟩
set_option maxRecDepth 20000 in
theorem dX1_addPrices_67 : decode cX1_addPrices 67 = .ok (.iload_n 3, 1) ∧ 67 + 1 = 68 := ⟨by decide +kernel, rfl⟩
set_option maxRecDepth 20000 in
theorem dX1_addPrices_68 : decode cX1_addPrices 68 = .ok (.iadd, 1) ∧ 68 + 1 = 69 := ⟨by decide +kernel, rfl⟩
set_option maxRecDepth 20000 in
theorem dX1_addPrices_69 : decode cX1_addPrices 69 = .ok (.iaload, 1) ∧ 69 + 1 = 70 := ⟨by decide +kernel, rfl⟩
set_option maxRecDepth 20000 in
theorem dX1_addPrices_70 : decode cX1_addPrices 70 = .ok (.iadd, 1) ∧ 70 + 1 = 71 := ⟨by decide +kernel, rfl⟩
set_option maxRecDepth 20000 in
theorem dX1_addPrices_71 : decode cX1_addPrices 71 = .ok (.iastore, 1) ∧ 71 + 1 = 72 := ⟨by decide +kernel, rfl⟩
set_option maxRecDepth 20000 in
theorem dX1_addPrices_72 : decode cX1_addPrices 72 = .ok (.iinc 2 1, 3) ∧ 72 + 3 = 75 := ⟨by decide +kernel, rfl⟩
set_option maxRecDepth 20000 in
theorem dX1_addPrices_75 : decode cX1_addPrices 75 = .ok (.goto (-62), 3) ∧ ((75 : Nat) : Int) + (-62) = ((13 : Nat) : Int) := ⟨by decide +kernel, by decide⟩
set_option maxRecDepth 20000 in
theorem dX1_addPrices_78 : decode cX1_addPrices 78 = .ok (.return_, 1) := by decide +kernel
set_option maxRecDepth 20000 in
theorem dX1_cost_0 : decode cX1_cost 0 = .ok (.aload_n 0, 1) ∧ 0 + 1 = 1 := ⟨by decide +kernel, rfl⟩
set_option maxRecDepth 20000 in
theorem dX1_cost_1 : decode cX1_cost 1 = .ok (.getfield 21, 3) ∧ 1 + 3 = 4 := ⟨by decide +kernel, rfl⟩
set_option maxRecDepth 20000 in
theorem dX1_cost_4 : decode cX1_cost 4 = .ok (.iload_n 1, 1) ∧ 4 + 1 = 5 := ⟨by decide +kernel, rfl⟩
set_option maxRecDepth 20000 in
theorem dX1_cost_5 : decode cX1_cost 5 = .ok (.sipush 256, 3) ∧ 5 + 3 = 8 := ⟨by decide +kernel, rfl⟩
set_option maxRecDepth 20000 in
theorem dX1_cost_8 : decode cX1_cost 8 = .ok (.imul, 1) ∧ 8 + 1 = 9 := ⟨by decide +kernel, rfl⟩
set_option maxRecDepth 20000 in
theorem dX1_cost_9 : decode cX1_cost 9 = .ok (.iload_n 2, 1) ∧ 9 + 1 = 10 := ⟨by decide +kernel, rfl⟩
set_option maxRecDepth 20000 in
theorem dX1_cost_10 : decode cX1_cost 10 = .ok (.iadd, 1) ∧ 10 + 1 = 11 := ⟨by decide +kernel, rfl⟩
set_option maxRecDepth 20000 in
theorem dX1_cost_11 : decode cX1_cost 11 = .ok (.iaload, 1) ∧ 11 + 1 = 12 := ⟨by decide +kernel, rfl⟩
set_option maxRecDepth 20000 in
theorem dX1_cost_12 : decode cX1_cost 12 = .ok (.ireturn, 1) := by decide +kernel
set_option maxRecDepth 20000 in
theorem dX1_affords_0 : decode cX1_affords 0 = .ok (.aload_n 0, 1) ∧ 0 + 1 = 1 := ⟨by decide +kernel, rfl⟩
set_option maxRecDepth 20000 in
theorem dX1_affords_1 : decode cX1_affords 1 = .ok (.iload_n 1, 1) ∧ 1 + 1 = 2 := ⟨by decide +kernel, rfl⟩
set_option maxRecDepth 20000 in
theorem dX1_affords_2 : decode cX1_affords 2 = .ok (.iload_n 2, 1) ∧ 2 + 1 = 3 := ⟨by decide +kernel, rfl⟩
set_option maxRecDepth 20000 in
theorem dX1_affords_3 : decode cX1_affords 3 = .ok (.invokevirtual 100, 3) ∧ 3 + 3 = 6 := ⟨by decide +kernel, rfl⟩
set_option maxRecDepth 20000 in
theorem dX1_affords_6 : decode cX1_affords 6 = .ok (.aload_n 0, 1) ∧ 6 + 1 = 7 := ⟨by decide +kernel, rfl⟩
set_option maxRecDepth 20000 in
theorem dX1_affords_7 : decode cX1_affords 7 = .ok (.getfield 24, 3) ∧ 7 + 3 = 10 := ⟨by decide +kernel, rfl⟩
set_option maxRecDepth 20000 in
theorem dX1_affords_10 : decode cX1_affords 10 = .ok (.iload_n 1, 1) ∧ 10 + 1 = 11 := ⟨by decide +kernel, rfl⟩
set_option maxRecDepth 20000 in
theorem dX1_affords_11 : decode cX1_affords 11 = .ok (.iaload, 1) ∧ 11 + 1 = 12 := ⟨by decide +kernel, rfl⟩
set_option maxRecDepth 20000 in
theorem dX1_affords_12 : decode cX1_affords 12 = .ok (.if_icmp .gt 7, 3) ∧ 12 + 3 = 15 ∧ ((12 : Nat) : Int) + (7) = ((19 : Nat) : Int) := ⟨by decide +kernel, rfl, by decide⟩
set_option maxRecDepth 20000 in
theorem dX1_affords_15 : decode cX1_affords 15 = .ok (.iconst 1, 1) ∧ 15 + 1 = 16 := ⟨by decide +kernel, rfl⟩
set_option maxRecDepth 20000 in
theorem dX1_affords_16 : decode cX1_affords 16 = .ok (.goto 4, 3) ∧ ((16 : Nat) : Int) + (4) = ((20 : Nat) : Int) := ⟨by decide +kernel, by decide⟩
set_option maxRecDepth 20000 in
theorem dX1_affords_19 : decode cX1_affords 19 = .ok (.iconst 0, 1) ∧ 19 + 1 = 20 := ⟨by decide +kernel, rfl⟩
set_option maxRecDepth 20000 in
theorem dX1_affords_20 : decode cX1_affords 20 = .ok (.ireturn, 1) := by decide +kernel
set_option maxRecDepth 20000 in
theorem dX1_can_0 : decode cX1_can 0 = .ok (.iload_n 2, 1) ∧ 0 + 1 = 1 := ⟨by decide +kernel, rfl⟩
set_option maxRecDepth 20000 in
theorem dX1_can_1 : decode cX1_can 1 = .ok (.aload_n 0, 1) ∧ 1 + 1 = 2 := ⟨by decide +kernel, rfl⟩
set_option maxRecDepth 20000 in
theorem dX1_can_2 : decode cX1_can 2 = .ok (.getfield 62, 3) ∧ 2 + 3 = 5 := ⟨by decide +kernel, rfl⟩
set_option maxRecDepth 20000 in
theorem dX1_can_5 : decode cX1_can 5 = .ok (.iconst (-1), 1) ∧ 5 + 1 = 6 := ⟨by decide +kernel, rfl⟩
set_option maxRecDepth 20000 in
theorem dX1_can_6 : decode cX1_can 6 = .ok (.ixor, 1) ∧ 6 + 1 = 7 := ⟨by decide +kernel, rfl⟩
set_option maxRecDepth 20000 in
theorem dX1_can_7 : decode cX1_can 7 = .ok (.iand, 1) ∧ 7 + 1 = 8 := ⟨by decide +kernel, rfl⟩
set_option maxRecDepth 20000 in
theorem dX1_can_8 : decode cX1_can 8 = .ok (.ifCond .ne 16, 3) ∧ 8 + 3 = 11 ∧ ((8 : Nat) : Int) + (16) = ((24 : Nat) : Int) := ⟨by decide +kernel, rfl, by decide⟩
set_option maxRecDepth 20000 in
theorem dX1_can_11 : decode cX1_can 11 = .ok (.aload_n 0, 1) ∧ 11 + 1 = 12 := ⟨by decide +kernel, rfl⟩
set_option maxRecDepth 20000 in
theorem dX1_can_12 : decode cX1_can 12 = .ok (.iload_n 1, 1) ∧ 12 + 1 = 13 := ⟨by decide +kernel, rfl⟩
set_option maxRecDepth 20000 in
theorem dX1_can_13 : decode cX1_can 13 = .ok (.iload_n 2, 1) ∧ 13 + 1 = 14 := ⟨by decide +kernel, rfl⟩
set_option maxRecDepth 20000 in
theorem dX1_can_14 : decode cX1_can 14 = .ok (.invokevirtual 103, 3) ∧ 14 + 3 = 17 := ⟨by decide +kernel, rfl⟩
set_option maxRecDepth 20000 in
theorem dX1_can_17 : decode cX1_can 17 = .ok (.ifCond .eq 7, 3) ∧ 17 + 3 = 20 ∧ ((17 : Nat) : Int) + (7) = ((24 : Nat) : Int) := ⟨by decide +kernel, rfl, by decide⟩
set_option maxRecDepth 20000 in
theorem dX1_can_20 : decode cX1_can 20 = .ok (.iconst 1, 1) ∧ 20 + 1 = 21 := ⟨by decide +kernel, rfl⟩
set_option maxRecDepth 20000 in
theorem dX1_can_21 : decode cX1_can 21 = .ok (.goto 4, 3) ∧ ((21 : Nat) : Int) + (4) = ((25 : Nat) : Int) := ⟨by decide +kernel, by decide⟩
set_option maxRecDepth 20000 in
theorem dX1_can_24 : decode cX1_can 24 = .ok (.iconst 0, 1) ∧ 24 + 1 = 25 := ⟨by decide +kernel, rfl⟩
set_option maxRecDepth 20000 in
theorem dX1_can_25 : decode cX1_can 25 = .ok (.ireturn, 1) := by decide +kernel
set_option maxRecDepth 20000 in
theorem dX1_told_0 : decode cX1_told 0 = .ok (.iload_n 2, 1) ∧ 0 + 1 = 1 := ⟨by decide +kernel, rfl⟩
set_option maxRecDepth 20000 in
theorem dX1_told_1 : decode cX1_told 1 = .ok (.iconst (-1), 1) ∧ 1 + 1 = 2 := ⟨by decide +kernel, rfl⟩
set_option maxRecDepth 20000 in
theorem dX1_told_2 : decode cX1_told 2 = .ok (.if_icmp .eq 7, 3) ∧ 2 + 3 = 5 ∧ ((2 : Nat) : Int) + (7) = ((9 : Nat) : Int) := ⟨by decide +kernel, rfl, by decide⟩
set_option maxRecDepth 20000 in
theorem dX1_told_5 : decode cX1_told 5 = .ok (.iload_n 3, 1) ∧ 5 + 1 = 6 := ⟨by decide +kernel, rfl⟩
set_option maxRecDepth 20000 in
theorem dX1_told_6 : decode cX1_told 6 = .ok (.ifCond .ne 7, 3) ∧ 6 + 3 = 9 ∧ ((6 : Nat) : Int) + (7) = ((13 : Nat) : Int) := ⟨by decide +kernel, rfl, by decide⟩
set_option maxRecDepth 20000 in
theorem dX1_told_9 : decode cX1_told 9 = .ok (.iload_n 2, 1) ∧ 9 + 1 = 10 := ⟨by decide +kernel, rfl⟩
set_option maxRecDepth 20000 in
theorem dX1_told_10 : decode cX1_told 10 = .ok (.goto 9, 3) ∧ ((10 : Nat) : Int) + (9) = ((19 : Nat) : Int) := ⟨by decide +kernel, by decide⟩
set_option maxRecDepth 20000 in
theorem dX1_told_13 : decode cX1_told 13 = .ok (.aload_n 0, 1) ∧ 13 + 1 = 14 := ⟨by decide +kernel, rfl⟩
set_option maxRecDepth 20000 in
theorem dX1_told_14 : decode cX1_told 14 = .ok (.iload_n 1, 1) ∧ 14 + 1 = 15 := ⟨by decide +kernel, rfl⟩
set_option maxRecDepth 20000 in
theorem dX1_told_15 : decode cX1_told 15 = .ok (.iload_n 2, 1) ∧ 15 + 1 = 16 := ⟨by decide +kernel, rfl⟩
set_option maxRecDepth 20000 in
theorem dX1_told_16 : decode cX1_told 16 = .ok (.invokevirtual 100, 3) ∧ 16 + 3 = 19 := ⟨by decide +kernel, rfl⟩
set_option maxRecDepth 20000 in
theorem dX1_told_19 : decode cX1_told 19 = .ok (.ireturn, 1) := by decide +kernel
set_option maxRecDepth 20000 in
theorem dX1_chanceWith_0 : decode cX1_chanceWith 0 = .ok (.aload_n 0, 1) ∧ 0 + 1 = 1 := ⟨by decide +kernel, rfl⟩
set_option maxRecDepth 20000 in
theorem dX1_chanceWith_1 : decode cX1_chanceWith 1 = .ok (.getfield 9, 3) ∧ 1 + 3 = 4 := ⟨by decide +kernel, rfl⟩
set_option maxRecDepth 20000 in
theorem dX1_chanceWith_4 : decode cX1_chanceWith 4 = .ok (.iload_n 1, 1) ∧ 4 + 1 = 5 := ⟨by decide +kernel, rfl⟩
set_option maxRecDepth 20000 in
theorem dX1_chanceWith_5 : decode cX1_chanceWith 5 = .ok (.iconst 4, 1) ∧ 5 + 1 = 6 := ⟨by decide +kernel, rfl⟩
set_option maxRecDepth 20000 in
theorem dX1_chanceWith_6 : decode cX1_chanceWith 6 = .ok (.imul, 1) ∧ 6 + 1 = 7 := ⟨by decide +kernel, rfl⟩
set_option maxRecDepth 20000 in
theorem dX1_chanceWith_7 : decode cX1_chanceWith 7 = .ok (.aload_n 0, 1) ∧ 7 + 1 = 8 := ⟨by decide +kernel, rfl⟩
set_option maxRecDepth 20000 in
theorem dX1_chanceWith_8 : decode cX1_chanceWith 8 = .ok (.getfield 15, 3) ∧ 8 + 3 = 11 := ⟨by decide +kernel, rfl⟩
set_option maxRecDepth 20000 in
theorem dX1_chanceWith_11 : decode cX1_chanceWith 11 = .ok (.iload_n 1, 1) ∧ 11 + 1 = 12 := ⟨by decide +kernel, rfl⟩
set_option maxRecDepth 20000 in
theorem dX1_chanceWith_12 : decode cX1_chanceWith 12 = .ok (.iaload, 1) ∧ 12 + 1 = 13 := ⟨by decide +kernel, rfl⟩
set_option maxRecDepth 20000 in
theorem dX1_chanceWith_13 : decode cX1_chanceWith 13 = .ok (.iload_n 2, 1) ∧ 13 + 1 = 14 := ⟨by decide +kernel, rfl⟩
set_option maxRecDepth 20000 in
theorem dX1_chanceWith_14 : decode cX1_chanceWith 14 = .ok (.ior, 1) ∧ 14 + 1 = 15 := ⟨by decide +kernel, rfl⟩
set_option maxRecDepth 20000 in
theorem dX1_chanceWith_15 : decode cX1_chanceWith 15 = .ok (.iadd, 1) ∧ 15 + 1 = 16 := ⟨by decide +kernel, rfl⟩
set_option maxRecDepth 20000 in
theorem dX1_chanceWith_16 : decode cX1_chanceWith 16 = .ok (.iaload, 1) ∧ 16 + 1 = 17 := ⟨by decide +kernel, rfl⟩
set_option maxRecDepth 20000 in
theorem dX1_chanceWith_17 : decode cX1_chanceWith 17 = .ok (.ireturn, 1) := by decide +kernel
set_option maxRecDepth 20000 in
theorem dX1_winning_0 : decode cX1_winning 0 = .ok (.aload_n 0, 1) ∧ 0 + 1 = 1 := ⟨by decide +kernel, rfl⟩
set_option maxRecDepth 20000 in
theorem dX1_winning_1 : decode cX1_winning 1 = .ok (.aload_n 0, 1) ∧ 1 + 1 = 2 := ⟨by decide +kernel, rfl⟩
set_option maxRecDepth 20000 in
theorem dX1_winning_2 : decode cX1_winning 2 = .ok (.getfield 62, 3) ∧ 2 + 3 = 5 := ⟨by decide +kernel, rfl⟩
set_option maxRecDepth 20000 in
theorem dX1_winning_5 : decode cX1_winning 5 = .ok (.aload_n 0, 1) ∧ 5 + 1 = 6 := ⟨by decide +kernel, rfl⟩
set_option maxRecDepth 20000 in
theorem dX1_winning_6 : decode cX1_winning 6 = .ok (.getfield 66, 3) ∧ 6 + 3 = 9 := ⟨by decide +kernel, rfl⟩
set_option maxRecDepth 20000 in
theorem dX1_winning_9 : decode cX1_winning 9 = .ok (.iload_n 1, 1) ∧ 9 + 1 = 10 := ⟨by decide +kernel, rfl⟩
set_option maxRecDepth 20000 in
theorem dX1_winning_10 : decode cX1_winning 10 = .ok (.iload_n 2, 1) ∧ 10 + 1 = 11 := ⟨by decide +kernel, rfl⟩
set_option maxRecDepth 20000 in
theorem dX1_winning_11 : decode cX1_winning 11 = .ok (.invokevirtual 107, 3) ∧ 11 + 3 = 14 := ⟨by decide +kernel, rfl⟩
set_option maxRecDepth 20000 in
theorem dX1_winning_14 : decode cX1_winning 14 = .ok (.lreturn, 1) := by decide +kernel
set_option maxRecDepth 20000 in
theorem dX1_winningOn_0 : decode cX1_winningOn 0 = .ok (.aload_n 0, 1) ∧ 0 + 1 = 1 := ⟨by decide +kernel, rfl⟩
set_option maxRecDepth 20000 in
theorem dX1_winningOn_1 : decode cX1_winningOn 1 = .ok (.getfield 41, 3) ∧ 1 + 3 = 4 := ⟨by decide +kernel, rfl⟩
set_option maxRecDepth 20000 in
theorem dX1_winningOn_4 : decode cX1_winningOn 4 = .ok (.invokevirtual 111, 3) ∧ 4 + 3 = 7 := ⟨by decide +kernel, rfl⟩
set_option maxRecDepth 20000 in
theorem dX1_winningOn_7 : decode cX1_winningOn 7 = .ok (.iconst 0, 1) ∧ 7 + 1 = 8 := ⟨by decide +kernel, rfl⟩
set_option maxRecDepth 20000 in
theorem dX1_winningOn_8 : decode cX1_winningOn 8 = .ok (.istore 5, 2) ∧ 8 + 2 = 10 := ⟨by decide +kernel, rfl⟩
set_option maxRecDepth 20000 in
theorem dX1_winningOn_10 : decode cX1_winningOn 10 = .ok (.iload 5, 2) ∧ 10 + 2 = 12 := ⟨by decide +kernel, rfl⟩
set_option maxRecDepth 20000 in
theorem dX1_winningOn_12 : decode cX1_winningOn 12 = .ok (.aload_n 0, 1) ∧ 12 + 1 = 13 := ⟨by decide +kernel, rfl⟩
set_option maxRecDepth 20000 in
theorem dX1_winningOn_13 : decode cX1_winningOn 13 = .ok (.getfield 58, 3) ∧ 13 + 3 = 16 := ⟨by decide +kernel, rfl⟩
set_option maxRecDepth 20000 in
theorem dX1_winningOn_16 : decode cX1_winningOn 16 = .ok (.if_icmp .ge 48, 3) ∧ 16 + 3 = 19 ∧ ((16 : Nat) : Int) + (48) = ((64 : Nat) : Int) := ⟨by decide +kernel, rfl, by decide⟩
set_option maxRecDepth 20000 in
theorem dX1_winningOn_19 : decode cX1_winningOn 19 = .ok (.iload_n 1, 1) ∧ 19 + 1 = 20 := ⟨by decide +kernel, rfl⟩
set_option maxRecDepth 20000 in
theorem dX1_winningOn_20 : decode cX1_winningOn 20 = .ok (.iload 5, 2) ∧ 20 + 2 = 22 := ⟨by decide +kernel, rfl⟩
set_option maxRecDepth 20000 in
theorem dX1_winningOn_22 : decode cX1_winningOn 22 = .ok (.ishr, 1) ∧ 22 + 1 = 23 := ⟨by decide +kernel, rfl⟩
set_option maxRecDepth 20000 in
theorem dX1_winningOn_23 : decode cX1_winningOn 23 = .ok (.iconst 1, 1) ∧ 23 + 1 = 24 := ⟨by decide +kernel, rfl⟩
set_option maxRecDepth 20000 in
theorem dX1_winningOn_24 : decode cX1_winningOn 24 = .ok (.iand, 1) ∧ 24 + 1 = 25 := ⟨by decide +kernel, rfl⟩
set_option maxRecDepth 20000 in
theorem dX1_winningOn_25 : decode cX1_winningOn 25 = .ok (.iconst 1, 1) ∧ 25 + 1 = 26 := ⟨by decide +kernel, rfl⟩
set_option maxRecDepth 20000 in
theorem dX1_winningOn_26 : decode cX1_winningOn 26 = .ok (.if_icmp .ne 32, 3) ∧ 26 + 3 = 29 ∧ ((26 : Nat) : Int) + (32) = ((58 : Nat) : Int) := ⟨by decide +kernel, rfl, by decide⟩
set_option maxRecDepth 20000 in
theorem dX1_winningOn_29 : decode cX1_winningOn 29 = .ok (.aload_n 0, 1) ∧ 29 + 1 = 30 := ⟨by decide +kernel, rfl⟩
set_option maxRecDepth 20000 in
theorem dX1_winningOn_30 : decode cX1_winningOn 30 = .ok (.getfield 41, 3) ∧ 30 + 3 = 33 := ⟨by decide +kernel, rfl⟩
set_option maxRecDepth 20000 in
theorem dX1_winningOn_33 : decode cX1_winningOn 33 = .ok (.aload_n 0, 1) ∧ 33 + 1 = 34 := ⟨by decide +kernel, rfl⟩
set_option maxRecDepth 20000 in
theorem dX1_winningOn_34 : decode cX1_winningOn 34 = .ok (.iload 5, 2) ∧ 34 + 2 = 36 := ⟨by decide +kernel, rfl⟩
set_option maxRecDepth 20000 in
theorem dX1_winningOn_36 : decode cX1_winningOn 36 = .ok (.iload_n 3, 1) ∧ 36 + 1 = 37 := ⟨by decide +kernel, rfl⟩
set_option maxRecDepth 20000 in
theorem dX1_winningOn_37 : decode cX1_winningOn 37 = .ok (.iload 5, 2) ∧ 37 + 2 = 39 := ⟨by decide +kernel, rfl⟩
set_option maxRecDepth 20000 in
theorem dX1_winningOn_39 : decode cX1_winningOn 39 = .ok (.ishr, 1) ∧ 39 + 1 = 40 := ⟨by decide +kernel, rfl⟩
set_option maxRecDepth 20000 in
theorem dX1_winningOn_40 : decode cX1_winningOn 40 = .ok (.iconst 1, 1) ∧ 40 + 1 = 41 := ⟨by decide +kernel, rfl⟩
set_option maxRecDepth 20000 in
theorem dX1_winningOn_41 : decode cX1_winningOn 41 = .ok (.iand, 1) ∧ 41 + 1 = 42 := ⟨by decide +kernel, rfl⟩
set_option maxRecDepth 20000 in
theorem dX1_winningOn_42 : decode cX1_winningOn 42 = .ok (.iload 4, 2) ∧ 42 + 2 = 44 := ⟨by decide +kernel, rfl⟩
set_option maxRecDepth 20000 in
theorem dX1_winningOn_44 : decode cX1_winningOn 44 = .ok (.iload 5, 2) ∧ 44 + 2 = 46 := ⟨by decide +kernel, rfl⟩
set_option maxRecDepth 20000 in
theorem dX1_winningOn_46 : decode cX1_winningOn 46 = .ok (.ishr, 1) ∧ 46 + 1 = 47 := ⟨by decide +kernel, rfl⟩
set_option maxRecDepth 20000 in
theorem dX1_winningOn_47 : decode cX1_winningOn 47 = .ok (.iconst 1, 1) ∧ 47 + 1 = 48 := ⟨by decide +kernel, rfl⟩
set_option maxRecDepth 20000 in
theorem dX1_winningOn_48 : decode cX1_winningOn 48 = .ok (.iand, 1) ∧ 48 + 1 = 49 := ⟨by decide +kernel, rfl⟩
set_option maxRecDepth 20000 in
theorem dX1_winningOn_49 : decode cX1_winningOn 49 = .ok (.iconst 1, 1) ∧ 49 + 1 = 50 := ⟨by decide +kernel, rfl⟩
set_option maxRecDepth 20000 in
theorem dX1_winningOn_50 : decode cX1_winningOn 50 = .ok (.ishl, 1) ∧ 50 + 1 = 51 := ⟨by decide +kernel, rfl⟩
set_option maxRecDepth 20000 in
theorem dX1_winningOn_51 : decode cX1_winningOn 51 = .ok (.ior, 1) ∧ 51 + 1 = 52 := ⟨by decide +kernel, rfl⟩
set_option maxRecDepth 20000 in
theorem dX1_winningOn_52 : decode cX1_winningOn 52 = .ok (.invokevirtual 114, 3) ∧ 52 + 3 = 55 := ⟨by decide +kernel, rfl⟩
set_option maxRecDepth 20000 in
theorem dX1_winningOn_55 : decode cX1_winningOn 55 = .ok (.invokevirtual 117, 3) ∧ 55 + 3 = 58 := ⟨by decide +kernel, rfl⟩
set_option maxRecDepth 20000 in
theorem dX1_winningOn_58 : decode cX1_winningOn 58 = .ok (.iinc 5 1, 3) ∧ 58 + 3 = 61 := ⟨by decide +kernel, rfl⟩
set_option maxRecDepth 20000 in
theorem dX1_winningOn_61 : decode cX1_winningOn 61 = .ok (.goto (-51), 3) ∧ ((61 : Nat) : Int) + (-51) = ((10 : Nat) : Int) := ⟨by decide +kernel, by decide⟩
set_option maxRecDepth 20000 in
theorem dX1_winningOn_64 : decode cX1_winningOn 64 = .ok (.aload_n 0, 1) ∧ 64 + 1 = 65 := ⟨by decide +kernel, rfl⟩
set_option maxRecDepth 20000 in
theorem dX1_winningOn_65 : decode cX1_winningOn 65 = .ok (.getfield 41, 3) ∧ 65 + 3 = 68 := ⟨by decide +kernel, rfl⟩
set_option maxRecDepth 20000 in
theorem dX1_winningOn_68 : decode cX1_winningOn 68 = .ok (.iload_n 2, 1) ∧ 68 + 1 = 69 := ⟨by decide +kernel, rfl⟩
set_option maxRecDepth 20000 in
theorem dX1_winningOn_69 : decode cX1_winningOn 69 = .ok (.invokevirtual 120, 3) ∧ 69 + 3 = 72 := ⟨by decide +kernel, rfl⟩
set_option maxRecDepth 20000 in
theorem dX1_winningOn_72 : decode cX1_winningOn 72 = .ok (.lreturn, 1) := by decide +kernel
set_option maxRecDepth 20000 in
theorem dX1_winningBy_0 : decode cX1_winningBy 0 = .ok (.iload_n 1, 1) ∧ 0 + 1 = 1 := ⟨by decide +kernel, rfl⟩
set_option maxRecDepth 20000 in
theorem dX1_winningBy_1 : decode cX1_winningBy 1 = .ok (.ifCond .ne 12, 3) ∧ 1 + 3 = 4 ∧ ((1 : Nat) : Int) + (12) = ((13 : Nat) : Int) := ⟨by decide +kernel, rfl, by decide⟩
set_option maxRecDepth 20000 in
theorem dX1_winningBy_4 : decode cX1_winningBy 4 = .ok (.aload_n 0, 1) ∧ 4 + 1 = 5 := ⟨by decide +kernel, rfl⟩
set_option maxRecDepth 20000 in
theorem dX1_winningBy_5 : decode cX1_winningBy 5 = .ok (.iload_n 2, 1) ∧ 5 + 1 = 6 := ⟨by decide +kernel, rfl⟩
set_option maxRecDepth 20000 in
theorem dX1_winningBy_6 : decode cX1_winningBy 6 = .ok (.iload_n 3, 1) ∧ 6 + 1 = 7 := ⟨by decide +kernel, rfl⟩
set_option maxRecDepth 20000 in
theorem dX1_winningBy_7 : decode cX1_winningBy 7 = .ok (.invokevirtual 124, 3) ∧ 7 + 3 = 10 := ⟨by decide +kernel, rfl⟩
set_option maxRecDepth 20000 in
theorem dX1_winningBy_10 : decode cX1_winningBy 10 = .ok (.goto 9, 3) ∧ ((10 : Nat) : Int) + (9) = ((19 : Nat) : Int) := ⟨by decide +kernel, by decide⟩
set_option maxRecDepth 20000 in
theorem dX1_winningBy_13 : decode cX1_winningBy 13 = .ok (.aload_n 0, 1) ∧ 13 + 1 = 14 := ⟨by decide +kernel, rfl⟩
set_option maxRecDepth 20000 in
theorem dX1_winningBy_14 : decode cX1_winningBy 14 = .ok (.iload_n 3, 1) ∧ 14 + 1 = 15 := ⟨by decide +kernel, rfl⟩
set_option maxRecDepth 20000 in
theorem dX1_winningBy_15 : decode cX1_winningBy 15 = .ok (.iload_n 2, 1) ∧ 15 + 1 = 16 := ⟨by decide +kernel, rfl⟩
set_option maxRecDepth 20000 in
theorem dX1_winningBy_16 : decode cX1_winningBy 16 = .ok (.invokevirtual 124, 3) ∧ 16 + 3 = 19 := ⟨by decide +kernel, rfl⟩
set_option maxRecDepth 20000 in
theorem dX1_winningBy_19 : decode cX1_winningBy 19 = .ok (.lreturn, 1) := by decide +kernel
set_option maxRecDepth 20000 in
theorem dX1_worth_0 : decode cX1_worth 0 = .ok (.iload_n 0, 1) ∧ 0 + 1 = 1 := ⟨by decide +kernel, rfl⟩
set_option maxRecDepth 20000 in
theorem dX1_worth_1 : decode cX1_worth 1 = .ok (.ifCond .ne 7, 3) ∧ 1 + 3 = 4 ∧ ((1 : Nat) : Int) + (7) = ((8 : Nat) : Int) := ⟨by decide +kernel, rfl, by decide⟩
set_option maxRecDepth 20000 in
theorem dX1_worth_4 : decode cX1_worth 4 = .ok (.lload_n 1, 1) ∧ 4 + 1 = 5 := ⟨by decide +kernel, rfl⟩
set_option maxRecDepth 20000 in
theorem dX1_worth_5 : decode cX1_worth 5 = .ok (.goto 5, 3) ∧ ((5 : Nat) : Int) + (5) = ((10 : Nat) : Int) := ⟨by decide +kernel, by decide⟩
set_option maxRecDepth 20000 in
theorem dX1_worth_8 : decode cX1_worth 8 = .ok (.lload_n 1, 1) ∧ 8 + 1 = 9 := ⟨by decide +kernel, rfl⟩
set_option maxRecDepth 20000 in
theorem dX1_worth_9 : decode cX1_worth 9 = .ok (.lneg, 1) ∧ 9 + 1 = 10 := ⟨by decide +kernel, rfl⟩
set_option maxRecDepth 20000 in
theorem dX1_worth_10 : decode cX1_worth 10 = .ok (.lreturn, 1) := by decide +kernel
set_option maxRecDepth 20000 in
theorem dX1_bestReply_0 : decode cX1_bestReply 0 = .ok (.iconst 0, 1) ∧ 0 + 1 = 1 := ⟨by decide +kernel, rfl⟩
set_option maxRecDepth 20000 in
theorem dX1_bestReply_1 : decode cX1_bestReply 1 = .ok (.istore_n 3, 1) ∧ 1 + 1 = 2 := ⟨by decide +kernel, rfl⟩
set_option maxRecDepth 20000 in
theorem dX1_bestReply_2 : decode cX1_bestReply 2 = .ok (.ldc2_w 130, 3) ∧ 2 + 3 = 5 := ⟨by decide +kernel, rfl⟩
set_option maxRecDepth 20000 in
theorem dX1_bestReply_5 : decode cX1_bestReply 5 = .ok (.lstore 4, 2) ∧ 5 + 2 = 7 := ⟨by decide +kernel, rfl⟩
set_option maxRecDepth 20000 in
theorem dX1_bestReply_7 : decode cX1_bestReply 7 = .ok (.iconst 0, 1) ∧ 7 + 1 = 8 := ⟨by decide +kernel, rfl⟩
set_option maxRecDepth 20000 in
theorem dX1_bestReply_8 : decode cX1_bestReply 8 = .ok (.istore 6, 2) ∧ 8 + 2 = 10 := ⟨by decide +kernel, rfl⟩
set_option maxRecDepth 20000 in
theorem dX1_bestReply_10 : decode cX1_bestReply 10 = .ok (.iload 6, 2) ∧ 10 + 2 = 12 := ⟨by decide +kernel, rfl⟩
set_option maxRecDepth 20000 in
theorem dX1_bestReply_12 : decode cX1_bestReply 12 = .ok (.aload_n 0, 1) ∧ 12 + 1 = 13 := ⟨by decide +kernel, rfl⟩
set_option maxRecDepth 20000 in
theorem dX1_bestReply_13 : decode cX1_bestReply 13 = .ok (.getfield 62, 3) ∧ 13 + 3 = 16 := ⟨by decide +kernel, rfl⟩
set_option maxRecDepth 20000 in
theorem dX1_bestReply_16 : decode cX1_bestReply 16 = .ok (.if_icmp .gt 72, 3) ∧ 16 + 3 = 19 ∧ ((16 : Nat) : Int) + (72) = ((88 : Nat) : Int) := ⟨by decide +kernel, rfl, by decide⟩
set_option maxRecDepth 20000 in
theorem dX1_bestReply_19 : decode cX1_bestReply 19 = .ok (.aload_n 0, 1) ∧ 19 + 1 = 20 := ⟨by decide +kernel, rfl⟩
set_option maxRecDepth 20000 in
theorem dX1_bestReply_20 : decode cX1_bestReply 20 = .ok (.iload_n 1, 1) ∧ 20 + 1 = 21 := ⟨by decide +kernel, rfl⟩
set_option maxRecDepth 20000 in
theorem dX1_bestReply_21 : decode cX1_bestReply 21 = .ok (.iload 6, 2) ∧ 21 + 2 = 23 := ⟨by decide +kernel, rfl⟩
set_option maxRecDepth 20000 in
theorem dX1_bestReply_23 : decode cX1_bestReply 23 = .ok (.invokevirtual 132, 3) ∧ 23 + 3 = 26 := ⟨by decide +kernel, rfl⟩
set_option maxRecDepth 20000 in
theorem dX1_bestReply_26 : decode cX1_bestReply 26 = .ok (.ifCond .eq 56, 3) ∧ 26 + 3 = 29 ∧ ((26 : Nat) : Int) + (56) = ((82 : Nat) : Int) := ⟨by decide +kernel, rfl, by decide⟩
set_option maxRecDepth 20000 in
theorem dX1_bestReply_29 : decode cX1_bestReply 29 = .ok (.iload_n 1, 1) ∧ 29 + 1 = 30 := ⟨by decide +kernel, rfl⟩
set_option maxRecDepth 20000 in
theorem dX1_bestReply_30 : decode cX1_bestReply 30 = .ok (.aload_n 0, 1) ∧ 30 + 1 = 31 := ⟨by decide +kernel, rfl⟩
set_option maxRecDepth 20000 in
theorem dX1_bestReply_31 : decode cX1_bestReply 31 = .ok (.iload_n 1, 1) ∧ 31 + 1 = 32 := ⟨by decide +kernel, rfl⟩
set_option maxRecDepth 20000 in
theorem dX1_bestReply_32 : decode cX1_bestReply 32 = .ok (.iload 6, 2) ∧ 32 + 2 = 34 := ⟨by decide +kernel, rfl⟩
set_option maxRecDepth 20000 in
theorem dX1_bestReply_34 : decode cX1_bestReply 34 = .ok (.iload_n 2, 1) ∧ 34 + 1 = 35 := ⟨by decide +kernel, rfl⟩
set_option maxRecDepth 20000 in
theorem dX1_bestReply_35 : decode cX1_bestReply 35 = .ok (.invokevirtual 135, 3) ∧ 35 + 3 = 38 := ⟨by decide +kernel, rfl⟩
set_option maxRecDepth 20000 in
theorem dX1_bestReply_38 : decode cX1_bestReply 38 = .ok (.invokestatic 139, 3) ∧ 38 + 3 = 41 := ⟨by decide +kernel, rfl⟩
set_option maxRecDepth 20000 in
theorem dX1_bestReply_41 : decode cX1_bestReply 41 = .ok (.lstore 7, 2) ∧ 41 + 2 = 43 := ⟨by decide +kernel, rfl⟩
set_option maxRecDepth 20000 in
theorem dX1_bestReply_43 : decode cX1_bestReply 43 = .ok (.lload 7, 2) ∧ 43 + 2 = 45 := ⟨by decide +kernel, rfl⟩
set_option maxRecDepth 20000 in
theorem dX1_bestReply_45 : decode cX1_bestReply 45 = .ok (.lload 4, 2) ∧ 45 + 2 = 47 := ⟨by decide +kernel, rfl⟩
set_option maxRecDepth 20000 in
theorem dX1_bestReply_47 : decode cX1_bestReply 47 = .ok (.lcmp, 1) ∧ 47 + 1 = 48 := ⟨by decide +kernel, rfl⟩
set_option maxRecDepth 20000 in
theorem dX1_bestReply_48 : decode cX1_bestReply 48 = .ok (.ifCond .gt 27, 3) ∧ 48 + 3 = 51 ∧ ((48 : Nat) : Int) + (27) = ((75 : Nat) : Int) := ⟨by decide +kernel, rfl, by decide⟩
set_option maxRecDepth 20000 in
theorem dX1_bestReply_51 : decode cX1_bestReply 51 = .ok (.lload 7, 2) ∧ 51 + 2 = 53 := ⟨by decide +kernel, rfl⟩
set_option maxRecDepth 20000 in
theorem dX1_bestReply_53 : decode cX1_bestReply 53 = .ok (.lload 4, 2) ∧ 53 + 2 = 55 := ⟨by decide +kernel, rfl⟩
set_option maxRecDepth 20000 in
theorem dX1_bestReply_55 : decode cX1_bestReply 55 = .ok (.lcmp, 1) ∧ 55 + 1 = 56 := ⟨by decide +kernel, rfl⟩
set_option maxRecDepth 20000 in
theorem dX1_bestReply_56 : decode cX1_bestReply 56 = .ok (.ifCond .ne 26, 3) ∧ 56 + 3 = 59 ∧ ((56 : Nat) : Int) + (26) = ((82 : Nat) : Int) := ⟨by decide +kernel, rfl, by decide⟩
set_option maxRecDepth 20000 in
theorem dX1_bestReply_59 : decode cX1_bestReply 59 = .ok (.aload_n 0, 1) ∧ 59 + 1 = 60 := ⟨by decide +kernel, rfl⟩
set_option maxRecDepth 20000 in
theorem dX1_bestReply_60 : decode cX1_bestReply 60 = .ok (.iload_n 1, 1) ∧ 60 + 1 = 61 := ⟨by decide +kernel, rfl⟩
set_option maxRecDepth 20000 in
theorem dX1_bestReply_61 : decode cX1_bestReply 61 = .ok (.iload 6, 2) ∧ 61 + 2 = 63 := ⟨by decide +kernel, rfl⟩
set_option maxRecDepth 20000 in
theorem dX1_bestReply_63 : decode cX1_bestReply 63 = .ok (.invokevirtual 100, 3) ∧ 63 + 3 = 66 := ⟨by decide +kernel, rfl⟩
set_option maxRecDepth 20000 in
theorem dX1_bestReply_66 : decode cX1_bestReply 66 = .ok (.aload_n 0, 1) ∧ 66 + 1 = 67 := ⟨by decide +kernel, rfl⟩
set_option maxRecDepth 20000 in
theorem dX1_bestReply_67 : decode cX1_bestReply 67 = .ok (.iload_n 1, 1) ∧ 67 + 1 = 68 := ⟨by decide +kernel, rfl⟩
set_option maxRecDepth 20000 in
theorem dX1_bestReply_68 : decode cX1_bestReply 68 = .ok (.iload_n 3, 1) ∧ 68 + 1 = 69 := ⟨by decide +kernel, rfl⟩
set_option maxRecDepth 20000 in
theorem dX1_bestReply_69 : decode cX1_bestReply 69 = .ok (.invokevirtual 100, 3) ∧ 69 + 3 = 72 := ⟨by decide +kernel, rfl⟩
set_option maxRecDepth 20000 in
theorem dX1_bestReply_72 : decode cX1_bestReply 72 = .ok (.if_icmp .ge 10, 3) ∧ 72 + 3 = 75 ∧ ((72 : Nat) : Int) + (10) = ((82 : Nat) : Int) := ⟨by decide +kernel, rfl, by decide⟩
set_option maxRecDepth 20000 in
theorem dX1_bestReply_75 : decode cX1_bestReply 75 = .ok (.lload 7, 2) ∧ 75 + 2 = 77 := ⟨by decide +kernel, rfl⟩
set_option maxRecDepth 20000 in
theorem dX1_bestReply_77 : decode cX1_bestReply 77 = .ok (.lstore 4, 2) ∧ 77 + 2 = 79 := ⟨by decide +kernel, rfl⟩
set_option maxRecDepth 20000 in
theorem dX1_bestReply_79 : decode cX1_bestReply 79 = .ok (.iload 6, 2) ∧ 79 + 2 = 81 := ⟨by decide +kernel, rfl⟩
set_option maxRecDepth 20000 in
theorem dX1_bestReply_81 : decode cX1_bestReply 81 = .ok (.istore_n 3, 1) ∧ 81 + 1 = 82 := ⟨by decide +kernel, rfl⟩
set_option maxRecDepth 20000 in
theorem dX1_bestReply_82 : decode cX1_bestReply 82 = .ok (.iinc 6 1, 3) ∧ 82 + 3 = 85 := ⟨by decide +kernel, rfl⟩
set_option maxRecDepth 20000 in
theorem dX1_bestReply_85 : decode cX1_bestReply 85 = .ok (.goto (-75), 3) ∧ ((85 : Nat) : Int) + (-75) = ((10 : Nat) : Int) := ⟨by decide +kernel, by decide⟩
set_option maxRecDepth 20000 in
theorem dX1_bestReply_88 : decode cX1_bestReply 88 = .ok (.iload_n 3, 1) ∧ 88 + 1 = 89 := ⟨by decide +kernel, rfl⟩
set_option maxRecDepth 20000 in
theorem dX1_bestReply_89 : decode cX1_bestReply 89 = .ok (.ireturn, 1) := by decide +kernel
set_option maxRecDepth 20000 in
theorem dX1_cheapest_0 : decode cX1_cheapest 0 = .ok (.iconst (-1), 1) ∧ 0 + 1 = 1 := ⟨by decide +kernel, rfl⟩
set_option maxRecDepth 20000 in
theorem dX1_cheapest_1 : decode cX1_cheapest 1 = .ok (.istore_n 3, 1) ∧ 1 + 1 = 2 := ⟨by decide +kernel, rfl⟩
set_option maxRecDepth 20000 in
theorem dX1_cheapest_2 : decode cX1_cheapest 2 = .ok (.iconst 0, 1) ∧ 2 + 1 = 3 := ⟨by decide +kernel, rfl⟩
set_option maxRecDepth 20000 in
theorem dX1_cheapest_3 : decode cX1_cheapest 3 = .ok (.istore 4, 2) ∧ 3 + 2 = 5 := ⟨by decide +kernel, rfl⟩
set_option maxRecDepth 20000 in
theorem dX1_cheapest_5 : decode cX1_cheapest 5 = .ok (.iload 4, 2) ∧ 5 + 2 = 7 := ⟨by decide +kernel, rfl⟩
set_option maxRecDepth 20000 in
theorem dX1_cheapest_7 : decode cX1_cheapest 7 = .ok (.aload_n 0, 1) ∧ 7 + 1 = 8 := ⟨by decide +kernel, rfl⟩
set_option maxRecDepth 20000 in
theorem dX1_cheapest_8 : decode cX1_cheapest 8 = .ok (.getfield 62, 3) ∧ 8 + 3 = 11 := ⟨by decide +kernel, rfl⟩
set_option maxRecDepth 20000 in
theorem dX1_cheapest_11 : decode cX1_cheapest 11 = .ok (.if_icmp .gt 80, 3) ∧ 11 + 3 = 14 ∧ ((11 : Nat) : Int) + (80) = ((91 : Nat) : Int) := ⟨by decide +kernel, rfl, by decide⟩
set_option maxRecDepth 20000 in
theorem dX1_cheapest_14 : decode cX1_cheapest 14 = .ok (.aload_n 0, 1) ∧ 14 + 1 = 15 := ⟨by decide +kernel, rfl⟩
set_option maxRecDepth 20000 in
theorem dX1_cheapest_15 : decode cX1_cheapest 15 = .ok (.iload_n 1, 1) ∧ 15 + 1 = 16 := ⟨by decide +kernel, rfl⟩
set_option maxRecDepth 20000 in
theorem dX1_cheapest_16 : decode cX1_cheapest 16 = .ok (.iload 4, 2) ∧ 16 + 2 = 18 := ⟨by decide +kernel, rfl⟩
set_option maxRecDepth 20000 in
theorem dX1_cheapest_18 : decode cX1_cheapest 18 = .ok (.invokevirtual 132, 3) ∧ 18 + 3 = 21 := ⟨by decide +kernel, rfl⟩
set_option maxRecDepth 20000 in
theorem dX1_cheapest_21 : decode cX1_cheapest 21 = .ok (.ifCond .eq 64, 3) ∧ 21 + 3 = 24 ∧ ((21 : Nat) : Int) + (64) = ((85 : Nat) : Int) := ⟨by decide +kernel, rfl, by decide⟩
set_option maxRecDepth 20000 in
theorem dX1_cheapest_24 : decode cX1_cheapest 24 = .ok (.iload_n 3, 1) ∧ 24 + 1 = 25 := ⟨by decide +kernel, rfl⟩
set_option maxRecDepth 20000 in
theorem dX1_cheapest_25 : decode cX1_cheapest 25 = .ok (.iconst (-1), 1) ∧ 25 + 1 = 26 := ⟨by decide +kernel, rfl⟩
set_option maxRecDepth 20000 in
theorem dX1_cheapest_26 : decode cX1_cheapest 26 = .ok (.if_icmp .eq 19, 3) ∧ 26 + 3 = 29 ∧ ((26 : Nat) : Int) + (19) = ((45 : Nat) : Int) := ⟨by decide +kernel, rfl, by decide⟩
set_option maxRecDepth 20000 in
theorem dX1_cheapest_29 : decode cX1_cheapest 29 = .ok (.aload_n 0, 1) ∧ 29 + 1 = 30 := ⟨by decide +kernel, rfl⟩
set_option maxRecDepth 20000 in
theorem dX1_cheapest_30 : decode cX1_cheapest 30 = .ok (.iload_n 1, 1) ∧ 30 + 1 = 31 := ⟨by decide +kernel, rfl⟩
set_option maxRecDepth 20000 in
theorem dX1_cheapest_31 : decode cX1_cheapest 31 = .ok (.iload 4, 2) ∧ 31 + 2 = 33 := ⟨by decide +kernel, rfl⟩
set_option maxRecDepth 20000 in
theorem dX1_cheapest_33 : decode cX1_cheapest 33 = .ok (.invokevirtual 100, 3) ∧ 33 + 3 = 36 := ⟨by decide +kernel, rfl⟩
set_option maxRecDepth 20000 in
theorem dX1_cheapest_36 : decode cX1_cheapest 36 = .ok (.aload_n 0, 1) ∧ 36 + 1 = 37 := ⟨by decide +kernel, rfl⟩
set_option maxRecDepth 20000 in
theorem dX1_cheapest_37 : decode cX1_cheapest 37 = .ok (.iload_n 1, 1) ∧ 37 + 1 = 38 := ⟨by decide +kernel, rfl⟩
set_option maxRecDepth 20000 in
theorem dX1_cheapest_38 : decode cX1_cheapest 38 = .ok (.iload_n 3, 1) ∧ 38 + 1 = 39 := ⟨by decide +kernel, rfl⟩
set_option maxRecDepth 20000 in
theorem dX1_cheapest_39 : decode cX1_cheapest 39 = .ok (.invokevirtual 100, 3) ∧ 39 + 3 = 42 := ⟨by decide +kernel, rfl⟩
set_option maxRecDepth 20000 in
theorem dX1_cheapest_42 : decode cX1_cheapest 42 = .ok (.if_icmp .ge 43, 3) ∧ 42 + 3 = 45 ∧ ((42 : Nat) : Int) + (43) = ((85 : Nat) : Int) := ⟨by decide +kernel, rfl, by decide⟩
set_option maxRecDepth 20000 in
theorem dX1_cheapest_45 : decode cX1_cheapest 45 = .ok (.aload_n 0, 1) ∧ 45 + 1 = 46 := ⟨by decide +kernel, rfl⟩
set_option maxRecDepth 20000 in
theorem dX1_cheapest_46 : decode cX1_cheapest 46 = .ok (.iload_n 1, 1) ∧ 46 + 1 = 47 := ⟨by decide +kernel, rfl⟩
set_option maxRecDepth 20000 in
theorem dX1_cheapest_47 : decode cX1_cheapest 47 = .ok (.iload 4, 2) ∧ 47 + 2 = 49 := ⟨by decide +kernel, rfl⟩
set_option maxRecDepth 20000 in
theorem dX1_cheapest_49 : decode cX1_cheapest 49 = .ok (.iconst 0, 1) ∧ 49 + 1 = 50 := ⟨by decide +kernel, rfl⟩
set_option maxRecDepth 20000 in
theorem dX1_cheapest_50 : decode cX1_cheapest 50 = .ok (.invokevirtual 135, 3) ∧ 50 + 3 = 53 := ⟨by decide +kernel, rfl⟩
set_option maxRecDepth 20000 in
theorem dX1_cheapest_53 : decode cX1_cheapest 53 = .ok (.lstore 5, 2) ∧ 53 + 2 = 55 := ⟨by decide +kernel, rfl⟩
set_option maxRecDepth 20000 in
theorem dX1_cheapest_55 : decode cX1_cheapest 55 = .ok (.aload_n 0, 1) ∧ 55 + 1 = 56 := ⟨by decide +kernel, rfl⟩
set_option maxRecDepth 20000 in
theorem dX1_cheapest_56 : decode cX1_cheapest 56 = .ok (.iload_n 1, 1) ∧ 56 + 1 = 57 := ⟨by decide +kernel, rfl⟩
set_option maxRecDepth 20000 in
theorem dX1_cheapest_57 : decode cX1_cheapest 57 = .ok (.ifCond .ne 8, 3) ∧ 57 + 3 = 60 ∧ ((57 : Nat) : Int) + (8) = ((65 : Nat) : Int) := ⟨by decide +kernel, rfl, by decide⟩
set_option maxRecDepth 20000 in
theorem dX1_cheapest_60 : decode cX1_cheapest 60 = .ok (.lload 5, 2) ∧ 60 + 2 = 62 := ⟨by decide +kernel, rfl⟩
set_option maxRecDepth 20000 in
theorem dX1_cheapest_62 : decode cX1_cheapest 62 = .ok (.goto 13, 3) ∧ ((62 : Nat) : Int) + (13) = ((75 : Nat) : Int) := ⟨by decide +kernel, by decide⟩
set_option maxRecDepth 20000 in
theorem dX1_cheapest_65 : decode cX1_cheapest 65 = .ok (.aload_n 0, 1) ∧ 65 + 1 = 66 := ⟨by decide +kernel, rfl⟩
set_option maxRecDepth 20000 in
theorem dX1_cheapest_66 : decode cX1_cheapest 66 = .ok (.getfield 69, 3) ∧ 66 + 3 = 69 := ⟨by decide +kernel, rfl⟩
set_option maxRecDepth 20000 in
theorem dX1_cheapest_69 : decode cX1_cheapest 69 = .ok (.invokestatic 143, 3) ∧ 69 + 3 = 72 := ⟨by decide +kernel, rfl⟩
set_option maxRecDepth 20000 in
theorem dX1_cheapest_72 : decode cX1_cheapest 72 = .ok (.lload 5, 2) ∧ 72 + 2 = 74 := ⟨by decide +kernel, rfl⟩
set_option maxRecDepth 20000 in
theorem dX1_cheapest_74 : decode cX1_cheapest 74 = .ok (.lsub, 1) ∧ 74 + 1 = 75 := ⟨by decide +kernel, rfl⟩
set_option maxRecDepth 20000 in
theorem dX1_cheapest_75 : decode cX1_cheapest 75 = .ok (.iload_n 2, 1) ∧ 75 + 1 = 76 := ⟨by decide +kernel, rfl⟩
set_option maxRecDepth 20000 in
theorem dX1_cheapest_76 : decode cX1_cheapest 76 = .ok (.invokevirtual 146, 3) ∧ 76 + 3 = 79 := ⟨by decide +kernel, rfl⟩
set_option maxRecDepth 20000 in
theorem dX1_cheapest_79 : decode cX1_cheapest 79 = .ok (.ifCond .eq 6, 3) ∧ 79 + 3 = 82 ∧ ((79 : Nat) : Int) + (6) = ((85 : Nat) : Int) := ⟨by decide +kernel, rfl, by decide⟩
set_option maxRecDepth 20000 in
theorem dX1_cheapest_82 : decode cX1_cheapest 82 = .ok (.iload 4, 2) ∧ 82 + 2 = 84 := ⟨by decide +kernel, rfl⟩
set_option maxRecDepth 20000 in
theorem dX1_cheapest_84 : decode cX1_cheapest 84 = .ok (.istore_n 3, 1) ∧ 84 + 1 = 85 := ⟨by decide +kernel, rfl⟩
set_option maxRecDepth 20000 in
theorem dX1_cheapest_85 : decode cX1_cheapest 85 = .ok (.iinc 4 1, 3) ∧ 85 + 3 = 88 := ⟨by decide +kernel, rfl⟩
set_option maxRecDepth 20000 in
theorem dX1_cheapest_88 : decode cX1_cheapest 88 = .ok (.goto (-83), 3) ∧ ((88 : Nat) : Int) + (-83) = ((5 : Nat) : Int) := ⟨by decide +kernel, by decide⟩
set_option maxRecDepth 20000 in
theorem dX1_cheapest_91 : decode cX1_cheapest 91 = .ok (.iload_n 3, 1) ∧ 91 + 1 = 92 := ⟨by decide +kernel, rfl⟩
set_option maxRecDepth 20000 in
theorem dX1_cheapest_92 : decode cX1_cheapest 92 = .ok (.ireturn, 1) := by decide +kernel
set_option maxRecDepth 20000 in
theorem dX1_reaches_0 : decode cX1_reaches 0 = .ok (.aload_n 0, 1) ∧ 0 + 1 = 1 := ⟨by decide +kernel, rfl⟩
set_option maxRecDepth 20000 in
theorem dX1_reaches_1 : decode cX1_reaches 1 = .ok (.getfield 69, 3) ∧ 1 + 3 = 4 := ⟨by decide +kernel, rfl⟩
set_option maxRecDepth 20000 in
theorem dX1_reaches_4 : decode cX1_reaches 4 = .ok (.iconst 3, 1) ∧ 4 + 1 = 5 := ⟨by decide +kernel, rfl⟩
set_option maxRecDepth 20000 in
theorem dX1_reaches_5 : decode cX1_reaches 5 = .ok (.if_icmp .ge 28, 3) ∧ 5 + 3 = 8 ∧ ((5 : Nat) : Int) + (28) = ((33 : Nat) : Int) := ⟨by decide +kernel, rfl, by decide⟩
set_option maxRecDepth 20000 in
theorem dX1_reaches_8 : decode cX1_reaches 8 = .ok (.lload_n 1, 1) ∧ 8 + 1 = 9 := ⟨by decide +kernel, rfl⟩
set_option maxRecDepth 20000 in
theorem dX1_reaches_9 : decode cX1_reaches 9 = .ok (.iconst 3, 1) ∧ 9 + 1 = 10 := ⟨by decide +kernel, rfl⟩
set_option maxRecDepth 20000 in
theorem dX1_reaches_10 : decode cX1_reaches 10 = .ok (.aload_n 0, 1) ∧ 10 + 1 = 11 := ⟨by decide +kernel, rfl⟩
set_option maxRecDepth 20000 in
theorem dX1_reaches_11 : decode cX1_reaches 11 = .ok (.getfield 69, 3) ∧ 11 + 3 = 14 := ⟨by decide +kernel, rfl⟩
set_option maxRecDepth 20000 in
theorem dX1_reaches_14 : decode cX1_reaches 14 = .ok (.isub, 1) ∧ 14 + 1 = 15 := ⟨by decide +kernel, rfl⟩
set_option maxRecDepth 20000 in
theorem dX1_reaches_15 : decode cX1_reaches 15 = .ok (.invokestatic 143, 3) ∧ 15 + 3 = 18 := ⟨by decide +kernel, rfl⟩
set_option maxRecDepth 20000 in
theorem dX1_reaches_18 : decode cX1_reaches 18 = .ok (.lmul, 1) ∧ 18 + 1 = 19 := ⟨by decide +kernel, rfl⟩
set_option maxRecDepth 20000 in
theorem dX1_reaches_19 : decode cX1_reaches 19 = .ok (.iload_n 3, 1) ∧ 19 + 1 = 20 := ⟨by decide +kernel, rfl⟩
set_option maxRecDepth 20000 in
theorem dX1_reaches_20 : decode cX1_reaches 20 = .ok (.i2l, 1) ∧ 20 + 1 = 21 := ⟨by decide +kernel, rfl⟩
set_option maxRecDepth 20000 in
theorem dX1_reaches_21 : decode cX1_reaches 21 = .ok (.lcmp, 1) ∧ 21 + 1 = 22 := ⟨by decide +kernel, rfl⟩
set_option maxRecDepth 20000 in
theorem dX1_reaches_22 : decode cX1_reaches 22 = .ok (.ifCond .lt 7, 3) ∧ 22 + 3 = 25 ∧ ((22 : Nat) : Int) + (7) = ((29 : Nat) : Int) := ⟨by decide +kernel, rfl, by decide⟩
set_option maxRecDepth 20000 in
theorem dX1_reaches_25 : decode cX1_reaches 25 = .ok (.iconst 1, 1) ∧ 25 + 1 = 26 := ⟨by decide +kernel, rfl⟩
set_option maxRecDepth 20000 in
theorem dX1_reaches_26 : decode cX1_reaches 26 = .ok (.goto 29, 3) ∧ ((26 : Nat) : Int) + (29) = ((55 : Nat) : Int) := ⟨by decide +kernel, by decide⟩
set_option maxRecDepth 20000 in
theorem dX1_reaches_29 : decode cX1_reaches 29 = .ok (.iconst 0, 1) ∧ 29 + 1 = 30 := ⟨by decide +kernel, rfl⟩
set_option maxRecDepth 20000 in
theorem dX1_reaches_30 : decode cX1_reaches 30 = .ok (.goto 25, 3) ∧ ((30 : Nat) : Int) + (25) = ((55 : Nat) : Int) := ⟨by decide +kernel, by decide⟩
set_option maxRecDepth 20000 in
theorem dX1_reaches_33 : decode cX1_reaches 33 = .ok (.lload_n 1, 1) ∧ 33 + 1 = 34 := ⟨by decide +kernel, rfl⟩
set_option maxRecDepth 20000 in
theorem dX1_reaches_34 : decode cX1_reaches 34 = .ok (.iload_n 3, 1) ∧ 34 + 1 = 35 := ⟨by decide +kernel, rfl⟩
set_option maxRecDepth 20000 in
theorem dX1_reaches_35 : decode cX1_reaches 35 = .ok (.i2l, 1) ∧ 35 + 1 = 36 := ⟨by decide +kernel, rfl⟩
set_option maxRecDepth 20000 in
theorem dX1_reaches_36 : decode cX1_reaches 36 = .ok (.aload_n 0, 1) ∧ 36 + 1 = 37 := ⟨by decide +kernel, rfl⟩
set_option maxRecDepth 20000 in
theorem dX1_reaches_37 : decode cX1_reaches 37 = .ok (.getfield 69, 3) ∧ 37 + 3 = 40 := ⟨by decide +kernel, rfl⟩
set_option maxRecDepth 20000 in
theorem dX1_reaches_40 : decode cX1_reaches 40 = .ok (.iconst 3, 1) ∧ 40 + 1 = 41 := ⟨by decide +kernel, rfl⟩
set_option maxRecDepth 20000 in
theorem dX1_reaches_41 : decode cX1_reaches 41 = .ok (.isub, 1) ∧ 41 + 1 = 42 := ⟨by decide +kernel, rfl⟩
set_option maxRecDepth 20000 in
theorem dX1_reaches_42 : decode cX1_reaches 42 = .ok (.invokestatic 143, 3) ∧ 42 + 3 = 45 := ⟨by decide +kernel, rfl⟩
set_option maxRecDepth 20000 in
theorem dX1_reaches_45 : decode cX1_reaches 45 = .ok (.lmul, 1) ∧ 45 + 1 = 46 := ⟨by decide +kernel, rfl⟩
set_option maxRecDepth 20000 in
theorem dX1_reaches_46 : decode cX1_reaches 46 = .ok (.lcmp, 1) ∧ 46 + 1 = 47 := ⟨by decide +kernel, rfl⟩
set_option maxRecDepth 20000 in
theorem dX1_reaches_47 : decode cX1_reaches 47 = .ok (.ifCond .lt 7, 3) ∧ 47 + 3 = 50 ∧ ((47 : Nat) : Int) + (7) = ((54 : Nat) : Int) := ⟨by decide +kernel, rfl, by decide⟩
set_option maxRecDepth 20000 in
theorem dX1_reaches_50 : decode cX1_reaches 50 = .ok (.iconst 1, 1) ∧ 50 + 1 = 51 := ⟨by decide +kernel, rfl⟩
set_option maxRecDepth 20000 in
theorem dX1_reaches_51 : decode cX1_reaches 51 = .ok (.goto 4, 3) ∧ ((51 : Nat) : Int) + (4) = ((55 : Nat) : Int) := ⟨by decide +kernel, by decide⟩
set_option maxRecDepth 20000 in
theorem dX1_reaches_54 : decode cX1_reaches 54 = .ok (.iconst 0, 1) ∧ 54 + 1 = 55 := ⟨by decide +kernel, rfl⟩
set_option maxRecDepth 20000 in
theorem dX1_reaches_55 : decode cX1_reaches 55 = .ok (.ireturn, 1) := by decide +kernel
set_option maxRecDepth 20000 in
theorem dX1_left_0 : decode cX1_left 0 = .ok (.aload_n 0, 1) ∧ 0 + 1 = 1 := ⟨by decide +kernel, rfl⟩
set_option maxRecDepth 20000 in
theorem dX1_left_1 : decode cX1_left 1 = .ok (.invokevirtual 150, 3) ∧ 1 + 3 = 4 := ⟨by decide +kernel, rfl⟩
set_option maxRecDepth 20000 in
theorem dX1_left_4 : decode cX1_left 4 = .ok (.aload_n 0, 1) ∧ 4 + 1 = 5 := ⟨by decide +kernel, rfl⟩
set_option maxRecDepth 20000 in
theorem dX1_left_5 : decode cX1_left 5 = .ok (.getfield 27, 3) ∧ 5 + 3 = 8 := ⟨by decide +kernel, rfl⟩
set_option maxRecDepth 20000 in
theorem dX1_left_8 : decode cX1_left 8 = .ok (.iload_n 1, 1) ∧ 8 + 1 = 9 := ⟨by decide +kernel, rfl⟩
set_option maxRecDepth 20000 in
theorem dX1_left_9 : decode cX1_left 9 = .ok (.sipush 256, 3) ∧ 9 + 3 = 12 := ⟨by decide +kernel, rfl⟩
set_option maxRecDepth 20000 in
theorem dX1_left_12 : decode cX1_left 12 = .ok (.imul, 1) ∧ 12 + 1 = 13 := ⟨by decide +kernel, rfl⟩
set_option maxRecDepth 20000 in
theorem dX1_left_13 : decode cX1_left 13 = .ok (.iload_n 2, 1) ∧ 13 + 1 = 14 := ⟨by decide +kernel, rfl⟩
set_option maxRecDepth 20000 in
theorem dX1_left_14 : decode cX1_left 14 = .ok (.iadd, 1) ∧ 14 + 1 = 15 := ⟨by decide +kernel, rfl⟩
set_option maxRecDepth 20000 in
theorem dX1_left_15 : decode cX1_left 15 = .ok (.laload, 1) ∧ 15 + 1 = 16 := ⟨by decide +kernel, rfl⟩
set_option maxRecDepth 20000 in
theorem dX1_left_16 : decode cX1_left 16 = .ok (.lreturn, 1) := by decide +kernel
set_option maxRecDepth 20000 in
theorem dX1_safest_0 : decode cX1_safest 0 = .ok (.iconst 0, 1) ∧ 0 + 1 = 1 := ⟨by decide +kernel, rfl⟩
set_option maxRecDepth 20000 in
theorem dX1_safest_1 : decode cX1_safest 1 = .ok (.istore_n 2, 1) ∧ 1 + 1 = 2 := ⟨by decide +kernel, rfl⟩
set_option maxRecDepth 20000 in
theorem dX1_safest_2 : decode cX1_safest 2 = .ok (.iconst 1, 1) ∧ 2 + 1 = 3 := ⟨by decide +kernel, rfl⟩
set_option maxRecDepth 20000 in
theorem dX1_safest_3 : decode cX1_safest 3 = .ok (.istore_n 3, 1) ∧ 3 + 1 = 4 := ⟨by decide +kernel, rfl⟩
set_option maxRecDepth 20000 in
theorem dX1_safest_4 : decode cX1_safest 4 = .ok (.iload_n 3, 1) ∧ 4 + 1 = 5 := ⟨by decide +kernel, rfl⟩
set_option maxRecDepth 20000 in
theorem dX1_safest_5 : decode cX1_safest 5 = .ok (.aload_n 0, 1) ∧ 5 + 1 = 6 := ⟨by decide +kernel, rfl⟩
set_option maxRecDepth 20000 in
theorem dX1_safest_6 : decode cX1_safest 6 = .ok (.getfield 62, 3) ∧ 6 + 3 = 9 := ⟨by decide +kernel, rfl⟩
set_option maxRecDepth 20000 in
theorem dX1_safest_9 : decode cX1_safest 9 = .ok (.if_icmp .gt 72, 3) ∧ 9 + 3 = 12 ∧ ((9 : Nat) : Int) + (72) = ((81 : Nat) : Int) := ⟨by decide +kernel, rfl, by decide⟩
set_option maxRecDepth 20000 in
theorem dX1_safest_12 : decode cX1_safest 12 = .ok (.aload_n 0, 1) ∧ 12 + 1 = 13 := ⟨by decide +kernel, rfl⟩
set_option maxRecDepth 20000 in
theorem dX1_safest_13 : decode cX1_safest 13 = .ok (.iload_n 1, 1) ∧ 13 + 1 = 14 := ⟨by decide +kernel, rfl⟩
set_option maxRecDepth 20000 in
theorem dX1_safest_14 : decode cX1_safest 14 = .ok (.iload_n 3, 1) ∧ 14 + 1 = 15 := ⟨by decide +kernel, rfl⟩
set_option maxRecDepth 20000 in
theorem dX1_safest_15 : decode cX1_safest 15 = .ok (.invokevirtual 132, 3) ∧ 15 + 3 = 18 := ⟨by decide +kernel, rfl⟩
set_option maxRecDepth 20000 in
theorem dX1_safest_18 : decode cX1_safest 18 = .ok (.ifCond .eq 57, 3) ∧ 18 + 3 = 21 ∧ ((18 : Nat) : Int) + (57) = ((75 : Nat) : Int) := ⟨by decide +kernel, rfl, by decide⟩
set_option maxRecDepth 20000 in
theorem dX1_safest_21 : decode cX1_safest 21 = .ok (.iload_n 1, 1) ∧ 21 + 1 = 22 := ⟨by decide +kernel, rfl⟩
set_option maxRecDepth 20000 in
theorem dX1_safest_22 : decode cX1_safest 22 = .ok (.aload_n 0, 1) ∧ 22 + 1 = 23 := ⟨by decide +kernel, rfl⟩
set_option maxRecDepth 20000 in
theorem dX1_safest_23 : decode cX1_safest 23 = .ok (.iload_n 1, 1) ∧ 23 + 1 = 24 := ⟨by decide +kernel, rfl⟩
set_option maxRecDepth 20000 in
theorem dX1_safest_24 : decode cX1_safest 24 = .ok (.iload_n 3, 1) ∧ 24 + 1 = 25 := ⟨by decide +kernel, rfl⟩
set_option maxRecDepth 20000 in
theorem dX1_safest_25 : decode cX1_safest 25 = .ok (.invokevirtual 153, 3) ∧ 25 + 3 = 28 := ⟨by decide +kernel, rfl⟩
set_option maxRecDepth 20000 in
theorem dX1_safest_28 : decode cX1_safest 28 = .ok (.invokestatic 139, 3) ∧ 28 + 3 = 31 := ⟨by decide +kernel, rfl⟩
set_option maxRecDepth 20000 in
theorem dX1_safest_31 : decode cX1_safest 31 = .ok (.iload_n 1, 1) ∧ 31 + 1 = 32 := ⟨by decide +kernel, rfl⟩
set_option maxRecDepth 20000 in
theorem dX1_safest_32 : decode cX1_safest 32 = .ok (.aload_n 0, 1) ∧ 32 + 1 = 33 := ⟨by decide +kernel, rfl⟩
set_option maxRecDepth 20000 in
theorem dX1_safest_33 : decode cX1_safest 33 = .ok (.iload_n 1, 1) ∧ 33 + 1 = 34 := ⟨by decide +kernel, rfl⟩
set_option maxRecDepth 20000 in
theorem dX1_safest_34 : decode cX1_safest 34 = .ok (.iload_n 2, 1) ∧ 34 + 1 = 35 := ⟨by decide +kernel, rfl⟩
set_option maxRecDepth 20000 in
theorem dX1_safest_35 : decode cX1_safest 35 = .ok (.invokevirtual 153, 3) ∧ 35 + 3 = 38 := ⟨by decide +kernel, rfl⟩
set_option maxRecDepth 20000 in
theorem dX1_safest_38 : decode cX1_safest 38 = .ok (.invokestatic 139, 3) ∧ 38 + 3 = 41 := ⟨by decide +kernel, rfl⟩
set_option maxRecDepth 20000 in
theorem dX1_safest_41 : decode cX1_safest 41 = .ok (.lsub, 1) ∧ 41 + 1 = 42 := ⟨by decide +kernel, rfl⟩
set_option maxRecDepth 20000 in
theorem dX1_safest_42 : decode cX1_safest 42 = .ok (.lstore 4, 2) ∧ 42 + 2 = 44 := ⟨by decide +kernel, rfl⟩
set_option maxRecDepth 20000 in
theorem dX1_safest_44 : decode cX1_safest 44 = .ok (.lload 4, 2) ∧ 44 + 2 = 46 := ⟨by decide +kernel, rfl⟩
set_option maxRecDepth 20000 in
theorem dX1_safest_46 : decode cX1_safest 46 = .ok (.lconst 0, 1) ∧ 46 + 1 = 47 := ⟨by decide +kernel, rfl⟩
set_option maxRecDepth 20000 in
theorem dX1_safest_47 : decode cX1_safest 47 = .ok (.lcmp, 1) ∧ 47 + 1 = 48 := ⟨by decide +kernel, rfl⟩
set_option maxRecDepth 20000 in
theorem dX1_safest_48 : decode cX1_safest 48 = .ok (.ifCond .gt 25, 3) ∧ 48 + 3 = 51 ∧ ((48 : Nat) : Int) + (25) = ((73 : Nat) : Int) := ⟨by decide +kernel, rfl, by decide⟩
set_option maxRecDepth 20000 in
theorem dX1_safest_51 : decode cX1_safest 51 = .ok (.lload 4, 2) ∧ 51 + 2 = 53 := ⟨by decide +kernel, rfl⟩
set_option maxRecDepth 20000 in
theorem dX1_safest_53 : decode cX1_safest 53 = .ok (.lconst 0, 1) ∧ 53 + 1 = 54 := ⟨by decide +kernel, rfl⟩
set_option maxRecDepth 20000 in
theorem dX1_safest_54 : decode cX1_safest 54 = .ok (.lcmp, 1) ∧ 54 + 1 = 55 := ⟨by decide +kernel, rfl⟩
set_option maxRecDepth 20000 in
theorem dX1_safest_55 : decode cX1_safest 55 = .ok (.ifCond .ne 20, 3) ∧ 55 + 3 = 58 ∧ ((55 : Nat) : Int) + (20) = ((75 : Nat) : Int) := ⟨by decide +kernel, rfl, by decide⟩
set_option maxRecDepth 20000 in
theorem dX1_safest_58 : decode cX1_safest 58 = .ok (.aload_n 0, 1) ∧ 58 + 1 = 59 := ⟨by decide +kernel, rfl⟩
set_option maxRecDepth 20000 in
theorem dX1_safest_59 : decode cX1_safest 59 = .ok (.iload_n 1, 1) ∧ 59 + 1 = 60 := ⟨by decide +kernel, rfl⟩
set_option maxRecDepth 20000 in
theorem dX1_safest_60 : decode cX1_safest 60 = .ok (.iload_n 3, 1) ∧ 60 + 1 = 61 := ⟨by decide +kernel, rfl⟩
set_option maxRecDepth 20000 in
theorem dX1_safest_61 : decode cX1_safest 61 = .ok (.invokevirtual 100, 3) ∧ 61 + 3 = 64 := ⟨by decide +kernel, rfl⟩
set_option maxRecDepth 20000 in
theorem dX1_safest_64 : decode cX1_safest 64 = .ok (.aload_n 0, 1) ∧ 64 + 1 = 65 := ⟨by decide +kernel, rfl⟩
set_option maxRecDepth 20000 in
theorem dX1_safest_65 : decode cX1_safest 65 = .ok (.iload_n 1, 1) ∧ 65 + 1 = 66 := ⟨by decide +kernel, rfl⟩
set_option maxRecDepth 20000 in
theorem dX1_safest_66 : decode cX1_safest 66 = .ok (.iload_n 2, 1) ∧ 66 + 1 = 67 := ⟨by decide +kernel, rfl⟩
set_option maxRecDepth 20000 in
theorem dX1_safest_67 : decode cX1_safest 67 = .ok (.invokevirtual 100, 3) ∧ 67 + 3 = 70 := ⟨by decide +kernel, rfl⟩
set_option maxRecDepth 20000 in
theorem dX1_safest_70 : decode cX1_safest 70 = .ok (.if_icmp .ge 5, 3) ∧ 70 + 3 = 73 ∧ ((70 : Nat) : Int) + (5) = ((75 : Nat) : Int) := ⟨by decide +kernel, rfl, by decide⟩
set_option maxRecDepth 20000 in
theorem dX1_safest_73 : decode cX1_safest 73 = .ok (.iload_n 3, 1) ∧ 73 + 1 = 74 := ⟨by decide +kernel, rfl⟩
set_option maxRecDepth 20000 in
theorem dX1_safest_74 : decode cX1_safest 74 = .ok (.istore_n 2, 1) ∧ 74 + 1 = 75 := ⟨by decide +kernel, rfl⟩
set_option maxRecDepth 20000 in
theorem dX1_safest_75 : decode cX1_safest 75 = .ok (.iinc 3 1, 3) ∧ 75 + 3 = 78 := ⟨by decide +kernel, rfl⟩
set_option maxRecDepth 20000 in
theorem dX1_safest_78 : decode cX1_safest 78 = .ok (.goto (-74), 3) ∧ ((78 : Nat) : Int) + (-74) = ((4 : Nat) : Int) := ⟨by decide +kernel, by decide⟩
set_option maxRecDepth 20000 in
theorem dX1_safest_81 : decode cX1_safest 81 = .ok (.iload_n 2, 1) ∧ 81 + 1 = 82 := ⟨by decide +kernel, rfl⟩
set_option maxRecDepth 20000 in
theorem dX1_safest_82 : decode cX1_safest 82 = .ok (.ireturn, 1) := by decide +kernel
set_option maxRecDepth 20000 in
theorem dX1_leaving_0 : decode cX1_leaving 0 = .ok (.iconst 0, 1) ∧ 0 + 1 = 1 := ⟨by decide +kernel, rfl⟩
set_option maxRecDepth 20000 in
theorem dX1_leaving_1 : decode cX1_leaving 1 = .ok (.istore 4, 2) ∧ 1 + 2 = 3 := ⟨by decide +kernel, rfl⟩
set_option maxRecDepth 20000 in
theorem dX1_leaving_3 : decode cX1_leaving 3 = .ok (.iconst 0, 1) ∧ 3 + 1 = 4 := ⟨by decide +kernel, rfl⟩
set_option maxRecDepth 20000 in
theorem dX1_leaving_4 : decode cX1_leaving 4 = .ok (.istore 5, 2) ∧ 4 + 2 = 6 := ⟨by decide +kernel, rfl⟩
set_option maxRecDepth 20000 in
theorem dX1_leaving_6 : decode cX1_leaving 6 = .ok (.iload 5, 2) ∧ 6 + 2 = 8 := ⟨by decide +kernel, rfl⟩
set_option maxRecDepth 20000 in
theorem dX1_leaving_8 : decode cX1_leaving 8 = .ok (.aload_n 0, 1) ∧ 8 + 1 = 9 := ⟨by decide +kernel, rfl⟩
set_option maxRecDepth 20000 in
theorem dX1_leaving_9 : decode cX1_leaving 9 = .ok (.getfield 62, 3) ∧ 9 + 3 = 12 := ⟨by decide +kernel, rfl⟩
set_option maxRecDepth 20000 in
theorem dX1_leaving_12 : decode cX1_leaving 12 = .ok (.if_icmp .gt 34, 3) ∧ 12 + 3 = 15 ∧ ((12 : Nat) : Int) + (34) = ((46 : Nat) : Int) := ⟨by decide +kernel, rfl, by decide⟩
set_option maxRecDepth 20000 in
theorem dX1_leaving_15 : decode cX1_leaving 15 = .ok (.aload_n 0, 1) ∧ 15 + 1 = 16 := ⟨by decide +kernel, rfl⟩
set_option maxRecDepth 20000 in
theorem dX1_leaving_16 : decode cX1_leaving 16 = .ok (.iload_n 1, 1) ∧ 16 + 1 = 17 := ⟨by decide +kernel, rfl⟩
set_option maxRecDepth 20000 in
theorem dX1_leaving_17 : decode cX1_leaving 17 = .ok (.iload 5, 2) ∧ 17 + 2 = 19 := ⟨by decide +kernel, rfl⟩
set_option maxRecDepth 20000 in
theorem dX1_leaving_19 : decode cX1_leaving 19 = .ok (.invokevirtual 132, 3) ∧ 19 + 3 = 22 := ⟨by decide +kernel, rfl⟩
set_option maxRecDepth 20000 in
theorem dX1_leaving_22 : decode cX1_leaving 22 = .ok (.ifCond .eq 18, 3) ∧ 22 + 3 = 25 ∧ ((22 : Nat) : Int) + (18) = ((40 : Nat) : Int) := ⟨by decide +kernel, rfl, by decide⟩
set_option maxRecDepth 20000 in
theorem dX1_leaving_25 : decode cX1_leaving 25 = .ok (.aload_n 0, 1) ∧ 25 + 1 = 26 := ⟨by decide +kernel, rfl⟩
set_option maxRecDepth 20000 in
theorem dX1_leaving_26 : decode cX1_leaving 26 = .ok (.iload_n 1, 1) ∧ 26 + 1 = 27 := ⟨by decide +kernel, rfl⟩
set_option maxRecDepth 20000 in
theorem dX1_leaving_27 : decode cX1_leaving 27 = .ok (.iload 5, 2) ∧ 27 + 2 = 29 := ⟨by decide +kernel, rfl⟩
set_option maxRecDepth 20000 in
theorem dX1_leaving_29 : decode cX1_leaving 29 = .ok (.invokevirtual 153, 3) ∧ 29 + 3 = 32 := ⟨by decide +kernel, rfl⟩
set_option maxRecDepth 20000 in
theorem dX1_leaving_32 : decode cX1_leaving 32 = .ok (.lload_n 2, 1) ∧ 32 + 1 = 33 := ⟨by decide +kernel, rfl⟩
set_option maxRecDepth 20000 in
theorem dX1_leaving_33 : decode cX1_leaving 33 = .ok (.lcmp, 1) ∧ 33 + 1 = 34 := ⟨by decide +kernel, rfl⟩
set_option maxRecDepth 20000 in
theorem dX1_leaving_34 : decode cX1_leaving 34 = .ok (.ifCond .ne 6, 3) ∧ 34 + 3 = 37 ∧ ((34 : Nat) : Int) + (6) = ((40 : Nat) : Int) := ⟨by decide +kernel, rfl, by decide⟩
set_option maxRecDepth 20000 in
theorem dX1_leaving_37 : decode cX1_leaving 37 = .ok (.iinc 4 1, 3) ∧ 37 + 3 = 40 := ⟨by decide +kernel, rfl⟩
set_option maxRecDepth 20000 in
theorem dX1_leaving_40 : decode cX1_leaving 40 = .ok (.iinc 5 1, 3) ∧ 40 + 3 = 43 := ⟨by decide +kernel, rfl⟩
set_option maxRecDepth 20000 in
theorem dX1_leaving_43 : decode cX1_leaving 43 = .ok (.goto (-37), 3) ∧ ((43 : Nat) : Int) + (-37) = ((6 : Nat) : Int) := ⟨by decide +kernel, by decide⟩
set_option maxRecDepth 20000 in
theorem dX1_leaving_46 : decode cX1_leaving 46 = .ok (.iload 4, 2) ∧ 46 + 2 = 48 := ⟨by decide +kernel, rfl⟩
set_option maxRecDepth 20000 in
theorem dX1_leaving_48 : decode cX1_leaving 48 = .ok (.ireturn, 1) := by decide +kernel
set_option maxRecDepth 20000 in
theorem dX1_firstLeaving_0 : decode cX1_firstLeaving 0 = .ok (.iconst 0, 1) ∧ 0 + 1 = 1 := ⟨by decide +kernel, rfl⟩
set_option maxRecDepth 20000 in
theorem dX1_firstLeaving_1 : decode cX1_firstLeaving 1 = .ok (.istore 4, 2) ∧ 1 + 2 = 3 := ⟨by decide +kernel, rfl⟩
set_option maxRecDepth 20000 in
theorem dX1_firstLeaving_3 : decode cX1_firstLeaving 3 = .ok (.iload 4, 2) ∧ 3 + 2 = 5 := ⟨by decide +kernel, rfl⟩
set_option maxRecDepth 20000 in
theorem dX1_firstLeaving_5 : decode cX1_firstLeaving 5 = .ok (.aload_n 0, 1) ∧ 5 + 1 = 6 := ⟨by decide +kernel, rfl⟩
set_option maxRecDepth 20000 in
theorem dX1_firstLeaving_6 : decode cX1_firstLeaving 6 = .ok (.getfield 62, 3) ∧ 6 + 3 = 9 := ⟨by decide +kernel, rfl⟩
set_option maxRecDepth 20000 in
theorem dX1_firstLeaving_9 : decode cX1_firstLeaving 9 = .ok (.if_icmp .gt 34, 3) ∧ 9 + 3 = 12 ∧ ((9 : Nat) : Int) + (34) = ((43 : Nat) : Int) := ⟨by decide +kernel, rfl, by decide⟩
set_option maxRecDepth 20000 in
theorem dX1_firstLeaving_12 : decode cX1_firstLeaving 12 = .ok (.aload_n 0, 1) ∧ 12 + 1 = 13 := ⟨by decide +kernel, rfl⟩
set_option maxRecDepth 20000 in
theorem dX1_firstLeaving_13 : decode cX1_firstLeaving 13 = .ok (.iload_n 1, 1) ∧ 13 + 1 = 14 := ⟨by decide +kernel, rfl⟩
set_option maxRecDepth 20000 in
theorem dX1_firstLeaving_14 : decode cX1_firstLeaving 14 = .ok (.iload 4, 2) ∧ 14 + 2 = 16 := ⟨by decide +kernel, rfl⟩
set_option maxRecDepth 20000 in
theorem dX1_firstLeaving_16 : decode cX1_firstLeaving 16 = .ok (.invokevirtual 132, 3) ∧ 16 + 3 = 19 := ⟨by decide +kernel, rfl⟩
set_option maxRecDepth 20000 in
theorem dX1_firstLeaving_19 : decode cX1_firstLeaving 19 = .ok (.ifCond .eq 18, 3) ∧ 19 + 3 = 22 ∧ ((19 : Nat) : Int) + (18) = ((37 : Nat) : Int) := ⟨by decide +kernel, rfl, by decide⟩
set_option maxRecDepth 20000 in
theorem dX1_firstLeaving_22 : decode cX1_firstLeaving 22 = .ok (.aload_n 0, 1) ∧ 22 + 1 = 23 := ⟨by decide +kernel, rfl⟩
set_option maxRecDepth 20000 in
theorem dX1_firstLeaving_23 : decode cX1_firstLeaving 23 = .ok (.iload_n 1, 1) ∧ 23 + 1 = 24 := ⟨by decide +kernel, rfl⟩
set_option maxRecDepth 20000 in
theorem dX1_firstLeaving_24 : decode cX1_firstLeaving 24 = .ok (.iload 4, 2) ∧ 24 + 2 = 26 := ⟨by decide +kernel, rfl⟩
set_option maxRecDepth 20000 in
theorem dX1_firstLeaving_26 : decode cX1_firstLeaving 26 = .ok (.invokevirtual 153, 3) ∧ 26 + 3 = 29 := ⟨by decide +kernel, rfl⟩
set_option maxRecDepth 20000 in
theorem dX1_firstLeaving_29 : decode cX1_firstLeaving 29 = .ok (.lload_n 2, 1) ∧ 29 + 1 = 30 := ⟨by decide +kernel, rfl⟩
set_option maxRecDepth 20000 in
theorem dX1_firstLeaving_30 : decode cX1_firstLeaving 30 = .ok (.lcmp, 1) ∧ 30 + 1 = 31 := ⟨by decide +kernel, rfl⟩
set_option maxRecDepth 20000 in
theorem dX1_firstLeaving_31 : decode cX1_firstLeaving 31 = .ok (.ifCond .ne 6, 3) ∧ 31 + 3 = 34 ∧ ((31 : Nat) : Int) + (6) = ((37 : Nat) : Int) := ⟨by decide +kernel, rfl, by decide⟩
set_option maxRecDepth 20000 in
theorem dX1_firstLeaving_34 : decode cX1_firstLeaving 34 = .ok (.iload 4, 2) ∧ 34 + 2 = 36 := ⟨by decide +kernel, rfl⟩
set_option maxRecDepth 20000 in
theorem dX1_firstLeaving_36 : decode cX1_firstLeaving 36 = .ok (.ireturn, 1) := by decide +kernel
set_option maxRecDepth 20000 in
theorem dX1_firstLeaving_37 : decode cX1_firstLeaving 37 = .ok (.iinc 4 1, 3) ∧ 37 + 3 = 40 := ⟨by decide +kernel, rfl⟩
set_option maxRecDepth 20000 in
theorem dX1_firstLeaving_40 : decode cX1_firstLeaving 40 = .ok (.goto (-37), 3) ∧ ((40 : Nat) : Int) + (-37) = ((3 : Nat) : Int) := ⟨by decide +kernel, by decide⟩
set_option maxRecDepth 20000 in
theorem dX1_firstLeaving_43 : decode cX1_firstLeaving 43 = .ok (.iconst (-1), 1) ∧ 43 + 1 = 44 := ⟨by decide +kernel, rfl⟩
set_option maxRecDepth 20000 in
theorem dX1_firstLeaving_44 : decode cX1_firstLeaving 44 = .ok (.ireturn, 1) := by decide +kernel
set_option maxRecDepth 20000 in
theorem dX1_survey_0 : decode cX1_survey 0 = .ok (.aload_n 0, 1) ∧ 0 + 1 = 1 := ⟨by decide +kernel, rfl⟩
set_option maxRecDepth 20000 in
theorem dX1_survey_1 : decode cX1_survey 1 = .ok (.getfield 49, 3) ∧ 1 + 3 = 4 := ⟨by decide +kernel, rfl⟩
set_option maxRecDepth 20000 in
theorem dX1_survey_4 : decode cX1_survey 4 = .ok (.ifCond .eq 4, 3) ∧ 4 + 3 = 7 ∧ ((4 : Nat) : Int) + (4) = ((8 : Nat) : Int) := ⟨by decide +kernel, rfl, by decide⟩
set_option maxRecDepth 20000 in
theorem dX1_survey_7 : decode cX1_survey 7 = .ok (.return_, 1) := by decide +kernel
set_option maxRecDepth 20000 in
theorem dX1_survey_8 : decode cX1_survey 8 = .ok (.aload_n 0, 1) ∧ 8 + 1 = 9 := ⟨by decide +kernel, rfl⟩
set_option maxRecDepth 20000 in
theorem dX1_survey_9 : decode cX1_survey 9 = .ok (.iconst 1, 1) ∧ 9 + 1 = 10 := ⟨by decide +kernel, rfl⟩
set_option maxRecDepth 20000 in
theorem dX1_survey_10 : decode cX1_survey 10 = .ok (.putfield 49, 3) ∧ 10 + 3 = 13 := ⟨by decide +kernel, rfl⟩
set_option maxRecDepth 20000 in
theorem dX1_survey_13 : decode cX1_survey 13 = .ok (.aload_n 0, 1) ∧ 13 + 1 = 14 := ⟨by decide +kernel, rfl⟩
set_option maxRecDepth 20000 in
theorem dX1_survey_14 : decode cX1_survey 14 = .ok (.getfield 27, 3) ∧ 14 + 3 = 17 := ⟨by decide +kernel, rfl⟩
set_option maxRecDepth 20000 in
theorem dX1_survey_17 : decode cX1_survey 17 = .ok (.iconst 0, 1) ∧ 17 + 1 = 18 := ⟨by decide +kernel, rfl⟩
set_option maxRecDepth 20000 in
theorem dX1_survey_18 : decode cX1_survey 18 = .ok (.sipush 256, 3) ∧ 18 + 3 = 21 := ⟨by decide +kernel, rfl⟩
set_option maxRecDepth 20000 in
theorem dX1_survey_21 : decode cX1_survey 21 = .ok (.ldc2_w 156, 3) ∧ 21 + 3 = 24 := ⟨by decide +kernel, rfl⟩
set_option maxRecDepth 20000 in
theorem dX1_survey_24 : decode cX1_survey 24 = .ok (.invokestatic 158, 3) ∧ 24 + 3 = 27 := ⟨by decide +kernel, rfl⟩
set_option maxRecDepth 20000 in
theorem dX1_survey_27 : decode cX1_survey 27 = .ok (.aload_n 0, 1) ∧ 27 + 1 = 28 := ⟨by decide +kernel, rfl⟩
set_option maxRecDepth 20000 in
theorem dX1_survey_28 : decode cX1_survey 28 = .ok (.getfield 27, 3) ∧ 28 + 3 = 31 := ⟨by decide +kernel, rfl⟩
set_option maxRecDepth 20000 in
theorem dX1_survey_31 : decode cX1_survey 31 = .ok (.sipush 256, 3) ∧ 31 + 3 = 34 := ⟨by decide +kernel, rfl⟩
set_option maxRecDepth 20000 in
theorem dX1_survey_34 : decode cX1_survey 34 = .ok (.sipush 512, 3) ∧ 34 + 3 = 37 := ⟨by decide +kernel, rfl⟩
set_option maxRecDepth 20000 in
theorem dX1_survey_37 : decode cX1_survey 37 = .ok (.lconst 0, 1) ∧ 37 + 1 = 38 := ⟨by decide +kernel, rfl⟩
set_option maxRecDepth 20000 in
theorem dX1_survey_38 : decode cX1_survey 38 = .ok (.invokestatic 158, 3) ∧ 38 + 3 = 41 := ⟨by decide +kernel, rfl⟩
set_option maxRecDepth 20000 in
theorem dX1_survey_41 : decode cX1_survey 41 = .ok (.aload_n 0, 1) ∧ 41 + 1 = 42 := ⟨by decide +kernel, rfl⟩
set_option maxRecDepth 20000 in
theorem dX1_survey_42 : decode cX1_survey 42 = .ok (.getfield 69, 3) ∧ 42 + 3 = 45 := ⟨by decide +kernel, rfl⟩
set_option maxRecDepth 20000 in
theorem dX1_survey_45 : decode cX1_survey 45 = .ok (.ifCond .ne 13, 3) ∧ 45 + 3 = 48 ∧ ((45 : Nat) : Int) + (13) = ((58 : Nat) : Int) := ⟨by decide +kernel, rfl, by decide⟩
set_option maxRecDepth 20000 in
theorem dX1_survey_48 : decode cX1_survey 48 = .ok (.aload_n 0, 1) ∧ 48 + 1 = 49 := ⟨by decide +kernel, rfl⟩
set_option maxRecDepth 20000 in
theorem dX1_survey_49 : decode cX1_survey 49 = .ok (.iconst 0, 1) ∧ 49 + 1 = 50 := ⟨by decide +kernel, rfl⟩
set_option maxRecDepth 20000 in
theorem dX1_survey_50 : decode cX1_survey 50 = .ok (.iconst 0, 1) ∧ 50 + 1 = 51 := ⟨by decide +kernel, rfl⟩
set_option maxRecDepth 20000 in
theorem dX1_survey_51 : decode cX1_survey 51 = .ok (.lconst 0, 1) ∧ 51 + 1 = 52 := ⟨by decide +kernel, rfl⟩
set_option maxRecDepth 20000 in
theorem dX1_survey_52 : decode cX1_survey 52 = .ok (.invokevirtual 164, 3) ∧ 52 + 3 = 55 := ⟨by decide +kernel, rfl⟩
set_option maxRecDepth 20000 in
theorem dX1_survey_55 : decode cX1_survey 55 = .ok (.goto 19, 3) ∧ ((55 : Nat) : Int) + (19) = ((74 : Nat) : Int) := ⟨by decide +kernel, by decide⟩
set_option maxRecDepth 20000 in
theorem dX1_survey_58 : decode cX1_survey 58 = .ok (.aload_n 0, 1) ∧ 58 + 1 = 59 := ⟨by decide +kernel, rfl⟩
set_option maxRecDepth 20000 in
theorem dX1_survey_59 : decode cX1_survey 59 = .ok (.getfield 36, 3) ∧ 59 + 3 = 62 := ⟨by decide +kernel, rfl⟩
set_option maxRecDepth 20000 in
theorem dX1_survey_62 : decode cX1_survey 62 = .ok (.iconst 0, 1) ∧ 62 + 1 = 63 := ⟨by decide +kernel, rfl⟩
set_option maxRecDepth 20000 in
theorem dX1_survey_63 : decode cX1_survey 63 = .ok (.aaload, 1) ∧ 63 + 1 = 64 := ⟨by decide +kernel, rfl⟩
set_option maxRecDepth 20000 in
theorem dX1_survey_64 : decode cX1_survey 64 = .ok (.invokevirtual 111, 3) ∧ 64 + 3 = 67 := ⟨by decide +kernel, rfl⟩
set_option maxRecDepth 20000 in
theorem dX1_survey_67 : decode cX1_survey 67 = .ok (.aload_n 0, 1) ∧ 67 + 1 = 68 := ⟨by decide +kernel, rfl⟩
set_option maxRecDepth 20000 in
theorem dX1_survey_68 : decode cX1_survey 68 = .ok (.iconst 0, 1) ∧ 68 + 1 = 69 := ⟨by decide +kernel, rfl⟩
set_option maxRecDepth 20000 in
theorem dX1_survey_69 : decode cX1_survey 69 = .ok (.iconst 0, 1) ∧ 69 + 1 = 70 := ⟨by decide +kernel, rfl⟩
set_option maxRecDepth 20000 in
theorem dX1_survey_70 : decode cX1_survey 70 = .ok (.iconst 0, 1) ∧ 70 + 1 = 71 := ⟨by decide +kernel, rfl⟩
set_option maxRecDepth 20000 in
theorem dX1_survey_71 : decode cX1_survey 71 = .ok (.invokevirtual 168, 3) ∧ 71 + 3 = 74 := ⟨by decide +kernel, rfl⟩
set_option maxRecDepth 20000 in
theorem dX1_survey_74 : decode cX1_survey 74 = .ok (.return_, 1) := by decide +kernel
set_option maxRecDepth 20000 in
theorem dX1_pairFrom_0 : decode cX1_pairFrom 0 = .ok (.iload_n 1, 1) ∧ 0 + 1 = 1 := ⟨by decide +kernel, rfl⟩
set_option maxRecDepth 20000 in
theorem dX1_pairFrom_1 : decode cX1_pairFrom 1 = .ok (.aload_n 0, 1) ∧ 1 + 1 = 2 := ⟨by decide +kernel, rfl⟩
set_option maxRecDepth 20000 in
theorem dX1_pairFrom_2 : decode cX1_pairFrom 2 = .ok (.getfield 69, 3) ∧ 2 + 3 = 5 := ⟨by decide +kernel, rfl⟩
set_option maxRecDepth 20000 in
theorem dX1_pairFrom_5 : decode cX1_pairFrom 5 = .ok (.if_icmp .lt 4, 3) ∧ 5 + 3 = 8 ∧ ((5 : Nat) : Int) + (4) = ((9 : Nat) : Int) := ⟨by decide +kernel, rfl, by decide⟩
set_option maxRecDepth 20000 in
theorem dX1_pairFrom_8 : decode cX1_pairFrom 8 = .ok (.return_, 1) := by decide +kernel
set_option maxRecDepth 20000 in
theorem dX1_pairFrom_9 : decode cX1_pairFrom 9 = .ok (.aload_n 0, 1) ∧ 9 + 1 = 10 := ⟨by decide +kernel, rfl⟩
set_option maxRecDepth 20000 in
theorem dX1_pairFrom_10 : decode cX1_pairFrom 10 = .ok (.getfield 31, 3) ∧ 10 + 3 = 13 := ⟨by decide +kernel, rfl⟩
set_option maxRecDepth 20000 in
theorem dX1_pairFrom_13 : decode cX1_pairFrom 13 = .ok (.iload_n 1, 1) ∧ 13 + 1 = 14 := ⟨by decide +kernel, rfl⟩
set_option maxRecDepth 20000 in
theorem dX1_pairFrom_14 : decode cX1_pairFrom 14 = .ok (.iaload, 1) ∧ 14 + 1 = 15 := ⟨by decide +kernel, rfl⟩
set_option maxRecDepth 20000 in
theorem dX1_pairFrom_15 : decode cX1_pairFrom 15 = .ok (.istore 4, 2) ∧ 15 + 2 = 17 := ⟨by decide +kernel, rfl⟩
set_option maxRecDepth 20000 in
theorem dX1_pairFrom_17 : decode cX1_pairFrom 17 = .ok (.iload_n 1, 1) ∧ 17 + 1 = 18 := ⟨by decide +kernel, rfl⟩
set_option maxRecDepth 20000 in
theorem dX1_pairFrom_18 : decode cX1_pairFrom 18 = .ok (.iconst 1, 1) ∧ 18 + 1 = 19 := ⟨by decide +kernel, rfl⟩
set_option maxRecDepth 20000 in
theorem dX1_pairFrom_19 : decode cX1_pairFrom 19 = .ok (.iadd, 1) ∧ 19 + 1 = 20 := ⟨by decide +kernel, rfl⟩
set_option maxRecDepth 20000 in
theorem dX1_pairFrom_20 : decode cX1_pairFrom 20 = .ok (.aload_n 0, 1) ∧ 20 + 1 = 21 := ⟨by decide +kernel, rfl⟩
set_option maxRecDepth 20000 in
theorem dX1_pairFrom_21 : decode cX1_pairFrom 21 = .ok (.getfield 69, 3) ∧ 21 + 3 = 24 := ⟨by decide +kernel, rfl⟩
set_option maxRecDepth 20000 in
theorem dX1_pairFrom_24 : decode cX1_pairFrom 24 = .ok (.if_icmp .lt 7, 3) ∧ 24 + 3 = 27 ∧ ((24 : Nat) : Int) + (7) = ((31 : Nat) : Int) := ⟨by decide +kernel, rfl, by decide⟩
set_option maxRecDepth 20000 in
theorem dX1_pairFrom_27 : decode cX1_pairFrom 27 = .ok (.iconst 1, 1) ∧ 27 + 1 = 28 := ⟨by decide +kernel, rfl⟩
set_option maxRecDepth 20000 in
theorem dX1_pairFrom_28 : decode cX1_pairFrom 28 = .ok (.goto 4, 3) ∧ ((28 : Nat) : Int) + (4) = ((32 : Nat) : Int) := ⟨by decide +kernel, by decide⟩
set_option maxRecDepth 20000 in
theorem dX1_pairFrom_31 : decode cX1_pairFrom 31 = .ok (.iconst 0, 1) ∧ 31 + 1 = 32 := ⟨by decide +kernel, rfl⟩
set_option maxRecDepth 20000 in
theorem dX1_pairFrom_32 : decode cX1_pairFrom 32 = .ok (.istore 5, 2) ∧ 32 + 2 = 34 := ⟨by decide +kernel, rfl⟩
set_option maxRecDepth 20000 in
theorem dX1_pairFrom_34 : decode cX1_pairFrom 34 = .ok (.iload 5, 2) ∧ 34 + 2 = 36 := ⟨by decide +kernel, rfl⟩
set_option maxRecDepth 20000 in
theorem dX1_pairFrom_36 : decode cX1_pairFrom 36 = .ok (.ifCond .eq 23, 3) ∧ 36 + 3 = 39 ∧ ((36 : Nat) : Int) + (23) = ((59 : Nat) : Int) := ⟨by decide +kernel, rfl, by decide⟩
set_option maxRecDepth 20000 in
theorem dX1_pairFrom_39 : decode cX1_pairFrom 39 = .ok (.aload_n 0, 1) ∧ 39 + 1 = 40 := ⟨by decide +kernel, rfl⟩
set_option maxRecDepth 20000 in
theorem dX1_pairFrom_40 : decode cX1_pairFrom 40 = .ok (.getfield 36, 3) ∧ 40 + 3 = 43 := ⟨by decide +kernel, rfl⟩
set_option maxRecDepth 20000 in
theorem dX1_pairFrom_43 : decode cX1_pairFrom 43 = .ok (.iload_n 1, 1) ∧ 43 + 1 = 44 := ⟨by decide +kernel, rfl⟩
set_option maxRecDepth 20000 in
theorem dX1_pairFrom_44 : decode cX1_pairFrom 44 = .ok (.aaload, 1) ∧ 44 + 1 = 45 := ⟨by decide +kernel, rfl⟩
set_option maxRecDepth 20000 in
theorem dX1_pairFrom_45 : decode cX1_pairFrom 45 = .ok (.aload_n 0, 1) ∧ 45 + 1 = 46 := ⟨by decide +kernel, rfl⟩
set_option maxRecDepth 20000 in
theorem dX1_pairFrom_46 : decode cX1_pairFrom 46 = .ok (.getfield 66, 3) ∧ 46 + 3 = 49 := ⟨by decide +kernel, rfl⟩
set_option maxRecDepth 20000 in
theorem dX1_pairFrom_49 : decode cX1_pairFrom 49 = .ok (.invokevirtual 120, 3) ∧ 49 + 3 = 52 := ⟨by decide +kernel, rfl⟩
set_option maxRecDepth 20000 in
theorem dX1_pairFrom_52 : decode cX1_pairFrom 52 = .ok (.ldc2_w 172, 3) ∧ 52 + 3 = 55 := ⟨by decide +kernel, rfl⟩
set_option maxRecDepth 20000 in
theorem dX1_pairFrom_55 : decode cX1_pairFrom 55 = .ok (.lmul, 1) ∧ 55 + 1 = 56 := ⟨by decide +kernel, rfl⟩
set_option maxRecDepth 20000 in
theorem dX1_pairFrom_56 : decode cX1_pairFrom 56 = .ok (.goto 4, 3) ∧ ((56 : Nat) : Int) + (4) = ((60 : Nat) : Int) := ⟨by decide +kernel, by decide⟩
set_option maxRecDepth 20000 in
theorem dX1_pairFrom_59 : decode cX1_pairFrom 59 = .ok (.lconst 0, 1) ∧ 59 + 1 = 60 := ⟨by decide +kernel, rfl⟩
set_option maxRecDepth 20000 in
theorem dX1_pairFrom_60 : decode cX1_pairFrom 60 = .ok (.lstore 6, 2) ∧ 60 + 2 = 62 := ⟨by decide +kernel, rfl⟩
set_option maxRecDepth 20000 in
theorem dX1_pairFrom_62 : decode cX1_pairFrom 62 = .ok (.iload 5, 2) ∧ 62 + 2 = 64 := ⟨by decide +kernel, rfl⟩
set_option maxRecDepth 20000 in
theorem dX1_pairFrom_64 : decode cX1_pairFrom 64 = .ok (.ifCond .eq 21, 3) ∧ 64 + 3 = 67 ∧ ((64 : Nat) : Int) + (21) = ((85 : Nat) : Int) := ⟨by decide +kernel, rfl, by decide⟩
set_option maxRecDepth 20000 in
theorem dX1_pairFrom_67 : decode cX1_pairFrom 67 = .ok (.aload_n 0, 1) ∧ 67 + 1 = 68 := ⟨by decide +kernel, rfl⟩
set_option maxRecDepth 20000 in
theorem dX1_pairFrom_68 : decode cX1_pairFrom 68 = .ok (.getfield 36, 3) ∧ 68 + 3 = 71 := ⟨by decide +kernel, rfl⟩
set_option maxRecDepth 20000 in
theorem dX1_pairFrom_71 : decode cX1_pairFrom 71 = .ok (.iload_n 1, 1) ∧ 71 + 1 = 72 := ⟨by decide +kernel, rfl⟩
set_option maxRecDepth 20000 in
theorem dX1_pairFrom_72 : decode cX1_pairFrom 72 = .ok (.aaload, 1) ∧ 72 + 1 = 73 := ⟨by decide +kernel, rfl⟩
set_option maxRecDepth 20000 in
theorem dX1_pairFrom_73 : decode cX1_pairFrom 73 = .ok (.aload_n 0, 1) ∧ 73 + 1 = 74 := ⟨by decide +kernel, rfl⟩
set_option maxRecDepth 20000 in
theorem dX1_pairFrom_74 : decode cX1_pairFrom 74 = .ok (.getfield 66, 3) ∧ 74 + 3 = 77 := ⟨by decide +kernel, rfl⟩
set_option maxRecDepth 20000 in
theorem dX1_pairFrom_77 : decode cX1_pairFrom 77 = .ok (.iconst 1, 1) ∧ 77 + 1 = 78 := ⟨by decide +kernel, rfl⟩
set_option maxRecDepth 20000 in
theorem dX1_pairFrom_78 : decode cX1_pairFrom 78 = .ok (.isub, 1) ∧ 78 + 1 = 79 := ⟨by decide +kernel, rfl⟩
set_option maxRecDepth 20000 in
theorem dX1_pairFrom_79 : decode cX1_pairFrom 79 = .ok (.invokevirtual 174, 3) ∧ 79 + 3 = 82 := ⟨by decide +kernel, rfl⟩
set_option maxRecDepth 20000 in
theorem dX1_pairFrom_82 : decode cX1_pairFrom 82 = .ok (.goto 4, 3) ∧ ((82 : Nat) : Int) + (4) = ((86 : Nat) : Int) := ⟨by decide +kernel, by decide⟩
set_option maxRecDepth 20000 in
theorem dX1_pairFrom_85 : decode cX1_pairFrom 85 = .ok (.lconst 0, 1) ∧ 85 + 1 = 86 := ⟨by decide +kernel, rfl⟩
set_option maxRecDepth 20000 in
theorem dX1_pairFrom_86 : decode cX1_pairFrom 86 = .ok (.lstore 8, 2) ∧ 86 + 2 = 88 := ⟨by decide +kernel, rfl⟩
set_option maxRecDepth 20000 in
theorem dX1_pairFrom_88 : decode cX1_pairFrom 88 = .ok (.iconst 0, 1) ∧ 88 + 1 = 89 := ⟨by decide +kernel, rfl⟩
set_option maxRecDepth 20000 in
theorem dX1_pairFrom_89 : decode cX1_pairFrom 89 = .ok (.istore 10, 2) ∧ 89 + 2 = 91 := ⟨by decide +kernel, rfl⟩
set_option maxRecDepth 20000 in
theorem dX1_pairFrom_91 : decode cX1_pairFrom 91 = .ok (.iload 10, 2) ∧ 91 + 2 = 93 := ⟨by decide +kernel, rfl⟩
set_option maxRecDepth 20000 in
theorem dX1_pairFrom_93 : decode cX1_pairFrom 93 = .ok (.iconst 3, 1) ∧ 93 + 1 = 94 := ⟨by decide +kernel, rfl⟩
set_option maxRecDepth 20000 in
theorem dX1_pairFrom_94 : decode cX1_pairFrom 94 = .ok (.if_icmp .gt 116, 3) ∧ 94 + 3 = 97 ∧ ((94 : Nat) : Int) + (116) = ((210 : Nat) : Int) := ⟨by decide +kernel, rfl, by decide⟩
set_option maxRecDepth 20000 in
theorem dX1_pairFrom_97 : decode cX1_pairFrom 97 = .ok (.iload_n 2, 1) ∧ 97 + 1 = 98 := ⟨by decide +kernel, rfl⟩
set_option maxRecDepth 20000 in
theorem dX1_pairFrom_98 : decode cX1_pairFrom 98 = .ok (.iload 10, 2) ∧ 98 + 2 = 100 := ⟨by decide +kernel, rfl⟩
set_option maxRecDepth 20000 in
theorem dX1_pairFrom_100 : decode cX1_pairFrom 100 = .ok (.iconst 1, 1) ∧ 100 + 1 = 101 := ⟨by decide +kernel, rfl⟩
set_option maxRecDepth 20000 in
theorem dX1_pairFrom_101 : decode cX1_pairFrom 101 = .ok (.iand, 1) ∧ 101 + 1 = 102 := ⟨by decide +kernel, rfl⟩
set_option maxRecDepth 20000 in
theorem dX1_pairFrom_102 : decode cX1_pairFrom 102 = .ok (.iload 4, 2) ∧ 102 + 2 = 104 := ⟨by decide +kernel, rfl⟩
set_option maxRecDepth 20000 in
theorem dX1_pairFrom_104 : decode cX1_pairFrom 104 = .ok (.ishl, 1) ∧ 104 + 1 = 105 := ⟨by decide +kernel, rfl⟩
set_option maxRecDepth 20000 in
theorem dX1_pairFrom_105 : decode cX1_pairFrom 105 = .ok (.ior, 1) ∧ 105 + 1 = 106 := ⟨by decide +kernel, rfl⟩
set_option maxRecDepth 20000 in
theorem dX1_pairFrom_106 : decode cX1_pairFrom 106 = .ok (.istore 11, 2) ∧ 106 + 2 = 108 := ⟨by decide +kernel, rfl⟩
set_option maxRecDepth 20000 in
theorem dX1_pairFrom_108 : decode cX1_pairFrom 108 = .ok (.iload_n 3, 1) ∧ 108 + 1 = 109 := ⟨by decide +kernel, rfl⟩
set_option maxRecDepth 20000 in
theorem dX1_pairFrom_109 : decode cX1_pairFrom 109 = .ok (.iload 10, 2) ∧ 109 + 2 = 111 := ⟨by decide +kernel, rfl⟩
set_option maxRecDepth 20000 in
theorem dX1_pairFrom_111 : decode cX1_pairFrom 111 = .ok (.iconst 1, 1) ∧ 111 + 1 = 112 := ⟨by decide +kernel, rfl⟩
set_option maxRecDepth 20000 in
theorem dX1_pairFrom_112 : decode cX1_pairFrom 112 = .ok (.ishr, 1) ∧ 112 + 1 = 113 := ⟨by decide +kernel, rfl⟩
set_option maxRecDepth 20000 in
theorem dX1_pairFrom_113 : decode cX1_pairFrom 113 = .ok (.iload 4, 2) ∧ 113 + 2 = 115 := ⟨by decide +kernel, rfl⟩
set_option maxRecDepth 20000 in
theorem dX1_pairFrom_115 : decode cX1_pairFrom 115 = .ok (.ishl, 1) ∧ 115 + 1 = 116 := ⟨by decide +kernel, rfl⟩
set_option maxRecDepth 20000 in
theorem dX1_pairFrom_116 : decode cX1_pairFrom 116 = .ok (.ior, 1) ∧ 116 + 1 = 117 := ⟨by decide +kernel, rfl⟩
set_option maxRecDepth 20000 in
theorem dX1_pairFrom_117 : decode cX1_pairFrom 117 = .ok (.istore 12, 2) ∧ 117 + 2 = 119 := ⟨by decide +kernel, rfl⟩
set_option maxRecDepth 20000 in
theorem dX1_pairFrom_119 : decode cX1_pairFrom 119 = .ok (.aload_n 0, 1) ∧ 119 + 1 = 120 := ⟨by decide +kernel, rfl⟩
set_option maxRecDepth 20000 in
theorem dX1_pairFrom_120 : decode cX1_pairFrom 120 = .ok (.iconst 0, 1) ∧ 120 + 1 = 121 := ⟨by decide +kernel, rfl⟩
set_option maxRecDepth 20000 in
theorem dX1_pairFrom_121 : decode cX1_pairFrom 121 = .ok (.iload 11, 2) ∧ 121 + 2 = 123 := ⟨by decide +kernel, rfl⟩
set_option maxRecDepth 20000 in
theorem dX1_pairFrom_123 : decode cX1_pairFrom 123 = .ok (.invokevirtual 103, 3) ∧ 123 + 3 = 126 := ⟨by decide +kernel, rfl⟩
set_option maxRecDepth 20000 in
theorem dX1_pairFrom_126 : decode cX1_pairFrom 126 = .ok (.ifCond .eq 78, 3) ∧ 126 + 3 = 129 ∧ ((126 : Nat) : Int) + (78) = ((204 : Nat) : Int) := ⟨by decide +kernel, rfl, by decide⟩
set_option maxRecDepth 20000 in
theorem dX1_pairFrom_129 : decode cX1_pairFrom 129 = .ok (.aload_n 0, 1) ∧ 129 + 1 = 130 := ⟨by decide +kernel, rfl⟩
set_option maxRecDepth 20000 in
theorem dX1_pairFrom_130 : decode cX1_pairFrom 130 = .ok (.iconst 1, 1) ∧ 130 + 1 = 131 := ⟨by decide +kernel, rfl⟩
set_option maxRecDepth 20000 in
theorem dX1_pairFrom_131 : decode cX1_pairFrom 131 = .ok (.iload 12, 2) ∧ 131 + 2 = 133 := ⟨by decide +kernel, rfl⟩
set_option maxRecDepth 20000 in
theorem dX1_pairFrom_133 : decode cX1_pairFrom 133 = .ok (.invokevirtual 103, 3) ∧ 133 + 3 = 136 := ⟨by decide +kernel, rfl⟩
set_option maxRecDepth 20000 in
theorem dX1_pairFrom_136 : decode cX1_pairFrom 136 = .ok (.ifCond .eq 68, 3) ∧ 136 + 3 = 139 ∧ ((136 : Nat) : Int) + (68) = ((204 : Nat) : Int) := ⟨by decide +kernel, rfl, by decide⟩
set_option maxRecDepth 20000 in
theorem dX1_pairFrom_139 : decode cX1_pairFrom 139 = .ok (.aload_n 0, 1) ∧ 139 + 1 = 140 := ⟨by decide +kernel, rfl⟩
set_option maxRecDepth 20000 in
theorem dX1_pairFrom_140 : decode cX1_pairFrom 140 = .ok (.iload 4, 2) ∧ 140 + 2 = 142 := ⟨by decide +kernel, rfl⟩
set_option maxRecDepth 20000 in
theorem dX1_pairFrom_142 : decode cX1_pairFrom 142 = .ok (.iload 10, 2) ∧ 142 + 2 = 144 := ⟨by decide +kernel, rfl⟩
set_option maxRecDepth 20000 in
theorem dX1_pairFrom_144 : decode cX1_pairFrom 144 = .ok (.invokevirtual 114, 3) ∧ 144 + 3 = 147 := ⟨by decide +kernel, rfl⟩
set_option maxRecDepth 20000 in
theorem dX1_pairFrom_147 : decode cX1_pairFrom 147 = .ok (.istore 13, 2) ∧ 147 + 2 = 149 := ⟨by decide +kernel, rfl⟩
set_option maxRecDepth 20000 in
theorem dX1_pairFrom_149 : decode cX1_pairFrom 149 = .ok (.iload 5, 2) ∧ 149 + 2 = 151 := ⟨by decide +kernel, rfl⟩
set_option maxRecDepth 20000 in
theorem dX1_pairFrom_151 : decode cX1_pairFrom 151 = .ok (.ifCond .eq 23, 3) ∧ 151 + 3 = 154 ∧ ((151 : Nat) : Int) + (23) = ((174 : Nat) : Int) := ⟨by decide +kernel, rfl, by decide⟩
set_option maxRecDepth 20000 in
theorem dX1_pairFrom_154 : decode cX1_pairFrom 154 = .ok (.aload_n 0, 1) ∧ 154 + 1 = 155 := ⟨by decide +kernel, rfl⟩
set_option maxRecDepth 20000 in
theorem dX1_pairFrom_155 : decode cX1_pairFrom 155 = .ok (.iload 11, 2) ∧ 155 + 2 = 157 := ⟨by decide +kernel, rfl⟩
set_option maxRecDepth 20000 in
theorem dX1_pairFrom_157 : decode cX1_pairFrom 157 = .ok (.iload 12, 2) ∧ 157 + 2 = 159 := ⟨by decide +kernel, rfl⟩
set_option maxRecDepth 20000 in
theorem dX1_pairFrom_159 : decode cX1_pairFrom 159 = .ok (.lload 6, 2) ∧ 159 + 2 = 161 := ⟨by decide +kernel, rfl⟩
set_option maxRecDepth 20000 in
theorem dX1_pairFrom_161 : decode cX1_pairFrom 161 = .ok (.lload 8, 2) ∧ 161 + 2 = 163 := ⟨by decide +kernel, rfl⟩
set_option maxRecDepth 20000 in
theorem dX1_pairFrom_163 : decode cX1_pairFrom 163 = .ok (.iload 13, 2) ∧ 163 + 2 = 165 := ⟨by decide +kernel, rfl⟩
set_option maxRecDepth 20000 in
theorem dX1_pairFrom_165 : decode cX1_pairFrom 165 = .ok (.i2l, 1) ∧ 165 + 1 = 166 := ⟨by decide +kernel, rfl⟩
set_option maxRecDepth 20000 in
theorem dX1_pairFrom_166 : decode cX1_pairFrom 166 = .ok (.lmul, 1) ∧ 166 + 1 = 167 := ⟨by decide +kernel, rfl⟩
set_option maxRecDepth 20000 in
theorem dX1_pairFrom_167 : decode cX1_pairFrom 167 = .ok (.ladd, 1) ∧ 167 + 1 = 168 := ⟨by decide +kernel, rfl⟩
set_option maxRecDepth 20000 in
theorem dX1_pairFrom_168 : decode cX1_pairFrom 168 = .ok (.invokevirtual 164, 3) ∧ 168 + 3 = 171 := ⟨by decide +kernel, rfl⟩
set_option maxRecDepth 20000 in
theorem dX1_pairFrom_171 : decode cX1_pairFrom 171 = .ok (.goto 33, 3) ∧ ((171 : Nat) : Int) + (33) = ((204 : Nat) : Int) := ⟨by decide +kernel, by decide⟩
set_option maxRecDepth 20000 in
theorem dX1_pairFrom_174 : decode cX1_pairFrom 174 = .ok (.aload_n 0, 1) ∧ 174 + 1 = 175 := ⟨by decide +kernel, rfl⟩
set_option maxRecDepth 20000 in
theorem dX1_pairFrom_175 : decode cX1_pairFrom 175 = .ok (.getfield 36, 3) ∧ 175 + 3 = 178 := ⟨by decide +kernel, rfl⟩
set_option maxRecDepth 20000 in
theorem dX1_pairFrom_178 : decode cX1_pairFrom 178 = .ok (.iload_n 1, 1) ∧ 178 + 1 = 179 := ⟨by decide +kernel, rfl⟩
set_option maxRecDepth 20000 in
theorem dX1_pairFrom_179 : decode cX1_pairFrom 179 = .ok (.iconst 1, 1) ∧ 179 + 1 = 180 := ⟨by decide +kernel, rfl⟩
set_option maxRecDepth 20000 in
theorem dX1_pairFrom_180 : decode cX1_pairFrom 180 = .ok (.iadd, 1) ∧ 180 + 1 = 181 := ⟨by decide +kernel, rfl⟩
set_option maxRecDepth 20000 in
theorem dX1_pairFrom_181 : decode cX1_pairFrom 181 = .ok (.aaload, 1) ∧ 181 + 1 = 182 := ⟨by decide +kernel, rfl⟩
set_option maxRecDepth 20000 in
theorem dX1_pairFrom_182 : decode cX1_pairFrom 182 = .ok (.aload_n 0, 1) ∧ 182 + 1 = 183 := ⟨by decide +kernel, rfl⟩
set_option maxRecDepth 20000 in
theorem dX1_pairFrom_183 : decode cX1_pairFrom 183 = .ok (.getfield 36, 3) ∧ 183 + 3 = 186 := ⟨by decide +kernel, rfl⟩
set_option maxRecDepth 20000 in
theorem dX1_pairFrom_186 : decode cX1_pairFrom 186 = .ok (.iload_n 1, 1) ∧ 186 + 1 = 187 := ⟨by decide +kernel, rfl⟩
set_option maxRecDepth 20000 in
theorem dX1_pairFrom_187 : decode cX1_pairFrom 187 = .ok (.aaload, 1) ∧ 187 + 1 = 188 := ⟨by decide +kernel, rfl⟩
set_option maxRecDepth 20000 in
theorem dX1_pairFrom_188 : decode cX1_pairFrom 188 = .ok (.iload 13, 2) ∧ 188 + 2 = 190 := ⟨by decide +kernel, rfl⟩
set_option maxRecDepth 20000 in
theorem dX1_pairFrom_190 : decode cX1_pairFrom 190 = .ok (.invokevirtual 177, 3) ∧ 190 + 3 = 193 := ⟨by decide +kernel, rfl⟩
set_option maxRecDepth 20000 in
theorem dX1_pairFrom_193 : decode cX1_pairFrom 193 = .ok (.aload_n 0, 1) ∧ 193 + 1 = 194 := ⟨by decide +kernel, rfl⟩
set_option maxRecDepth 20000 in
theorem dX1_pairFrom_194 : decode cX1_pairFrom 194 = .ok (.iload_n 1, 1) ∧ 194 + 1 = 195 := ⟨by decide +kernel, rfl⟩
set_option maxRecDepth 20000 in
theorem dX1_pairFrom_195 : decode cX1_pairFrom 195 = .ok (.iconst 1, 1) ∧ 195 + 1 = 196 := ⟨by decide +kernel, rfl⟩
set_option maxRecDepth 20000 in
theorem dX1_pairFrom_196 : decode cX1_pairFrom 196 = .ok (.iadd, 1) ∧ 196 + 1 = 197 := ⟨by decide +kernel, rfl⟩
set_option maxRecDepth 20000 in
theorem dX1_pairFrom_197 : decode cX1_pairFrom 197 = .ok (.iload 11, 2) ∧ 197 + 2 = 199 := ⟨by decide +kernel, rfl⟩
set_option maxRecDepth 20000 in
theorem dX1_pairFrom_199 : decode cX1_pairFrom 199 = .ok (.iload 12, 2) ∧ 199 + 2 = 201 := ⟨by decide +kernel, rfl⟩
set_option maxRecDepth 20000 in
theorem dX1_pairFrom_201 : decode cX1_pairFrom 201 = .ok (.invokevirtual 168, 3) ∧ 201 + 3 = 204 := ⟨by decide +kernel, rfl⟩
set_option maxRecDepth 20000 in
theorem dX1_pairFrom_204 : decode cX1_pairFrom 204 = .ok (.iinc 10 1, 3) ∧ 204 + 3 = 207 := ⟨by decide +kernel, rfl⟩
set_option maxRecDepth 20000 in
theorem dX1_pairFrom_207 : decode cX1_pairFrom 207 = .ok (.goto (-116), 3) ∧ ((207 : Nat) : Int) + (-116) = ((91 : Nat) : Int) := ⟨by decide +kernel, by decide⟩
set_option maxRecDepth 20000 in
theorem dX1_pairFrom_210 : decode cX1_pairFrom 210 = .ok (.return_, 1) := by decide +kernel
set_option maxRecDepth 20000 in
theorem dX1_note_0 : decode cX1_note 0 = .ok (.aload_n 0, 1) ∧ 0 + 1 = 1 := ⟨by decide +kernel, rfl⟩
set_option maxRecDepth 20000 in
theorem dX1_note_1 : decode cX1_note 1 = .ok (.getfield 27, 3) ∧ 1 + 3 = 4 := ⟨by decide +kernel, rfl⟩
set_option maxRecDepth 20000 in
theorem dX1_note_4 : decode cX1_note 4 = .ok (.iload_n 1, 1) ∧ 4 + 1 = 5 := ⟨by decide +kernel, rfl⟩
set_option maxRecDepth 20000 in
theorem dX1_note_5 : decode cX1_note 5 = .ok (.aload_n 0, 1) ∧ 5 + 1 = 6 := ⟨by decide +kernel, rfl⟩
set_option maxRecDepth 20000 in
theorem dX1_note_6 : decode cX1_note 6 = .ok (.getfield 27, 3) ∧ 6 + 3 = 9 := ⟨by decide +kernel, rfl⟩
set_option maxRecDepth 20000 in
theorem dX1_note_9 : decode cX1_note 9 = .ok (.iload_n 1, 1) ∧ 9 + 1 = 10 := ⟨by decide +kernel, rfl⟩
set_option maxRecDepth 20000 in
theorem dX1_note_10 : decode cX1_note 10 = .ok (.laload, 1) ∧ 10 + 1 = 11 := ⟨by decide +kernel, rfl⟩
set_option maxRecDepth 20000 in
theorem dX1_note_11 : decode cX1_note 11 = .ok (.lload_n 3, 1) ∧ 11 + 1 = 12 := ⟨by decide +kernel, rfl⟩
set_option maxRecDepth 20000 in
theorem dX1_note_12 : decode cX1_note 12 = .ok (.invokestatic 181, 3) ∧ 12 + 3 = 15 := ⟨by decide +kernel, rfl⟩
set_option maxRecDepth 20000 in
theorem dX1_note_15 : decode cX1_note 15 = .ok (.lastore, 1) ∧ 15 + 1 = 16 := ⟨by decide +kernel, rfl⟩
set_option maxRecDepth 20000 in
theorem dX1_note_16 : decode cX1_note 16 = .ok (.aload_n 0, 1) ∧ 16 + 1 = 17 := ⟨by decide +kernel, rfl⟩
set_option maxRecDepth 20000 in
theorem dX1_note_17 : decode cX1_note 17 = .ok (.getfield 27, 3) ∧ 17 + 3 = 20 := ⟨by decide +kernel, rfl⟩
set_option maxRecDepth 20000 in
theorem dX1_note_20 : decode cX1_note 20 = .ok (.sipush 256, 3) ∧ 20 + 3 = 23 := ⟨by decide +kernel, rfl⟩
set_option maxRecDepth 20000 in
theorem dX1_note_23 : decode cX1_note 23 = .ok (.iload_n 2, 1) ∧ 23 + 1 = 24 := ⟨by decide +kernel, rfl⟩
set_option maxRecDepth 20000 in
theorem dX1_note_24 : decode cX1_note 24 = .ok (.iadd, 1) ∧ 24 + 1 = 25 := ⟨by decide +kernel, rfl⟩
set_option maxRecDepth 20000 in
theorem dX1_note_25 : decode cX1_note 25 = .ok (.aload_n 0, 1) ∧ 25 + 1 = 26 := ⟨by decide +kernel, rfl⟩
set_option maxRecDepth 20000 in
theorem dX1_note_26 : decode cX1_note 26 = .ok (.getfield 27, 3) ∧ 26 + 3 = 29 := ⟨by decide +kernel, rfl⟩
set_option maxRecDepth 20000 in
theorem dX1_note_29 : decode cX1_note 29 = .ok (.sipush 256, 3) ∧ 29 + 3 = 32 := ⟨by decide +kernel, rfl⟩
set_option maxRecDepth 20000 in
theorem dX1_note_32 : decode cX1_note 32 = .ok (.iload_n 2, 1) ∧ 32 + 1 = 33 := ⟨by decide +kernel, rfl⟩
set_option maxRecDepth 20000 in
theorem dX1_note_33 : decode cX1_note 33 = .ok (.iadd, 1) ∧ 33 + 1 = 34 := ⟨by decide +kernel, rfl⟩
set_option maxRecDepth 20000 in
theorem dX1_note_34 : decode cX1_note 34 = .ok (.laload, 1) ∧ 34 + 1 = 35 := ⟨by decide +kernel, rfl⟩
set_option maxRecDepth 20000 in
theorem dX1_note_35 : decode cX1_note 35 = .ok (.lload_n 3, 1) ∧ 35 + 1 = 36 := ⟨by decide +kernel, rfl⟩
set_option maxRecDepth 20000 in
theorem dX1_note_36 : decode cX1_note 36 = .ok (.invokestatic 187, 3) ∧ 36 + 3 = 39 := ⟨by decide +kernel, rfl⟩
set_option maxRecDepth 20000 in
theorem dX1_note_39 : decode cX1_note 39 = .ok (.lastore, 1) ∧ 39 + 1 = 40 := ⟨by decide +kernel, rfl⟩
set_option maxRecDepth 20000 in
theorem dX1_note_40 : decode cX1_note 40 = .ok (.return_, 1) := by decide +kernel
set_option maxRecDepth 20000 in
theorem dX1_steadiest_0 : decode cX1_steadiest 0 = .ok (.aload_n 0, 1) ∧ 0 + 1 = 1 := ⟨by decide +kernel, rfl⟩
set_option maxRecDepth 20000 in
theorem dX1_steadiest_1 : decode cX1_steadiest 1 = .ok (.iconst (-1), 1) ∧ 1 + 1 = 2 := ⟨by decide +kernel, rfl⟩
set_option maxRecDepth 20000 in
theorem dX1_steadiest_2 : decode cX1_steadiest 2 = .ok (.putfield 190, 3) ∧ 2 + 3 = 5 := ⟨by decide +kernel, rfl⟩
set_option maxRecDepth 20000 in
theorem dX1_steadiest_5 : decode cX1_steadiest 5 = .ok (.aload_n 0, 1) ∧ 5 + 1 = 6 := ⟨by decide +kernel, rfl⟩
set_option maxRecDepth 20000 in
theorem dX1_steadiest_6 : decode cX1_steadiest 6 = .ok (.iconst 0, 1) ∧ 6 + 1 = 7 := ⟨by decide +kernel, rfl⟩
set_option maxRecDepth 20000 in
theorem dX1_steadiest_7 : decode cX1_steadiest 7 = .ok (.putfield 193, 3) ∧ 7 + 3 = 10 := ⟨by decide +kernel, rfl⟩
set_option maxRecDepth 20000 in
theorem dX1_steadiest_10 : decode cX1_steadiest 10 = .ok (.aload_n 0, 1) ∧ 10 + 1 = 11 := ⟨by decide +kernel, rfl⟩
set_option maxRecDepth 20000 in
theorem dX1_steadiest_11 : decode cX1_steadiest 11 = .ok (.ldc2_w 156, 3) ∧ 11 + 3 = 14 := ⟨by decide +kernel, rfl⟩
set_option maxRecDepth 20000 in
theorem dX1_steadiest_14 : decode cX1_steadiest 14 = .ok (.putfield 196, 3) ∧ 14 + 3 = 17 := ⟨by decide +kernel, rfl⟩
set_option maxRecDepth 20000 in
theorem dX1_steadiest_17 : decode cX1_steadiest 17 = .ok (.iconst 1, 1) ∧ 17 + 1 = 18 := ⟨by decide +kernel, rfl⟩
set_option maxRecDepth 20000 in
theorem dX1_steadiest_18 : decode cX1_steadiest 18 = .ok (.istore_n 2, 1) ∧ 18 + 1 = 19 := ⟨by decide +kernel, rfl⟩
set_option maxRecDepth 20000 in
theorem dX1_steadiest_19 : decode cX1_steadiest 19 = .ok (.iload_n 2, 1) ∧ 19 + 1 = 20 := ⟨by decide +kernel, rfl⟩
set_option maxRecDepth 20000 in
theorem dX1_steadiest_20 : decode cX1_steadiest 20 = .ok (.iconst 1, 1) ∧ 20 + 1 = 21 := ⟨by decide +kernel, rfl⟩
set_option maxRecDepth 20000 in
theorem dX1_steadiest_21 : decode cX1_steadiest 21 = .ok (.aload_n 0, 1) ∧ 21 + 1 = 22 := ⟨by decide +kernel, rfl⟩
set_option maxRecDepth 20000 in
theorem dX1_steadiest_22 : decode cX1_steadiest 22 = .ok (.getfield 58, 3) ∧ 22 + 3 = 25 := ⟨by decide +kernel, rfl⟩
set_option maxRecDepth 20000 in
theorem dX1_steadiest_25 : decode cX1_steadiest 25 = .ok (.ishl, 1) ∧ 25 + 1 = 26 := ⟨by decide +kernel, rfl⟩
set_option maxRecDepth 20000 in
theorem dX1_steadiest_26 : decode cX1_steadiest 26 = .ok (.if_icmp .ge 84, 3) ∧ 26 + 3 = 29 ∧ ((26 : Nat) : Int) + (84) = ((110 : Nat) : Int) := ⟨by decide +kernel, rfl, by decide⟩
set_option maxRecDepth 20000 in
theorem dX1_steadiest_29 : decode cX1_steadiest 29 = .ok (.iload_n 2, 1) ∧ 29 + 1 = 30 := ⟨by decide +kernel, rfl⟩
set_option maxRecDepth 20000 in
theorem dX1_steadiest_30 : decode cX1_steadiest 30 = .ok (.invokestatic 200, 3) ∧ 30 + 3 = 33 := ⟨by decide +kernel, rfl⟩
set_option maxRecDepth 20000 in
theorem dX1_steadiest_33 : decode cX1_steadiest 33 = .ok (.iload_n 1, 1) ∧ 33 + 1 = 34 := ⟨by decide +kernel, rfl⟩
set_option maxRecDepth 20000 in
theorem dX1_steadiest_34 : decode cX1_steadiest 34 = .ok (.if_icmp .ne 70, 3) ∧ 34 + 3 = 37 ∧ ((34 : Nat) : Int) + (70) = ((104 : Nat) : Int) := ⟨by decide +kernel, rfl, by decide⟩
set_option maxRecDepth 20000 in
theorem dX1_steadiest_37 : decode cX1_steadiest 37 = .ok (.aload_n 0, 1) ∧ 37 + 1 = 38 := ⟨by decide +kernel, rfl⟩
set_option maxRecDepth 20000 in
theorem dX1_steadiest_38 : decode cX1_steadiest 38 = .ok (.iconst 0, 1) ∧ 38 + 1 = 39 := ⟨by decide +kernel, rfl⟩
set_option maxRecDepth 20000 in
theorem dX1_steadiest_39 : decode cX1_steadiest 39 = .ok (.iload_n 2, 1) ∧ 39 + 1 = 40 := ⟨by decide +kernel, rfl⟩
set_option maxRecDepth 20000 in
theorem dX1_steadiest_40 : decode cX1_steadiest 40 = .ok (.iload_n 1, 1) ∧ 40 + 1 = 41 := ⟨by decide +kernel, rfl⟩
set_option maxRecDepth 20000 in
theorem dX1_steadiest_41 : decode cX1_steadiest 41 = .ok (.iconst 2, 1) ∧ 41 + 1 = 42 := ⟨by decide +kernel, rfl⟩
set_option maxRecDepth 20000 in
theorem dX1_steadiest_42 : decode cX1_steadiest 42 = .ok (.idiv, 1) ∧ 42 + 1 = 43 := ⟨by decide +kernel, rfl⟩
set_option maxRecDepth 20000 in
theorem dX1_steadiest_43 : decode cX1_steadiest 43 = .ok (.iconst 1, 1) ∧ 43 + 1 = 44 := ⟨by decide +kernel, rfl⟩
set_option maxRecDepth 20000 in
theorem dX1_steadiest_44 : decode cX1_steadiest 44 = .ok (.iadd, 1) ∧ 44 + 1 = 45 := ⟨by decide +kernel, rfl⟩
set_option maxRecDepth 20000 in
theorem dX1_steadiest_45 : decode cX1_steadiest 45 = .ok (.invokevirtual 203, 3) ∧ 45 + 3 = 48 := ⟨by decide +kernel, rfl⟩
set_option maxRecDepth 20000 in
theorem dX1_steadiest_48 : decode cX1_steadiest 48 = .ok (.aload_n 0, 1) ∧ 48 + 1 = 49 := ⟨by decide +kernel, rfl⟩
set_option maxRecDepth 20000 in
theorem dX1_steadiest_49 : decode cX1_steadiest 49 = .ok (.iconst 1, 1) ∧ 49 + 1 = 50 := ⟨by decide +kernel, rfl⟩
set_option maxRecDepth 20000 in
theorem dX1_steadiest_50 : decode cX1_steadiest 50 = .ok (.iload_n 2, 1) ∧ 50 + 1 = 51 := ⟨by decide +kernel, rfl⟩
set_option maxRecDepth 20000 in
theorem dX1_steadiest_51 : decode cX1_steadiest 51 = .ok (.iload_n 1, 1) ∧ 51 + 1 = 52 := ⟨by decide +kernel, rfl⟩
set_option maxRecDepth 20000 in
theorem dX1_steadiest_52 : decode cX1_steadiest 52 = .ok (.iconst 2, 1) ∧ 52 + 1 = 53 := ⟨by decide +kernel, rfl⟩
set_option maxRecDepth 20000 in
theorem dX1_steadiest_53 : decode cX1_steadiest 53 = .ok (.idiv, 1) ∧ 53 + 1 = 54 := ⟨by decide +kernel, rfl⟩
set_option maxRecDepth 20000 in
theorem dX1_steadiest_54 : decode cX1_steadiest 54 = .ok (.iconst 1, 1) ∧ 54 + 1 = 55 := ⟨by decide +kernel, rfl⟩
set_option maxRecDepth 20000 in
theorem dX1_steadiest_55 : decode cX1_steadiest 55 = .ok (.iadd, 1) ∧ 55 + 1 = 56 := ⟨by decide +kernel, rfl⟩
set_option maxRecDepth 20000 in
theorem dX1_steadiest_56 : decode cX1_steadiest 56 = .ok (.invokevirtual 203, 3) ∧ 56 + 3 = 59 := ⟨by decide +kernel, rfl⟩
set_option maxRecDepth 20000 in
theorem dX1_steadiest_59 : decode cX1_steadiest 59 = .ok (.ladd, 1) ∧ 59 + 1 = 60 := ⟨by decide +kernel, rfl⟩
set_option maxRecDepth 20000 in
theorem dX1_steadiest_60 : decode cX1_steadiest 60 = .ok (.lstore_n 3, 1) ∧ 60 + 1 = 61 := ⟨by decide +kernel, rfl⟩
set_option maxRecDepth 20000 in
theorem dX1_steadiest_61 : decode cX1_steadiest 61 = .ok (.lload_n 3, 1) ∧ 61 + 1 = 62 := ⟨by decide +kernel, rfl⟩
set_option maxRecDepth 20000 in
theorem dX1_steadiest_62 : decode cX1_steadiest 62 = .ok (.aload_n 0, 1) ∧ 62 + 1 = 63 := ⟨by decide +kernel, rfl⟩
set_option maxRecDepth 20000 in
theorem dX1_steadiest_63 : decode cX1_steadiest 63 = .ok (.getfield 196, 3) ∧ 63 + 3 = 66 := ⟨by decide +kernel, rfl⟩
set_option maxRecDepth 20000 in
theorem dX1_steadiest_66 : decode cX1_steadiest 66 = .ok (.lcmp, 1) ∧ 66 + 1 = 67 := ⟨by decide +kernel, rfl⟩
set_option maxRecDepth 20000 in
theorem dX1_steadiest_67 : decode cX1_steadiest 67 = .ok (.ifCond .ge 18, 3) ∧ 67 + 3 = 70 ∧ ((67 : Nat) : Int) + (18) = ((85 : Nat) : Int) := ⟨by decide +kernel, rfl, by decide⟩
set_option maxRecDepth 20000 in
theorem dX1_steadiest_70 : decode cX1_steadiest 70 = .ok (.aload_n 0, 1) ∧ 70 + 1 = 71 := ⟨by decide +kernel, rfl⟩
set_option maxRecDepth 20000 in
theorem dX1_steadiest_71 : decode cX1_steadiest 71 = .ok (.lload_n 3, 1) ∧ 71 + 1 = 72 := ⟨by decide +kernel, rfl⟩
set_option maxRecDepth 20000 in
theorem dX1_steadiest_72 : decode cX1_steadiest 72 = .ok (.putfield 196, 3) ∧ 72 + 3 = 75 := ⟨by decide +kernel, rfl⟩
set_option maxRecDepth 20000 in
theorem dX1_steadiest_75 : decode cX1_steadiest 75 = .ok (.aload_n 0, 1) ∧ 75 + 1 = 76 := ⟨by decide +kernel, rfl⟩
set_option maxRecDepth 20000 in
theorem dX1_steadiest_76 : decode cX1_steadiest 76 = .ok (.iload_n 2, 1) ∧ 76 + 1 = 77 := ⟨by decide +kernel, rfl⟩
set_option maxRecDepth 20000 in
theorem dX1_steadiest_77 : decode cX1_steadiest 77 = .ok (.putfield 190, 3) ∧ 77 + 3 = 80 := ⟨by decide +kernel, rfl⟩
set_option maxRecDepth 20000 in
theorem dX1_steadiest_80 : decode cX1_steadiest 80 = .ok (.aload_n 0, 1) ∧ 80 + 1 = 81 := ⟨by decide +kernel, rfl⟩
set_option maxRecDepth 20000 in
theorem dX1_steadiest_81 : decode cX1_steadiest 81 = .ok (.iconst 0, 1) ∧ 81 + 1 = 82 := ⟨by decide +kernel, rfl⟩
set_option maxRecDepth 20000 in
theorem dX1_steadiest_82 : decode cX1_steadiest 82 = .ok (.putfield 193, 3) ∧ 82 + 3 = 85 := ⟨by decide +kernel, rfl⟩
set_option maxRecDepth 20000 in
theorem dX1_steadiest_85 : decode cX1_steadiest 85 = .ok (.lload_n 3, 1) ∧ 85 + 1 = 86 := ⟨by decide +kernel, rfl⟩
set_option maxRecDepth 20000 in
theorem dX1_steadiest_86 : decode cX1_steadiest 86 = .ok (.aload_n 0, 1) ∧ 86 + 1 = 87 := ⟨by decide +kernel, rfl⟩
set_option maxRecDepth 20000 in
theorem dX1_steadiest_87 : decode cX1_steadiest 87 = .ok (.getfield 196, 3) ∧ 87 + 3 = 90 := ⟨by decide +kernel, rfl⟩
set_option maxRecDepth 20000 in
theorem dX1_steadiest_90 : decode cX1_steadiest 90 = .ok (.lcmp, 1) ∧ 90 + 1 = 91 := ⟨by decide +kernel, rfl⟩
set_option maxRecDepth 20000 in
theorem dX1_steadiest_91 : decode cX1_steadiest 91 = .ok (.ifCond .ne 13, 3) ∧ 91 + 3 = 94 ∧ ((91 : Nat) : Int) + (13) = ((104 : Nat) : Int) := ⟨by decide +kernel, rfl, by decide⟩
set_option maxRecDepth 20000 in
theorem dX1_steadiest_94 : decode cX1_steadiest 94 = .ok (.aload_n 0, 1) ∧ 94 + 1 = 95 := ⟨by decide +kernel, rfl⟩
set_option maxRecDepth 20000 in
theorem dX1_steadiest_95 : decode cX1_steadiest 95 = .ok (.dup, 1) ∧ 95 + 1 = 96 := ⟨by decide +kernel, rfl⟩
set_option maxRecDepth 20000 in
theorem dX1_steadiest_96 : decode cX1_steadiest 96 = .ok (.getfield 193, 3) ∧ 96 + 3 = 99 := ⟨by decide +kernel, rfl⟩
set_option maxRecDepth 20000 in
theorem dX1_steadiest_99 : decode cX1_steadiest 99 = .ok (.iconst 1, 1) ∧ 99 + 1 = 100 := ⟨by decide +kernel, rfl⟩
set_option maxRecDepth 20000 in
theorem dX1_steadiest_100 : decode cX1_steadiest 100 = .ok (.iadd, 1) ∧ 100 + 1 = 101 := ⟨by decide +kernel, rfl⟩
set_option maxRecDepth 20000 in
theorem dX1_steadiest_101 : decode cX1_steadiest 101 = .ok (.putfield 193, 3) ∧ 101 + 3 = 104 := ⟨by decide +kernel, rfl⟩
set_option maxRecDepth 20000 in
theorem dX1_steadiest_104 : decode cX1_steadiest 104 = .ok (.iinc 2 1, 3) ∧ 104 + 3 = 107 := ⟨by decide +kernel, rfl⟩
set_option maxRecDepth 20000 in
theorem dX1_steadiest_107 : decode cX1_steadiest 107 = .ok (.goto (-88), 3) ∧ ((107 : Nat) : Int) + (-88) = ((19 : Nat) : Int) := ⟨by decide +kernel, by decide⟩
set_option maxRecDepth 20000 in
theorem dX1_steadiest_110 : decode cX1_steadiest 110 = .ok (.return_, 1) := by decide +kernel
set_option maxRecDepth 20000 in
theorem dX1_bestAlone_0 : decode cX1_bestAlone 0 = .ok (.ldc2_w 130, 3) ∧ 0 + 3 = 3 := ⟨by decide +kernel, rfl⟩
set_option maxRecDepth 20000 in
theorem dX1_bestAlone_3 : decode cX1_bestAlone 3 = .ok (.lstore 4, 2) ∧ 3 + 2 = 5 := ⟨by decide +kernel, rfl⟩
set_option maxRecDepth 20000 in
theorem dX1_bestAlone_5 : decode cX1_bestAlone 5 = .ok (.iconst 0, 1) ∧ 5 + 1 = 6 := ⟨by decide +kernel, rfl⟩
set_option maxRecDepth 20000 in
theorem dX1_bestAlone_6 : decode cX1_bestAlone 6 = .ok (.istore 6, 2) ∧ 6 + 2 = 8 := ⟨by decide +kernel, rfl⟩
set_option maxRecDepth 20000 in
theorem dX1_bestAlone_8 : decode cX1_bestAlone 8 = .ok (.iload 6, 2) ∧ 8 + 2 = 10 := ⟨by decide +kernel, rfl⟩
set_option maxRecDepth 20000 in
theorem dX1_bestAlone_10 : decode cX1_bestAlone 10 = .ok (.iload_n 2, 1) ∧ 10 + 1 = 11 := ⟨by decide +kernel, rfl⟩
set_option maxRecDepth 20000 in
theorem dX1_bestAlone_11 : decode cX1_bestAlone 11 = .ok (.if_icmp .gt 68, 3) ∧ 11 + 3 = 14 ∧ ((11 : Nat) : Int) + (68) = ((79 : Nat) : Int) := ⟨by decide +kernel, rfl, by decide⟩
set_option maxRecDepth 20000 in
theorem dX1_bestAlone_14 : decode cX1_bestAlone 14 = .ok (.iload 6, 2) ∧ 14 + 2 = 16 := ⟨by decide +kernel, rfl⟩
set_option maxRecDepth 20000 in
theorem dX1_bestAlone_16 : decode cX1_bestAlone 16 = .ok (.iload_n 2, 1) ∧ 16 + 1 = 17 := ⟨by decide +kernel, rfl⟩
set_option maxRecDepth 20000 in
theorem dX1_bestAlone_17 : decode cX1_bestAlone 17 = .ok (.iconst (-1), 1) ∧ 17 + 1 = 18 := ⟨by decide +kernel, rfl⟩
set_option maxRecDepth 20000 in
theorem dX1_bestAlone_18 : decode cX1_bestAlone 18 = .ok (.ixor, 1) ∧ 18 + 1 = 19 := ⟨by decide +kernel, rfl⟩
set_option maxRecDepth 20000 in
theorem dX1_bestAlone_19 : decode cX1_bestAlone 19 = .ok (.iand, 1) ∧ 19 + 1 = 20 := ⟨by decide +kernel, rfl⟩
set_option maxRecDepth 20000 in
theorem dX1_bestAlone_20 : decode cX1_bestAlone 20 = .ok (.ifCond .ne 53, 3) ∧ 20 + 3 = 23 ∧ ((20 : Nat) : Int) + (53) = ((73 : Nat) : Int) := ⟨by decide +kernel, rfl, by decide⟩
set_option maxRecDepth 20000 in
theorem dX1_bestAlone_23 : decode cX1_bestAlone 23 = .ok (.aload_n 0, 1) ∧ 23 + 1 = 24 := ⟨by decide +kernel, rfl⟩
set_option maxRecDepth 20000 in
theorem dX1_bestAlone_24 : decode cX1_bestAlone 24 = .ok (.iload_n 1, 1) ∧ 24 + 1 = 25 := ⟨by decide +kernel, rfl⟩
set_option maxRecDepth 20000 in
theorem dX1_bestAlone_25 : decode cX1_bestAlone 25 = .ok (.iload 6, 2) ∧ 25 + 2 = 27 := ⟨by decide +kernel, rfl⟩
set_option maxRecDepth 20000 in
theorem dX1_bestAlone_27 : decode cX1_bestAlone 27 = .ok (.invokevirtual 103, 3) ∧ 27 + 3 = 30 := ⟨by decide +kernel, rfl⟩
set_option maxRecDepth 20000 in
theorem dX1_bestAlone_30 : decode cX1_bestAlone 30 = .ok (.ifCond .eq 43, 3) ∧ 30 + 3 = 33 ∧ ((30 : Nat) : Int) + (43) = ((73 : Nat) : Int) := ⟨by decide +kernel, rfl, by decide⟩
set_option maxRecDepth 20000 in
theorem dX1_bestAlone_33 : decode cX1_bestAlone 33 = .ok (.iload_n 1, 1) ∧ 33 + 1 = 34 := ⟨by decide +kernel, rfl⟩
set_option maxRecDepth 20000 in
theorem dX1_bestAlone_34 : decode cX1_bestAlone 34 = .ok (.ifCond .ne 15, 3) ∧ 34 + 3 = 37 ∧ ((34 : Nat) : Int) + (15) = ((49 : Nat) : Int) := ⟨by decide +kernel, rfl, by decide⟩
set_option maxRecDepth 20000 in
theorem dX1_bestAlone_37 : decode cX1_bestAlone 37 = .ok (.aload_n 0, 1) ∧ 37 + 1 = 38 := ⟨by decide +kernel, rfl⟩
set_option maxRecDepth 20000 in
theorem dX1_bestAlone_38 : decode cX1_bestAlone 38 = .ok (.iload_n 2, 1) ∧ 38 + 1 = 39 := ⟨by decide +kernel, rfl⟩
set_option maxRecDepth 20000 in
theorem dX1_bestAlone_39 : decode cX1_bestAlone 39 = .ok (.iload_n 3, 1) ∧ 39 + 1 = 40 := ⟨by decide +kernel, rfl⟩
set_option maxRecDepth 20000 in
theorem dX1_bestAlone_40 : decode cX1_bestAlone 40 = .ok (.iload 6, 2) ∧ 40 + 2 = 42 := ⟨by decide +kernel, rfl⟩
set_option maxRecDepth 20000 in
theorem dX1_bestAlone_42 : decode cX1_bestAlone 42 = .ok (.iconst 0, 1) ∧ 42 + 1 = 43 := ⟨by decide +kernel, rfl⟩
set_option maxRecDepth 20000 in
theorem dX1_bestAlone_43 : decode cX1_bestAlone 43 = .ok (.invokevirtual 107, 3) ∧ 43 + 3 = 46 := ⟨by decide +kernel, rfl⟩
set_option maxRecDepth 20000 in
theorem dX1_bestAlone_46 : decode cX1_bestAlone 46 = .ok (.goto 12, 3) ∧ ((46 : Nat) : Int) + (12) = ((58 : Nat) : Int) := ⟨by decide +kernel, by decide⟩
set_option maxRecDepth 20000 in
theorem dX1_bestAlone_49 : decode cX1_bestAlone 49 = .ok (.aload_n 0, 1) ∧ 49 + 1 = 50 := ⟨by decide +kernel, rfl⟩
set_option maxRecDepth 20000 in
theorem dX1_bestAlone_50 : decode cX1_bestAlone 50 = .ok (.iload_n 2, 1) ∧ 50 + 1 = 51 := ⟨by decide +kernel, rfl⟩
set_option maxRecDepth 20000 in
theorem dX1_bestAlone_51 : decode cX1_bestAlone 51 = .ok (.iload_n 3, 1) ∧ 51 + 1 = 52 := ⟨by decide +kernel, rfl⟩
set_option maxRecDepth 20000 in
theorem dX1_bestAlone_52 : decode cX1_bestAlone 52 = .ok (.iconst 0, 1) ∧ 52 + 1 = 53 := ⟨by decide +kernel, rfl⟩
set_option maxRecDepth 20000 in
theorem dX1_bestAlone_53 : decode cX1_bestAlone 53 = .ok (.iload 6, 2) ∧ 53 + 2 = 55 := ⟨by decide +kernel, rfl⟩
set_option maxRecDepth 20000 in
theorem dX1_bestAlone_55 : decode cX1_bestAlone 55 = .ok (.invokevirtual 107, 3) ∧ 55 + 3 = 58 := ⟨by decide +kernel, rfl⟩
set_option maxRecDepth 20000 in
theorem dX1_bestAlone_58 : decode cX1_bestAlone 58 = .ok (.lstore 7, 2) ∧ 58 + 2 = 60 := ⟨by decide +kernel, rfl⟩
set_option maxRecDepth 20000 in
theorem dX1_bestAlone_60 : decode cX1_bestAlone 60 = .ok (.lload 4, 2) ∧ 60 + 2 = 62 := ⟨by decide +kernel, rfl⟩
set_option maxRecDepth 20000 in
theorem dX1_bestAlone_62 : decode cX1_bestAlone 62 = .ok (.iload_n 1, 1) ∧ 62 + 1 = 63 := ⟨by decide +kernel, rfl⟩
set_option maxRecDepth 20000 in
theorem dX1_bestAlone_63 : decode cX1_bestAlone 63 = .ok (.lload 7, 2) ∧ 63 + 2 = 65 := ⟨by decide +kernel, rfl⟩
set_option maxRecDepth 20000 in
theorem dX1_bestAlone_65 : decode cX1_bestAlone 65 = .ok (.invokestatic 139, 3) ∧ 65 + 3 = 68 := ⟨by decide +kernel, rfl⟩
set_option maxRecDepth 20000 in
theorem dX1_bestAlone_68 : decode cX1_bestAlone 68 = .ok (.invokestatic 187, 3) ∧ 68 + 3 = 71 := ⟨by decide +kernel, rfl⟩
set_option maxRecDepth 20000 in
theorem dX1_bestAlone_71 : decode cX1_bestAlone 71 = .ok (.lstore 4, 2) ∧ 71 + 2 = 73 := ⟨by decide +kernel, rfl⟩
set_option maxRecDepth 20000 in
theorem dX1_bestAlone_73 : decode cX1_bestAlone 73 = .ok (.iinc 6 1, 3) ∧ 73 + 3 = 76 := ⟨by decide +kernel, rfl⟩
set_option maxRecDepth 20000 in
theorem dX1_bestAlone_76 : decode cX1_bestAlone 76 = .ok (.goto (-68), 3) ∧ ((76 : Nat) : Int) + (-68) = ((8 : Nat) : Int) := ⟨by decide +kernel, by decide⟩
set_option maxRecDepth 20000 in
theorem dX1_bestAlone_79 : decode cX1_bestAlone 79 = .ok (.lload 4, 2) ∧ 79 + 2 = 81 := ⟨by decide +kernel, rfl⟩
set_option maxRecDepth 20000 in
theorem dX1_bestAlone_81 : decode cX1_bestAlone 81 = .ok (.lreturn, 1) := by decide +kernel
set_option maxRecDepth 20000 in
theorem dX2_init_0 : decode cX2_init 0 = .ok (.aload_n 0, 1) ∧ 0 + 1 = 1 := ⟨by decide +kernel, rfl⟩
set_option maxRecDepth 20000 in
theorem dX2_init_1 : decode cX2_init 1 = .ok (.invokespecial 3, 3) ∧ 1 + 3 = 4 := ⟨by decide +kernel, rfl⟩
set_option maxRecDepth 20000 in
theorem dX2_init_4 : decode cX2_init 4 = .ok (.aload_n 0, 1) ∧ 4 + 1 = 5 := ⟨by decide +kernel, rfl⟩
set_option maxRecDepth 20000 in
theorem dX2_init_5 : decode cX2_init 5 = .ok (.bipush 20, 2) ∧ 5 + 2 = 7 := ⟨by decide +kernel, rfl⟩
set_option maxRecDepth 20000 in
theorem dX2_init_7 : decode cX2_init 7 = .ok (.newarray .int, 2) ∧ 7 + 2 = 9 := ⟨by decide +kernel, rfl⟩
set_option maxRecDepth 20000 in
theorem dX2_init_9 : decode cX2_init 9 = .ok (.putfield 9, 3) ∧ 9 + 3 = 12 := ⟨by decide +kernel, rfl⟩
set_option maxRecDepth 20000 in
theorem dX2_init_12 : decode cX2_init 12 = .ok (.aload_n 0, 1) ∧ 12 + 1 = 13 := ⟨by decide +kernel, rfl⟩
set_option maxRecDepth 20000 in
theorem dX2_init_13 : decode cX2_init 13 = .ok (.bipush 20, 2) ∧ 13 + 2 = 15 := ⟨by decide +kernel, rfl⟩
set_option maxRecDepth 20000 in
theorem dX2_init_15 : decode cX2_init 15 = .ok (.newarray .int, 2) ∧ 15 + 2 = 17 := ⟨by decide +kernel, rfl⟩
set_option maxRecDepth 20000 in
theorem dX2_init_17 : decode cX2_init 17 = .ok (.putfield 15, 3) ∧ 17 + 3 = 20 := ⟨by decide +kernel, rfl⟩
set_option maxRecDepth 20000 in
theorem dX2_init_20 : decode cX2_init 20 = .ok (.aload_n 0, 1) ∧ 20 + 1 = 21 := ⟨by decide +kernel, rfl⟩
set_option maxRecDepth 20000 in
theorem dX2_init_21 : decode cX2_init 21 = .ok (.bipush 20, 2) ∧ 21 + 2 = 23 := ⟨by decide +kernel, rfl⟩
set_option maxRecDepth 20000 in
theorem dX2_init_23 : decode cX2_init 23 = .ok (.newarray .int, 2) ∧ 23 + 2 = 25 := ⟨by decide +kernel, rfl⟩
set_option maxRecDepth 20000 in
theorem dX2_init_25 : decode cX2_init 25 = .ok (.putfield 18, 3) ∧ 25 + 3 = 28 := ⟨by decide +kernel, rfl⟩
set_option maxRecDepth 20000 in
theorem dX2_init_28 : decode cX2_init 28 = .ok (.return_, 1) := by decide +kernel
set_option maxRecDepth 20000 in
theorem dX2_become_0 : decode cX2_become 0 = .ok (.aload_n 1, 1) ∧ 0 + 1 = 1 := ⟨by decide +kernel, rfl⟩
set_option maxRecDepth 20000 in
theorem dX2_become_1 : decode cX2_become 1 = .ok (.getfield 9, 3) ∧ 1 + 3 = 4 := ⟨by decide +kernel, rfl⟩
set_option maxRecDepth 20000 in
theorem dX2_become_4 : decode cX2_become 4 = .ok (.iconst 0, 1) ∧ 4 + 1 = 5 := ⟨by decide +kernel, rfl⟩
set_option maxRecDepth 20000 in
theorem dX2_become_5 : decode cX2_become 5 = .ok (.aload_n 0, 1) ∧ 5 + 1 = 6 := ⟨by decide +kernel, rfl⟩
set_option maxRecDepth 20000 in
theorem dX2_become_6 : decode cX2_become 6 = .ok (.getfield 9, 3) ∧ 6 + 3 = 9 := ⟨by decide +kernel, rfl⟩
set_option maxRecDepth 20000 in
theorem dX2_become_9 : decode cX2_become 9 = .ok (.iconst 0, 1) ∧ 9 + 1 = 10 := ⟨by decide +kernel, rfl⟩
set_option maxRecDepth 20000 in
theorem dX2_become_10 : decode cX2_become 10 = .ok (.bipush 20, 2) ∧ 10 + 2 = 12 := ⟨by decide +kernel, rfl⟩
set_option maxRecDepth 20000 in
theorem dX2_become_12 : decode cX2_become 12 = .ok (.invokestatic 21, 3) ∧ 12 + 3 = 15 := ⟨by decide +kernel, rfl⟩
set_option maxRecDepth 20000 in
theorem dX2_become_15 : decode cX2_become 15 = .ok (.aload_n 1, 1) ∧ 15 + 1 = 16 := ⟨by decide +kernel, rfl⟩
set_option maxRecDepth 20000 in
theorem dX2_become_16 : decode cX2_become 16 = .ok (.getfield 15, 3) ∧ 16 + 3 = 19 := ⟨by decide +kernel, rfl⟩
set_option maxRecDepth 20000 in
theorem dX2_become_19 : decode cX2_become 19 = .ok (.iconst 0, 1) ∧ 19 + 1 = 20 := ⟨by decide +kernel, rfl⟩
set_option maxRecDepth 20000 in
theorem dX2_become_20 : decode cX2_become 20 = .ok (.aload_n 0, 1) ∧ 20 + 1 = 21 := ⟨by decide +kernel, rfl⟩
set_option maxRecDepth 20000 in
theorem dX2_become_21 : decode cX2_become 21 = .ok (.getfield 15, 3) ∧ 21 + 3 = 24 := ⟨by decide +kernel, rfl⟩
set_option maxRecDepth 20000 in
theorem dX2_become_24 : decode cX2_become 24 = .ok (.iconst 0, 1) ∧ 24 + 1 = 25 := ⟨by decide +kernel, rfl⟩
set_option maxRecDepth 20000 in
theorem dX2_become_25 : decode cX2_become 25 = .ok (.bipush 20, 2) ∧ 25 + 2 = 27 := ⟨by decide +kernel, rfl⟩
set_option maxRecDepth 20000 in
theorem dX2_become_27 : decode cX2_become 27 = .ok (.invokestatic 21, 3) ∧ 27 + 3 = 30 := ⟨by decide +kernel, rfl⟩
set_option maxRecDepth 20000 in
theorem dX2_become_30 : decode cX2_become 30 = .ok (.aload_n 1, 1) ∧ 30 + 1 = 31 := ⟨by decide +kernel, rfl⟩
set_option maxRecDepth 20000 in
theorem dX2_become_31 : decode cX2_become 31 = .ok (.getfield 18, 3) ∧ 31 + 3 = 34 := ⟨by decide +kernel, rfl⟩
set_option maxRecDepth 20000 in
theorem dX2_become_34 : decode cX2_become 34 = .ok (.iconst 0, 1) ∧ 34 + 1 = 35 := ⟨by decide +kernel, rfl⟩
set_option maxRecDepth 20000 in
theorem dX2_become_35 : decode cX2_become 35 = .ok (.aload_n 0, 1) ∧ 35 + 1 = 36 := ⟨by decide +kernel, rfl⟩
set_option maxRecDepth 20000 in
theorem dX2_become_36 : decode cX2_become 36 = .ok (.getfield 18, 3) ∧ 36 + 3 = 39 := ⟨by decide +kernel, rfl⟩
set_option maxRecDepth 20000 in
theorem dX2_become_39 : decode cX2_become 39 = .ok (.iconst 0, 1) ∧ 39 + 1 = 40 := ⟨by decide +kernel, rfl⟩
set_option maxRecDepth 20000 in
theorem dX2_become_40 : decode cX2_become 40 = .ok (.bipush 20, 2) ∧ 40 + 2 = 42 := ⟨by decide +kernel, rfl⟩
set_option maxRecDepth 20000 in
theorem dX2_become_42 : decode cX2_become 42 = .ok (.invokestatic 21, 3) ∧ 42 + 3 = 45 := ⟨by decide +kernel, rfl⟩
set_option maxRecDepth 20000 in
theorem dX2_become_45 : decode cX2_become 45 = .ok (.aload_n 0, 1) ∧ 45 + 1 = 46 := ⟨by decide +kernel, rfl⟩
set_option maxRecDepth 20000 in
theorem dX2_become_46 : decode cX2_become 46 = .ok (.aload_n 1, 1) ∧ 46 + 1 = 47 := ⟨by decide +kernel, rfl⟩
set_option maxRecDepth 20000 in
theorem dX2_become_47 : decode cX2_become 47 = .ok (.getfield 27, 3) ∧ 47 + 3 = 50 := ⟨by decide +kernel, rfl⟩
set_option maxRecDepth 20000 in
theorem dX2_become_50 : decode cX2_become 50 = .ok (.putfield 27, 3) ∧ 50 + 3 = 53 := ⟨by decide +kernel, rfl⟩
set_option maxRecDepth 20000 in
theorem dX2_become_53 : decode cX2_become 53 = .ok (.return_, 1) := by decide +kernel
set_option maxRecDepth 20000 in
theorem dX2_add_0 : decode cX2_add 0 = .ok (.aload_n 0, 1) ∧ 0 + 1 = 1 := ⟨by decide +kernel, rfl⟩
set_option maxRecDepth 20000 in
theorem dX2_add_1 : decode cX2_add 1 = .ok (.getfield 27, 3) ∧ 1 + 3 = 4 := ⟨by decide +kernel, rfl⟩
set_option maxRecDepth 20000 in
theorem dX2_add_4 : decode cX2_add 4 = .ok (.bipush 20, 2) ∧ 4 + 2 = 6 := ⟨by decide +kernel, rfl⟩
set_option maxRecDepth 20000 in
theorem dX2_add_6 : decode cX2_add 6 = .ok (.if_icmp .lt 4, 3) ∧ 6 + 3 = 9 ∧ ((6 : Nat) : Int) + (4) = ((10 : Nat) : Int) := ⟨by decide +kernel, rfl, by decide⟩
set_option maxRecDepth 20000 in
theorem dX2_add_9 : decode cX2_add 9 = .ok (.return_, 1) := by decide +kernel
set_option maxRecDepth 20000 in
theorem dX2_add_10 : decode cX2_add 10 = .ok (.aload_n 0, 1) ∧ 10 + 1 = 11 := ⟨by decide +kernel, rfl⟩
set_option maxRecDepth 20000 in
theorem dX2_add_11 : decode cX2_add 11 = .ok (.getfield 9, 3) ∧ 11 + 3 = 14 := ⟨by decide +kernel, rfl⟩
set_option maxRecDepth 20000 in
theorem dX2_add_14 : decode cX2_add 14 = .ok (.aload_n 0, 1) ∧ 14 + 1 = 15 := ⟨by decide +kernel, rfl⟩
set_option maxRecDepth 20000 in
theorem dX2_add_15 : decode cX2_add 15 = .ok (.getfield 27, 3) ∧ 15 + 3 = 18 := ⟨by decide +kernel, rfl⟩
set_option maxRecDepth 20000 in
theorem dX2_add_18 : decode cX2_add 18 = .ok (.iload_n 1, 1) ∧ 18 + 1 = 19 := ⟨by decide +kernel, rfl⟩
set_option maxRecDepth 20000 in
theorem dX2_add_19 : decode cX2_add 19 = .ok (.iastore, 1) ∧ 19 + 1 = 20 := ⟨by decide +kernel, rfl⟩
set_option maxRecDepth 20000 in
theorem dX2_add_20 : decode cX2_add 20 = .ok (.aload_n 0, 1) ∧ 20 + 1 = 21 := ⟨by decide +kernel, rfl⟩
set_option maxRecDepth 20000 in
theorem dX2_add_21 : decode cX2_add 21 = .ok (.getfield 15, 3) ∧ 21 + 3 = 24 := ⟨by decide +kernel, rfl⟩
set_option maxRecDepth 20000 in
theorem dX2_add_24 : decode cX2_add 24 = .ok (.aload_n 0, 1) ∧ 24 + 1 = 25 := ⟨by decide +kernel, rfl⟩
set_option maxRecDepth 20000 in
theorem dX2_add_25 : decode cX2_add 25 = .ok (.getfield 27, 3) ∧ 25 + 3 = 28 := ⟨by decide +kernel, rfl⟩
set_option maxRecDepth 20000 in
theorem dX2_add_28 : decode cX2_add 28 = .ok (.iload_n 2, 1) ∧ 28 + 1 = 29 := ⟨by decide +kernel, rfl⟩
set_option maxRecDepth 20000 in
theorem dX2_add_29 : decode cX2_add 29 = .ok (.iastore, 1) ∧ 29 + 1 = 30 := ⟨by decide +kernel, rfl⟩
set_option maxRecDepth 20000 in
theorem dX2_add_30 : decode cX2_add 30 = .ok (.aload_n 0, 1) ∧ 30 + 1 = 31 := ⟨by decide +kernel, rfl⟩
set_option maxRecDepth 20000 in
theorem dX2_add_31 : decode cX2_add 31 = .ok (.getfield 18, 3) ∧ 31 + 3 = 34 := ⟨by decide +kernel, rfl⟩
set_option maxRecDepth 20000 in
theorem dX2_add_34 : decode cX2_add 34 = .ok (.aload_n 0, 1) ∧ 34 + 1 = 35 := ⟨by decide +kernel, rfl⟩
set_option maxRecDepth 20000 in
theorem dX2_add_35 : decode cX2_add 35 = .ok (.getfield 27, 3) ∧ 35 + 3 = 38 := ⟨by decide +kernel, rfl⟩
set_option maxRecDepth 20000 in
theorem dX2_add_38 : decode cX2_add 38 = .ok (.iload_n 3, 1) ∧ 38 + 1 = 39 := ⟨by decide +kernel, rfl⟩
set_option maxRecDepth 20000 in
theorem dX2_add_39 : decode cX2_add 39 = .ok (.iastore, 1) ∧ 39 + 1 = 40 := ⟨by decide +kernel, rfl⟩
set_option maxRecDepth 20000 in
theorem dX2_add_40 : decode cX2_add 40 = .ok (.aload_n 0, 1) ∧ 40 + 1 = 41 := ⟨by decide +kernel, rfl⟩
set_option maxRecDepth 20000 in
theorem dX2_add_41 : decode cX2_add 41 = .ok (.dup, 1) ∧ 41 + 1 = 42 := ⟨by decide +kernel, rfl⟩
set_option maxRecDepth 20000 in
theorem dX2_add_42 : decode cX2_add 42 = .ok (.getfield 27, 3) ∧ 42 + 3 = 45 := ⟨by decide +kernel, rfl⟩
set_option maxRecDepth 20000 in
theorem dX2_add_45 : decode cX2_add 45 = .ok (.iconst 1, 1) ∧ 45 + 1 = 46 := ⟨by decide +kernel, rfl⟩
set_option maxRecDepth 20000 in
theorem dX2_add_46 : decode cX2_add 46 = .ok (.iadd, 1) ∧ 46 + 1 = 47 := ⟨by decide +kernel, rfl⟩
set_option maxRecDepth 20000 in
theorem dX2_add_47 : decode cX2_add 47 = .ok (.putfield 27, 3) ∧ 47 + 3 = 50 := ⟨by decide +kernel, rfl⟩
set_option maxRecDepth 20000 in
theorem dX2_add_50 : decode cX2_add 50 = .ok (.return_, 1) := by decide +kernel
set_option maxRecDepth 20000 in
theorem dX2_drop_0 : decode cX2_drop 0 = .ok (.iload_n 1, 1) ∧ 0 + 1 = 1 := ⟨by decide +kernel, rfl⟩
set_option maxRecDepth 20000 in
theorem dX2_drop_1 : decode cX2_drop 1 = .ok (.iconst 1, 1) ∧ 1 + 1 = 2 := ⟨by decide +kernel, rfl⟩
set_option maxRecDepth 20000 in
theorem dX2_drop_2 : decode cX2_drop 2 = .ok (.iadd, 1) ∧ 2 + 1 = 3 := ⟨by decide +kernel, rfl⟩
set_option maxRecDepth 20000 in
theorem dX2_drop_3 : decode cX2_drop 3 = .ok (.istore_n 2, 1) ∧ 3 + 1 = 4 := ⟨by decide +kernel, rfl⟩
set_option maxRecDepth 20000 in
theorem dX2_drop_4 : decode cX2_drop 4 = .ok (.iload_n 2, 1) ∧ 4 + 1 = 5 := ⟨by decide +kernel, rfl⟩
set_option maxRecDepth 20000 in
theorem dX2_drop_5 : decode cX2_drop 5 = .ok (.aload_n 0, 1) ∧ 5 + 1 = 6 := ⟨by decide +kernel, rfl⟩
set_option maxRecDepth 20000 in
theorem dX2_drop_6 : decode cX2_drop 6 = .ok (.getfield 27, 3) ∧ 6 + 3 = 9 := ⟨by decide +kernel, rfl⟩
set_option maxRecDepth 20000 in
theorem dX2_drop_9 : decode cX2_drop 9 = .ok (.if_icmp .ge 51, 3) ∧ 9 + 3 = 12 ∧ ((9 : Nat) : Int) + (51) = ((60 : Nat) : Int) := ⟨by decide +kernel, rfl, by decide⟩
set_option maxRecDepth 20000 in
theorem dX2_drop_12 : decode cX2_drop 12 = .ok (.aload_n 0, 1) ∧ 12 + 1 = 13 := ⟨by decide +kernel, rfl⟩
set_option maxRecDepth 20000 in
theorem dX2_drop_13 : decode cX2_drop 13 = .ok (.getfield 9, 3) ∧ 13 + 3 = 16 := ⟨by decide +kernel, rfl⟩
set_option maxRecDepth 20000 in
theorem dX2_drop_16 : decode cX2_drop 16 = .ok (.iload_n 2, 1) ∧ 16 + 1 = 17 := ⟨by decide +kernel, rfl⟩
set_option maxRecDepth 20000 in
theorem dX2_drop_17 : decode cX2_drop 17 = .ok (.iconst 1, 1) ∧ 17 + 1 = 18 := ⟨by decide +kernel, rfl⟩
set_option maxRecDepth 20000 in
theorem dX2_drop_18 : decode cX2_drop 18 = .ok (.isub, 1) ∧ 18 + 1 = 19 := ⟨by decide +kernel, rfl⟩
set_option maxRecDepth 20000 in
theorem dX2_drop_19 : decode cX2_drop 19 = .ok (.aload_n 0, 1) ∧ 19 + 1 = 20 := ⟨by decide +kernel, rfl⟩
set_option maxRecDepth 20000 in
theorem dX2_drop_20 : decode cX2_drop 20 = .ok (.getfield 9, 3) ∧ 20 + 3 = 23 := ⟨by decide +kernel, rfl⟩
set_option maxRecDepth 20000 in
theorem dX2_drop_23 : decode cX2_drop 23 = .ok (.iload_n 2, 1) ∧ 23 + 1 = 24 := ⟨by decide +kernel, rfl⟩
set_option maxRecDepth 20000 in
theorem dX2_drop_24 : decode cX2_drop 24 = .ok (.iaload, 1) ∧ 24 + 1 = 25 := ⟨by decide +kernel, rfl⟩
set_option maxRecDepth 20000 in
theorem dX2_drop_25 : decode cX2_drop 25 = .ok (.iastore, 1) ∧ 25 + 1 = 26 := ⟨by decide +kernel, rfl⟩
set_option maxRecDepth 20000 in
theorem dX2_drop_26 : decode cX2_drop 26 = .ok (.aload_n 0, 1) ∧ 26 + 1 = 27 := ⟨by decide +kernel, rfl⟩
set_option maxRecDepth 20000 in
theorem dX2_drop_27 : decode cX2_drop 27 = .ok (.getfield 15, 3) ∧ 27 + 3 = 30 := ⟨by decide +kernel, rfl⟩
set_option maxRecDepth 20000 in
theorem dX2_drop_30 : decode cX2_drop 30 = .ok (.iload_n 2, 1) ∧ 30 + 1 = 31 := ⟨by decide +kernel, rfl⟩
set_option maxRecDepth 20000 in
theorem dX2_drop_31 : decode cX2_drop 31 = .ok (.iconst 1, 1) ∧ 31 + 1 = 32 := ⟨by decide +kernel, rfl⟩
set_option maxRecDepth 20000 in
theorem dX2_drop_32 : decode cX2_drop 32 = .ok (.isub, 1) ∧ 32 + 1 = 33 := ⟨by decide +kernel, rfl⟩
set_option maxRecDepth 20000 in
theorem dX2_drop_33 : decode cX2_drop 33 = .ok (.aload_n 0, 1) ∧ 33 + 1 = 34 := ⟨by decide +kernel, rfl⟩
set_option maxRecDepth 20000 in
theorem dX2_drop_34 : decode cX2_drop 34 = .ok (.getfield 15, 3) ∧ 34 + 3 = 37 := ⟨by decide +kernel, rfl⟩
set_option maxRecDepth 20000 in
theorem dX2_drop_37 : decode cX2_drop 37 = .ok (.iload_n 2, 1) ∧ 37 + 1 = 38 := ⟨by decide +kernel, rfl⟩
set_option maxRecDepth 20000 in
theorem dX2_drop_38 : decode cX2_drop 38 = .ok (.iaload, 1) ∧ 38 + 1 = 39 := ⟨by decide +kernel, rfl⟩
set_option maxRecDepth 20000 in
theorem dX2_drop_39 : decode cX2_drop 39 = .ok (.iastore, 1) ∧ 39 + 1 = 40 := ⟨by decide +kernel, rfl⟩
set_option maxRecDepth 20000 in
theorem dX2_drop_40 : decode cX2_drop 40 = .ok (.aload_n 0, 1) ∧ 40 + 1 = 41 := ⟨by decide +kernel, rfl⟩
set_option maxRecDepth 20000 in
theorem dX2_drop_41 : decode cX2_drop 41 = .ok (.getfield 18, 3) ∧ 41 + 3 = 44 := ⟨by decide +kernel, rfl⟩
set_option maxRecDepth 20000 in
theorem dX2_drop_44 : decode cX2_drop 44 = .ok (.iload_n 2, 1) ∧ 44 + 1 = 45 := ⟨by decide +kernel, rfl⟩
set_option maxRecDepth 20000 in
theorem dX2_drop_45 : decode cX2_drop 45 = .ok (.iconst 1, 1) ∧ 45 + 1 = 46 := ⟨by decide +kernel, rfl⟩
set_option maxRecDepth 20000 in
theorem dX2_drop_46 : decode cX2_drop 46 = .ok (.isub, 1) ∧ 46 + 1 = 47 := ⟨by decide +kernel, rfl⟩
set_option maxRecDepth 20000 in
theorem dX2_drop_47 : decode cX2_drop 47 = .ok (.aload_n 0, 1) ∧ 47 + 1 = 48 := ⟨by decide +kernel, rfl⟩
set_option maxRecDepth 20000 in
theorem dX2_drop_48 : decode cX2_drop 48 = .ok (.getfield 18, 3) ∧ 48 + 3 = 51 := ⟨by decide +kernel, rfl⟩
set_option maxRecDepth 20000 in
theorem dX2_drop_51 : decode cX2_drop 51 = .ok (.iload_n 2, 1) ∧ 51 + 1 = 52 := ⟨by decide +kernel, rfl⟩
set_option maxRecDepth 20000 in
theorem dX2_drop_52 : decode cX2_drop 52 = .ok (.iaload, 1) ∧ 52 + 1 = 53 := ⟨by decide +kernel, rfl⟩
set_option maxRecDepth 20000 in
theorem dX2_drop_53 : decode cX2_drop 53 = .ok (.iastore, 1) ∧ 53 + 1 = 54 := ⟨by decide +kernel, rfl⟩
set_option maxRecDepth 20000 in
theorem dX2_drop_54 : decode cX2_drop 54 = .ok (.iinc 2 1, 3) ∧ 54 + 3 = 57 := ⟨by decide +kernel, rfl⟩
set_option maxRecDepth 20000 in
theorem dX2_drop_57 : decode cX2_drop 57 = .ok (.goto (-53), 3) ∧ ((57 : Nat) : Int) + (-53) = ((4 : Nat) : Int) := ⟨by decide +kernel, by decide⟩
set_option maxRecDepth 20000 in
theorem dX2_drop_60 : decode cX2_drop 60 = .ok (.aload_n 0, 1) ∧ 60 + 1 = 61 := ⟨by decide +kernel, rfl⟩
set_option maxRecDepth 20000 in
theorem dX2_drop_61 : decode cX2_drop 61 = .ok (.dup, 1) ∧ 61 + 1 = 62 := ⟨by decide +kernel, rfl⟩
set_option maxRecDepth 20000 in
theorem dX2_drop_62 : decode cX2_drop 62 = .ok (.getfield 27, 3) ∧ 62 + 3 = 65 := ⟨by decide +kernel, rfl⟩
set_option maxRecDepth 20000 in
theorem dX2_drop_65 : decode cX2_drop 65 = .ok (.iconst 1, 1) ∧ 65 + 1 = 66 := ⟨by decide +kernel, rfl⟩
set_option maxRecDepth 20000 in
theorem dX2_drop_66 : decode cX2_drop 66 = .ok (.isub, 1) ∧ 66 + 1 = 67 := ⟨by decide +kernel, rfl⟩
set_option maxRecDepth 20000 in
theorem dX2_drop_67 : decode cX2_drop 67 = .ok (.putfield 27, 3) ∧ 67 + 3 = 70 := ⟨by decide +kernel, rfl⟩
set_option maxRecDepth 20000 in
theorem dX2_drop_70 : decode cX2_drop 70 = .ok (.return_, 1) := by decide +kernel
set_option maxRecDepth 20000 in
theorem dX2_votedRight_0 : decode cX2_votedRight 0 = .ok (.aload_n 0, 1) ∧ 0 + 1 = 1 := ⟨by decide +kernel, rfl⟩
set_option maxRecDepth 20000 in
theorem dX2_votedRight_1 : decode cX2_votedRight 1 = .ok (.getfield 9, 3) ∧ 1 + 3 = 4 := ⟨by decide +kernel, rfl⟩
set_option maxRecDepth 20000 in
theorem dX2_votedRight_4 : decode cX2_votedRight 4 = .ok (.iload_n 1, 1) ∧ 4 + 1 = 5 := ⟨by decide +kernel, rfl⟩
set_option maxRecDepth 20000 in
theorem dX2_votedRight_5 : decode cX2_votedRight 5 = .ok (.iaload, 1) ∧ 5 + 1 = 6 := ⟨by decide +kernel, rfl⟩
set_option maxRecDepth 20000 in
theorem dX2_votedRight_6 : decode cX2_votedRight 6 = .ok (.ifCond .ne 12, 3) ∧ 6 + 3 = 9 ∧ ((6 : Nat) : Int) + (12) = ((18 : Nat) : Int) := ⟨by decide +kernel, rfl, by decide⟩
set_option maxRecDepth 20000 in
theorem dX2_votedRight_9 : decode cX2_votedRight 9 = .ok (.aload_n 0, 1) ∧ 9 + 1 = 10 := ⟨by decide +kernel, rfl⟩
set_option maxRecDepth 20000 in
theorem dX2_votedRight_10 : decode cX2_votedRight 10 = .ok (.getfield 18, 3) ∧ 10 + 3 = 13 := ⟨by decide +kernel, rfl⟩
set_option maxRecDepth 20000 in
theorem dX2_votedRight_13 : decode cX2_votedRight 13 = .ok (.iload_n 1, 1) ∧ 13 + 1 = 14 := ⟨by decide +kernel, rfl⟩
set_option maxRecDepth 20000 in
theorem dX2_votedRight_14 : decode cX2_votedRight 14 = .ok (.iaload, 1) ∧ 14 + 1 = 15 := ⟨by decide +kernel, rfl⟩
set_option maxRecDepth 20000 in
theorem dX2_votedRight_15 : decode cX2_votedRight 15 = .ok (.goto 18, 3) ∧ ((15 : Nat) : Int) + (18) = ((33 : Nat) : Int) := ⟨by decide +kernel, by decide⟩
set_option maxRecDepth 20000 in
theorem dX2_votedRight_18 : decode cX2_votedRight 18 = .ok (.aload_n 0, 1) ∧ 18 + 1 = 19 := ⟨by decide +kernel, rfl⟩
set_option maxRecDepth 20000 in
theorem dX2_votedRight_19 : decode cX2_votedRight 19 = .ok (.getfield 15, 3) ∧ 19 + 3 = 22 := ⟨by decide +kernel, rfl⟩
set_option maxRecDepth 20000 in
theorem dX2_votedRight_22 : decode cX2_votedRight 22 = .ok (.iload_n 1, 1) ∧ 22 + 1 = 23 := ⟨by decide +kernel, rfl⟩
set_option maxRecDepth 20000 in
theorem dX2_votedRight_23 : decode cX2_votedRight 23 = .ok (.iaload, 1) ∧ 23 + 1 = 24 := ⟨by decide +kernel, rfl⟩
set_option maxRecDepth 20000 in
theorem dX2_votedRight_24 : decode cX2_votedRight 24 = .ok (.aload_n 0, 1) ∧ 24 + 1 = 25 := ⟨by decide +kernel, rfl⟩
set_option maxRecDepth 20000 in
theorem dX2_votedRight_25 : decode cX2_votedRight 25 = .ok (.getfield 18, 3) ∧ 25 + 3 = 28 := ⟨by decide +kernel, rfl⟩
set_option maxRecDepth 20000 in
theorem dX2_votedRight_28 : decode cX2_votedRight 28 = .ok (.iload_n 1, 1) ∧ 28 + 1 = 29 := ⟨by decide +kernel, rfl⟩
set_option maxRecDepth 20000 in
theorem dX2_votedRight_29 : decode cX2_votedRight 29 = .ok (.iaload, 1) ∧ 29 + 1 = 30 := ⟨by decide +kernel, rfl⟩
set_option maxRecDepth 20000 in
theorem dX2_votedRight_30 : decode cX2_votedRight 30 = .ok (.iconst (-1), 1) ∧ 30 + 1 = 31 := ⟨by decide +kernel, rfl⟩
set_option maxRecDepth 20000 in
theorem dX2_votedRight_31 : decode cX2_votedRight 31 = .ok (.ixor, 1) ∧ 31 + 1 = 32 := ⟨by decide +kernel, rfl⟩
set_option maxRecDepth 20000 in
theorem dX2_votedRight_32 : decode cX2_votedRight 32 = .ok (.iand, 1) ∧ 32 + 1 = 33 := ⟨by decide +kernel, rfl⟩
set_option maxRecDepth 20000 in
theorem dX2_votedRight_33 : decode cX2_votedRight 33 = .ok (.ireturn, 1) := by decide +kernel
set_option maxRecDepth 20000 in
theorem dX2_times_0 : decode cX2_times 0 = .ok (.iconst 0, 1) ∧ 0 + 1 = 1 := ⟨by decide +kernel, rfl⟩
set_option maxRecDepth 20000 in
theorem dX2_times_1 : decode cX2_times 1 = .ok (.istore 4, 2) ∧ 1 + 2 = 3 := ⟨by decide +kernel, rfl⟩
set_option maxRecDepth 20000 in
theorem dX2_times_3 : decode cX2_times 3 = .ok (.iconst 0, 1) ∧ 3 + 1 = 4 := ⟨by decide +kernel, rfl⟩
set_option maxRecDepth 20000 in
theorem dX2_times_4 : decode cX2_times 4 = .ok (.istore 5, 2) ∧ 4 + 2 = 6 := ⟨by decide +kernel, rfl⟩
set_option maxRecDepth 20000 in
theorem dX2_times_6 : decode cX2_times 6 = .ok (.iload 5, 2) ∧ 6 + 2 = 8 := ⟨by decide +kernel, rfl⟩
set_option maxRecDepth 20000 in
theorem dX2_times_8 : decode cX2_times 8 = .ok (.aload_n 0, 1) ∧ 8 + 1 = 9 := ⟨by decide +kernel, rfl⟩
set_option maxRecDepth 20000 in
theorem dX2_times_9 : decode cX2_times 9 = .ok (.getfield 27, 3) ∧ 9 + 3 = 12 := ⟨by decide +kernel, rfl⟩
set_option maxRecDepth 20000 in
theorem dX2_times_12 : decode cX2_times 12 = .ok (.if_icmp .ge 59, 3) ∧ 12 + 3 = 15 ∧ ((12 : Nat) : Int) + (59) = ((71 : Nat) : Int) := ⟨by decide +kernel, rfl, by decide⟩
set_option maxRecDepth 20000 in
theorem dX2_times_15 : decode cX2_times 15 = .ok (.iload_n 2, 1) ∧ 15 + 1 = 16 := ⟨by decide +kernel, rfl⟩
set_option maxRecDepth 20000 in
theorem dX2_times_16 : decode cX2_times 16 = .ok (.ifCond .ne 12, 3) ∧ 16 + 3 = 19 ∧ ((16 : Nat) : Int) + (12) = ((28 : Nat) : Int) := ⟨by decide +kernel, rfl, by decide⟩
set_option maxRecDepth 20000 in
theorem dX2_times_19 : decode cX2_times 19 = .ok (.aload_n 0, 1) ∧ 19 + 1 = 20 := ⟨by decide +kernel, rfl⟩
set_option maxRecDepth 20000 in
theorem dX2_times_20 : decode cX2_times 20 = .ok (.iload 5, 2) ∧ 20 + 2 = 22 := ⟨by decide +kernel, rfl⟩
set_option maxRecDepth 20000 in
theorem dX2_times_22 : decode cX2_times 22 = .ok (.invokevirtual 31, 3) ∧ 22 + 3 = 25 := ⟨by decide +kernel, rfl⟩
set_option maxRecDepth 20000 in
theorem dX2_times_25 : decode cX2_times 25 = .ok (.goto 19, 3) ∧ ((25 : Nat) : Int) + (19) = ((44 : Nat) : Int) := ⟨by decide +kernel, by decide⟩
set_option maxRecDepth 20000 in
theorem dX2_times_28 : decode cX2_times 28 = .ok (.aload_n 0, 1) ∧ 28 + 1 = 29 := ⟨by decide +kernel, rfl⟩
set_option maxRecDepth 20000 in
theorem dX2_times_29 : decode cX2_times 29 = .ok (.getfield 15, 3) ∧ 29 + 3 = 32 := ⟨by decide +kernel, rfl⟩
set_option maxRecDepth 20000 in
theorem dX2_times_32 : decode cX2_times 32 = .ok (.iload 5, 2) ∧ 32 + 2 = 34 := ⟨by decide +kernel, rfl⟩
set_option maxRecDepth 20000 in
theorem dX2_times_34 : decode cX2_times 34 = .ok (.iaload, 1) ∧ 34 + 1 = 35 := ⟨by decide +kernel, rfl⟩
set_option maxRecDepth 20000 in
theorem dX2_times_35 : decode cX2_times 35 = .ok (.aload_n 0, 1) ∧ 35 + 1 = 36 := ⟨by decide +kernel, rfl⟩
set_option maxRecDepth 20000 in
theorem dX2_times_36 : decode cX2_times 36 = .ok (.iload 5, 2) ∧ 36 + 2 = 38 := ⟨by decide +kernel, rfl⟩
set_option maxRecDepth 20000 in
theorem dX2_times_38 : decode cX2_times 38 = .ok (.invokevirtual 31, 3) ∧ 38 + 3 = 41 := ⟨by decide +kernel, rfl⟩
set_option maxRecDepth 20000 in
theorem dX2_times_41 : decode cX2_times 41 = .ok (.iconst (-1), 1) ∧ 41 + 1 = 42 := ⟨by decide +kernel, rfl⟩
set_option maxRecDepth 20000 in
theorem dX2_times_42 : decode cX2_times 42 = .ok (.ixor, 1) ∧ 42 + 1 = 43 := ⟨by decide +kernel, rfl⟩
set_option maxRecDepth 20000 in
theorem dX2_times_43 : decode cX2_times 43 = .ok (.iand, 1) ∧ 43 + 1 = 44 := ⟨by decide +kernel, rfl⟩
set_option maxRecDepth 20000 in
theorem dX2_times_44 : decode cX2_times 44 = .ok (.istore 6, 2) ∧ 44 + 2 = 46 := ⟨by decide +kernel, rfl⟩
set_option maxRecDepth 20000 in
theorem dX2_times_46 : decode cX2_times 46 = .ok (.iload 5, 2) ∧ 46 + 2 = 48 := ⟨by decide +kernel, rfl⟩
set_option maxRecDepth 20000 in
theorem dX2_times_48 : decode cX2_times 48 = .ok (.iload_n 3, 1) ∧ 48 + 1 = 49 := ⟨by decide +kernel, rfl⟩
set_option maxRecDepth 20000 in
theorem dX2_times_49 : decode cX2_times 49 = .ok (.if_icmp .eq 16, 3) ∧ 49 + 3 = 52 ∧ ((49 : Nat) : Int) + (16) = ((65 : Nat) : Int) := ⟨by decide +kernel, rfl, by decide⟩
set_option maxRecDepth 20000 in
theorem dX2_times_52 : decode cX2_times 52 = .ok (.iload 6, 2) ∧ 52 + 2 = 54 := ⟨by decide +kernel, rfl⟩
set_option maxRecDepth 20000 in
theorem dX2_times_54 : decode cX2_times 54 = .ok (.iload_n 1, 1) ∧ 54 + 1 = 55 := ⟨by decide +kernel, rfl⟩
set_option maxRecDepth 20000 in
theorem dX2_times_55 : decode cX2_times 55 = .ok (.ishr, 1) ∧ 55 + 1 = 56 := ⟨by decide +kernel, rfl⟩
set_option maxRecDepth 20000 in
theorem dX2_times_56 : decode cX2_times 56 = .ok (.iconst 1, 1) ∧ 56 + 1 = 57 := ⟨by decide +kernel, rfl⟩
set_option maxRecDepth 20000 in
theorem dX2_times_57 : decode cX2_times 57 = .ok (.iand, 1) ∧ 57 + 1 = 58 := ⟨by decide +kernel, rfl⟩
set_option maxRecDepth 20000 in
theorem dX2_times_58 : decode cX2_times 58 = .ok (.iconst 1, 1) ∧ 58 + 1 = 59 := ⟨by decide +kernel, rfl⟩
set_option maxRecDepth 20000 in
theorem dX2_times_59 : decode cX2_times 59 = .ok (.if_icmp .ne 6, 3) ∧ 59 + 3 = 62 ∧ ((59 : Nat) : Int) + (6) = ((65 : Nat) : Int) := ⟨by decide +kernel, rfl, by decide⟩
set_option maxRecDepth 20000 in
theorem dX2_times_62 : decode cX2_times 62 = .ok (.iinc 4 1, 3) ∧ 62 + 3 = 65 := ⟨by decide +kernel, rfl⟩
set_option maxRecDepth 20000 in
theorem dX2_times_65 : decode cX2_times 65 = .ok (.iinc 5 1, 3) ∧ 65 + 3 = 68 := ⟨by decide +kernel, rfl⟩
set_option maxRecDepth 20000 in
theorem dX2_times_68 : decode cX2_times 68 = .ok (.goto (-62), 3) ∧ ((68 : Nat) : Int) + (-62) = ((6 : Nat) : Int) := ⟨by decide +kernel, by decide⟩
set_option maxRecDepth 20000 in
theorem dX2_times_71 : decode cX2_times 71 = .ok (.iload 4, 2) ∧ 71 + 2 = 73 := ⟨by decide +kernel, rfl⟩
set_option maxRecDepth 20000 in
theorem dX2_times_73 : decode cX2_times 73 = .ok (.ireturn, 1) := by decide +kernel
set_option maxRecDepth 20000 in
theorem dX2_mostRight_0 : decode cX2_mostRight 0 = .ok (.iconst 0, 1) ∧ 0 + 1 = 1 := ⟨by decide +kernel, rfl⟩
set_option maxRecDepth 20000 in
theorem dX2_mostRight_1 : decode cX2_mostRight 1 = .ok (.istore_n 1, 1) ∧ 1 + 1 = 2 := ⟨by decide +kernel, rfl⟩
set_option maxRecDepth 20000 in
theorem dX2_mostRight_2 : decode cX2_mostRight 2 = .ok (.iconst 0, 1) ∧ 2 + 1 = 3 := ⟨by decide +kernel, rfl⟩
set_option maxRecDepth 20000 in
theorem dX2_mostRight_3 : decode cX2_mostRight 3 = .ok (.istore_n 2, 1) ∧ 3 + 1 = 4 := ⟨by decide +kernel, rfl⟩
set_option maxRecDepth 20000 in
theorem dX2_mostRight_4 : decode cX2_mostRight 4 = .ok (.iload_n 2, 1) ∧ 4 + 1 = 5 := ⟨by decide +kernel, rfl⟩
set_option maxRecDepth 20000 in
theorem dX2_mostRight_5 : decode cX2_mostRight 5 = .ok (.aload_n 0, 1) ∧ 5 + 1 = 6 := ⟨by decide +kernel, rfl⟩
set_option maxRecDepth 20000 in
theorem dX2_mostRight_6 : decode cX2_mostRight 6 = .ok (.getfield 27, 3) ∧ 6 + 3 = 9 := ⟨by decide +kernel, rfl⟩
set_option maxRecDepth 20000 in
theorem dX2_mostRight_9 : decode cX2_mostRight 9 = .ok (.if_icmp .ge 34, 3) ∧ 9 + 3 = 12 ∧ ((9 : Nat) : Int) + (34) = ((43 : Nat) : Int) := ⟨by decide +kernel, rfl, by decide⟩
set_option maxRecDepth 20000 in
theorem dX2_mostRight_12 : decode cX2_mostRight 12 = .ok (.iconst 2, 1) ∧ 12 + 1 = 13 := ⟨by decide +kernel, rfl⟩
set_option maxRecDepth 20000 in
theorem dX2_mostRight_13 : decode cX2_mostRight 13 = .ok (.aload_n 0, 1) ∧ 13 + 1 = 14 := ⟨by decide +kernel, rfl⟩
set_option maxRecDepth 20000 in
theorem dX2_mostRight_14 : decode cX2_mostRight 14 = .ok (.iload_n 2, 1) ∧ 14 + 1 = 15 := ⟨by decide +kernel, rfl⟩
set_option maxRecDepth 20000 in
theorem dX2_mostRight_15 : decode cX2_mostRight 15 = .ok (.invokevirtual 31, 3) ∧ 15 + 3 = 18 := ⟨by decide +kernel, rfl⟩
set_option maxRecDepth 20000 in
theorem dX2_mostRight_18 : decode cX2_mostRight 18 = .ok (.invokestatic 35, 3) ∧ 18 + 3 = 21 := ⟨by decide +kernel, rfl⟩
set_option maxRecDepth 20000 in
theorem dX2_mostRight_21 : decode cX2_mostRight 21 = .ok (.imul, 1) ∧ 21 + 1 = 22 := ⟨by decide +kernel, rfl⟩
set_option maxRecDepth 20000 in
theorem dX2_mostRight_22 : decode cX2_mostRight 22 = .ok (.aload_n 0, 1) ∧ 22 + 1 = 23 := ⟨by decide +kernel, rfl⟩
set_option maxRecDepth 20000 in
theorem dX2_mostRight_23 : decode cX2_mostRight 23 = .ok (.getfield 15, 3) ∧ 23 + 3 = 26 := ⟨by decide +kernel, rfl⟩
set_option maxRecDepth 20000 in
theorem dX2_mostRight_26 : decode cX2_mostRight 26 = .ok (.iload_n 2, 1) ∧ 26 + 1 = 27 := ⟨by decide +kernel, rfl⟩
set_option maxRecDepth 20000 in
theorem dX2_mostRight_27 : decode cX2_mostRight 27 = .ok (.iaload, 1) ∧ 27 + 1 = 28 := ⟨by decide +kernel, rfl⟩
set_option maxRecDepth 20000 in
theorem dX2_mostRight_28 : decode cX2_mostRight 28 = .ok (.invokestatic 35, 3) ∧ 28 + 3 = 31 := ⟨by decide +kernel, rfl⟩
set_option maxRecDepth 20000 in
theorem dX2_mostRight_31 : decode cX2_mostRight 31 = .ok (.if_icmp .le 6, 3) ∧ 31 + 3 = 34 ∧ ((31 : Nat) : Int) + (6) = ((37 : Nat) : Int) := ⟨by decide +kernel, rfl, by decide⟩
set_option maxRecDepth 20000 in
theorem dX2_mostRight_34 : decode cX2_mostRight 34 = .ok (.iinc 1 1, 3) ∧ 34 + 3 = 37 := ⟨by decide +kernel, rfl⟩
set_option maxRecDepth 20000 in
theorem dX2_mostRight_37 : decode cX2_mostRight 37 = .ok (.iinc 2 1, 3) ∧ 37 + 3 = 40 := ⟨by decide +kernel, rfl⟩
set_option maxRecDepth 20000 in
theorem dX2_mostRight_40 : decode cX2_mostRight 40 = .ok (.goto (-36), 3) ∧ ((40 : Nat) : Int) + (-36) = ((4 : Nat) : Int) := ⟨by decide +kernel, by decide⟩
set_option maxRecDepth 20000 in
theorem dX2_mostRight_43 : decode cX2_mostRight 43 = .ok (.iload_n 1, 1) ∧ 43 + 1 = 44 := ⟨by decide +kernel, rfl⟩
set_option maxRecDepth 20000 in
theorem dX2_mostRight_44 : decode cX2_mostRight 44 = .ok (.ireturn, 1) := by decide +kernel
set_option maxRecDepth 20000 in
theorem dX2_together_0 : decode cX2_together 0 = .ok (.iconst 0, 1) ∧ 0 + 1 = 1 := ⟨by decide +kernel, rfl⟩
set_option maxRecDepth 20000 in
theorem dX2_together_1 : decode cX2_together 1 = .ok (.istore 4, 2) ∧ 1 + 2 = 3 := ⟨by decide +kernel, rfl⟩
set_option maxRecDepth 20000 in
theorem dX2_together_3 : decode cX2_together 3 = .ok (.iconst 0, 1) ∧ 3 + 1 = 4 := ⟨by decide +kernel, rfl⟩
set_option maxRecDepth 20000 in
theorem dX2_together_4 : decode cX2_together 4 = .ok (.istore 5, 2) ∧ 4 + 2 = 6 := ⟨by decide +kernel, rfl⟩
set_option maxRecDepth 20000 in
theorem dX2_together_6 : decode cX2_together 6 = .ok (.iload 5, 2) ∧ 6 + 2 = 8 := ⟨by decide +kernel, rfl⟩
set_option maxRecDepth 20000 in
theorem dX2_together_8 : decode cX2_together 8 = .ok (.aload_n 0, 1) ∧ 8 + 1 = 9 := ⟨by decide +kernel, rfl⟩
set_option maxRecDepth 20000 in
theorem dX2_together_9 : decode cX2_together 9 = .ok (.getfield 27, 3) ∧ 9 + 3 = 12 := ⟨by decide +kernel, rfl⟩
set_option maxRecDepth 20000 in
theorem dX2_together_12 : decode cX2_together 12 = .ok (.if_icmp .ge 90, 3) ∧ 12 + 3 = 15 ∧ ((12 : Nat) : Int) + (90) = ((102 : Nat) : Int) := ⟨by decide +kernel, rfl, by decide⟩
set_option maxRecDepth 20000 in
theorem dX2_together_15 : decode cX2_together 15 = .ok (.aload_n 0, 1) ∧ 15 + 1 = 16 := ⟨by decide +kernel, rfl⟩
set_option maxRecDepth 20000 in
theorem dX2_together_16 : decode cX2_together 16 = .ok (.getfield 15, 3) ∧ 16 + 3 = 19 := ⟨by decide +kernel, rfl⟩
set_option maxRecDepth 20000 in
theorem dX2_together_19 : decode cX2_together 19 = .ok (.iload 5, 2) ∧ 19 + 2 = 21 := ⟨by decide +kernel, rfl⟩
set_option maxRecDepth 20000 in
theorem dX2_together_21 : decode cX2_together 21 = .ok (.iaload, 1) ∧ 21 + 1 = 22 := ⟨by decide +kernel, rfl⟩
set_option maxRecDepth 20000 in
theorem dX2_together_22 : decode cX2_together 22 = .ok (.iload_n 1, 1) ∧ 22 + 1 = 23 := ⟨by decide +kernel, rfl⟩
set_option maxRecDepth 20000 in
theorem dX2_together_23 : decode cX2_together 23 = .ok (.ishr, 1) ∧ 23 + 1 = 24 := ⟨by decide +kernel, rfl⟩
set_option maxRecDepth 20000 in
theorem dX2_together_24 : decode cX2_together 24 = .ok (.aload_n 0, 1) ∧ 24 + 1 = 25 := ⟨by decide +kernel, rfl⟩
set_option maxRecDepth 20000 in
theorem dX2_together_25 : decode cX2_together 25 = .ok (.getfield 15, 3) ∧ 25 + 3 = 28 := ⟨by decide +kernel, rfl⟩
set_option maxRecDepth 20000 in
theorem dX2_together_28 : decode cX2_together 28 = .ok (.iload 5, 2) ∧ 28 + 2 = 30 := ⟨by decide +kernel, rfl⟩
set_option maxRecDepth 20000 in
theorem dX2_together_30 : decode cX2_together 30 = .ok (.iaload, 1) ∧ 30 + 1 = 31 := ⟨by decide +kernel, rfl⟩
set_option maxRecDepth 20000 in
theorem dX2_together_31 : decode cX2_together 31 = .ok (.iload_n 2, 1) ∧ 31 + 1 = 32 := ⟨by decide +kernel, rfl⟩
set_option maxRecDepth 20000 in
theorem dX2_together_32 : decode cX2_together 32 = .ok (.ishr, 1) ∧ 32 + 1 = 33 := ⟨by decide +kernel, rfl⟩
set_option maxRecDepth 20000 in
theorem dX2_together_33 : decode cX2_together 33 = .ok (.iand, 1) ∧ 33 + 1 = 34 := ⟨by decide +kernel, rfl⟩
set_option maxRecDepth 20000 in
theorem dX2_together_34 : decode cX2_together 34 = .ok (.iconst 1, 1) ∧ 34 + 1 = 35 := ⟨by decide +kernel, rfl⟩
set_option maxRecDepth 20000 in
theorem dX2_together_35 : decode cX2_together 35 = .ok (.iand, 1) ∧ 35 + 1 = 36 := ⟨by decide +kernel, rfl⟩
set_option maxRecDepth 20000 in
theorem dX2_together_36 : decode cX2_together 36 = .ok (.iconst 1, 1) ∧ 36 + 1 = 37 := ⟨by decide +kernel, rfl⟩
set_option maxRecDepth 20000 in
theorem dX2_together_37 : decode cX2_together 37 = .ok (.if_icmp .ne 7, 3) ∧ 37 + 3 = 40 ∧ ((37 : Nat) : Int) + (7) = ((44 : Nat) : Int) := ⟨by decide +kernel, rfl, by decide⟩
set_option maxRecDepth 20000 in
theorem dX2_together_40 : decode cX2_together 40 = .ok (.iconst 1, 1) ∧ 40 + 1 = 41 := ⟨by decide +kernel, rfl⟩
set_option maxRecDepth 20000 in
theorem dX2_together_41 : decode cX2_together 41 = .ok (.goto 4, 3) ∧ ((41 : Nat) : Int) + (4) = ((45 : Nat) : Int) := ⟨by decide +kernel, by decide⟩
set_option maxRecDepth 20000 in
theorem dX2_together_44 : decode cX2_together 44 = .ok (.iconst 0, 1) ∧ 44 + 1 = 45 := ⟨by decide +kernel, rfl⟩
set_option maxRecDepth 20000 in
theorem dX2_together_45 : decode cX2_together 45 = .ok (.istore 6, 2) ∧ 45 + 2 = 47 := ⟨by decide +kernel, rfl⟩
set_option maxRecDepth 20000 in
theorem dX2_together_47 : decode cX2_together 47 = .ok (.aload_n 0, 1) ∧ 47 + 1 = 48 := ⟨by decide +kernel, rfl⟩
set_option maxRecDepth 20000 in
theorem dX2_together_48 : decode cX2_together 48 = .ok (.getfield 18, 3) ∧ 48 + 3 = 51 := ⟨by decide +kernel, rfl⟩
set_option maxRecDepth 20000 in
theorem dX2_together_51 : decode cX2_together 51 = .ok (.iload 5, 2) ∧ 51 + 2 = 53 := ⟨by decide +kernel, rfl⟩
set_option maxRecDepth 20000 in
theorem dX2_together_53 : decode cX2_together 53 = .ok (.iaload, 1) ∧ 53 + 1 = 54 := ⟨by decide +kernel, rfl⟩
set_option maxRecDepth 20000 in
theorem dX2_together_54 : decode cX2_together 54 = .ok (.iload_n 1, 1) ∧ 54 + 1 = 55 := ⟨by decide +kernel, rfl⟩
set_option maxRecDepth 20000 in
theorem dX2_together_55 : decode cX2_together 55 = .ok (.ishr, 1) ∧ 55 + 1 = 56 := ⟨by decide +kernel, rfl⟩
set_option maxRecDepth 20000 in
theorem dX2_together_56 : decode cX2_together 56 = .ok (.iconst 1, 1) ∧ 56 + 1 = 57 := ⟨by decide +kernel, rfl⟩
set_option maxRecDepth 20000 in
theorem dX2_together_57 : decode cX2_together 57 = .ok (.iand, 1) ∧ 57 + 1 = 58 := ⟨by decide +kernel, rfl⟩
set_option maxRecDepth 20000 in
theorem dX2_together_58 : decode cX2_together 58 = .ok (.aload_n 0, 1) ∧ 58 + 1 = 59 := ⟨by decide +kernel, rfl⟩
set_option maxRecDepth 20000 in
theorem dX2_together_59 : decode cX2_together 59 = .ok (.getfield 18, 3) ∧ 59 + 3 = 62 := ⟨by decide +kernel, rfl⟩
set_option maxRecDepth 20000 in
theorem dX2_together_62 : decode cX2_together 62 = .ok (.iload 5, 2) ∧ 62 + 2 = 64 := ⟨by decide +kernel, rfl⟩
set_option maxRecDepth 20000 in
theorem dX2_together_64 : decode cX2_together 64 = .ok (.iaload, 1) ∧ 64 + 1 = 65 := ⟨by decide +kernel, rfl⟩
set_option maxRecDepth 20000 in
theorem dX2_together_65 : decode cX2_together 65 = .ok (.iload_n 2, 1) ∧ 65 + 1 = 66 := ⟨by decide +kernel, rfl⟩
set_option maxRecDepth 20000 in
theorem dX2_together_66 : decode cX2_together 66 = .ok (.ishr, 1) ∧ 66 + 1 = 67 := ⟨by decide +kernel, rfl⟩
set_option maxRecDepth 20000 in
theorem dX2_together_67 : decode cX2_together 67 = .ok (.iconst 1, 1) ∧ 67 + 1 = 68 := ⟨by decide +kernel, rfl⟩
set_option maxRecDepth 20000 in
theorem dX2_together_68 : decode cX2_together 68 = .ok (.iand, 1) ∧ 68 + 1 = 69 := ⟨by decide +kernel, rfl⟩
set_option maxRecDepth 20000 in
theorem dX2_together_69 : decode cX2_together 69 = .ok (.if_icmp .ne 7, 3) ∧ 69 + 3 = 72 ∧ ((69 : Nat) : Int) + (7) = ((76 : Nat) : Int) := ⟨by decide +kernel, rfl, by decide⟩
set_option maxRecDepth 20000 in
theorem dX2_together_72 : decode cX2_together 72 = .ok (.iconst 1, 1) ∧ 72 + 1 = 73 := ⟨by decide +kernel, rfl⟩
set_option maxRecDepth 20000 in
theorem dX2_together_73 : decode cX2_together 73 = .ok (.goto 4, 3) ∧ ((73 : Nat) : Int) + (4) = ((77 : Nat) : Int) := ⟨by decide +kernel, by decide⟩
set_option maxRecDepth 20000 in
theorem dX2_together_76 : decode cX2_together 76 = .ok (.iconst 0, 1) ∧ 76 + 1 = 77 := ⟨by decide +kernel, rfl⟩
set_option maxRecDepth 20000 in
theorem dX2_together_77 : decode cX2_together 77 = .ok (.istore 7, 2) ∧ 77 + 2 = 79 := ⟨by decide +kernel, rfl⟩
set_option maxRecDepth 20000 in
theorem dX2_together_79 : decode cX2_together 79 = .ok (.iload 6, 2) ∧ 79 + 2 = 81 := ⟨by decide +kernel, rfl⟩
set_option maxRecDepth 20000 in
theorem dX2_together_81 : decode cX2_together 81 = .ok (.ifCond .eq 15, 3) ∧ 81 + 3 = 84 ∧ ((81 : Nat) : Int) + (15) = ((96 : Nat) : Int) := ⟨by decide +kernel, rfl, by decide⟩
set_option maxRecDepth 20000 in
theorem dX2_together_84 : decode cX2_together 84 = .ok (.iload 7, 2) ∧ 84 + 2 = 86 := ⟨by decide +kernel, rfl⟩
set_option maxRecDepth 20000 in
theorem dX2_together_86 : decode cX2_together 86 = .ok (.ifCond .ne 7, 3) ∧ 86 + 3 = 89 ∧ ((86 : Nat) : Int) + (7) = ((93 : Nat) : Int) := ⟨by decide +kernel, rfl, by decide⟩
set_option maxRecDepth 20000 in
theorem dX2_together_89 : decode cX2_together 89 = .ok (.iload_n 3, 1) ∧ 89 + 1 = 90 := ⟨by decide +kernel, rfl⟩
set_option maxRecDepth 20000 in
theorem dX2_together_90 : decode cX2_together 90 = .ok (.ifCond .ne 6, 3) ∧ 90 + 3 = 93 ∧ ((90 : Nat) : Int) + (6) = ((96 : Nat) : Int) := ⟨by decide +kernel, rfl, by decide⟩
set_option maxRecDepth 20000 in
theorem dX2_together_93 : decode cX2_together 93 = .ok (.iinc 4 1, 3) ∧ 93 + 3 = 96 := ⟨by decide +kernel, rfl⟩
set_option maxRecDepth 20000 in
theorem dX2_together_96 : decode cX2_together 96 = .ok (.iinc 5 1, 3) ∧ 96 + 3 = 99 := ⟨by decide +kernel, rfl⟩
set_option maxRecDepth 20000 in
theorem dX2_together_99 : decode cX2_together 99 = .ok (.goto (-93), 3) ∧ ((99 : Nat) : Int) + (-93) = ((6 : Nat) : Int) := ⟨by decide +kernel, by decide⟩
set_option maxRecDepth 20000 in
theorem dX2_together_102 : decode cX2_together 102 = .ok (.iload 4, 2) ∧ 102 + 2 = 104 := ⟨by decide +kernel, rfl⟩
set_option maxRecDepth 20000 in
theorem dX2_together_104 : decode cX2_together 104 = .ok (.ireturn, 1) := by decide +kernel
set_option maxRecDepth 20000 in
theorem dX2_isAhead_0 : decode cX2_isAhead 0 = .ok (.aload_n 0, 1) ∧ 0 + 1 = 1 := ⟨by decide +kernel, rfl⟩
set_option maxRecDepth 20000 in
theorem dX2_isAhead_1 : decode cX2_isAhead 1 = .ok (.iload_n 1, 1) ∧ 1 + 1 = 2 := ⟨by decide +kernel, rfl⟩
set_option maxRecDepth 20000 in
theorem dX2_isAhead_2 : decode cX2_isAhead 2 = .ok (.iconst 0, 1) ∧ 2 + 1 = 3 := ⟨by decide +kernel, rfl⟩
set_option maxRecDepth 20000 in
theorem dX2_isAhead_3 : decode cX2_isAhead 3 = .ok (.iconst (-1), 1) ∧ 3 + 1 = 4 := ⟨by decide +kernel, rfl⟩
set_option maxRecDepth 20000 in
theorem dX2_isAhead_4 : decode cX2_isAhead 4 = .ok (.invokevirtual 40, 3) ∧ 4 + 3 = 7 := ⟨by decide +kernel, rfl⟩
set_option maxRecDepth 20000 in
theorem dX2_isAhead_7 : decode cX2_isAhead 7 = .ok (.iconst 1, 1) ∧ 7 + 1 = 8 := ⟨by decide +kernel, rfl⟩
set_option maxRecDepth 20000 in
theorem dX2_isAhead_8 : decode cX2_isAhead 8 = .ok (.iadd, 1) ∧ 8 + 1 = 9 := ⟨by decide +kernel, rfl⟩
set_option maxRecDepth 20000 in
theorem dX2_isAhead_9 : decode cX2_isAhead 9 = .ok (.istore_n 3, 1) ∧ 9 + 1 = 10 := ⟨by decide +kernel, rfl⟩
set_option maxRecDepth 20000 in
theorem dX2_isAhead_10 : decode cX2_isAhead 10 = .ok (.aload_n 0, 1) ∧ 10 + 1 = 11 := ⟨by decide +kernel, rfl⟩
set_option maxRecDepth 20000 in
theorem dX2_isAhead_11 : decode cX2_isAhead 11 = .ok (.iload_n 2, 1) ∧ 11 + 1 = 12 := ⟨by decide +kernel, rfl⟩
set_option maxRecDepth 20000 in
theorem dX2_isAhead_12 : decode cX2_isAhead 12 = .ok (.iconst 0, 1) ∧ 12 + 1 = 13 := ⟨by decide +kernel, rfl⟩
set_option maxRecDepth 20000 in
theorem dX2_isAhead_13 : decode cX2_isAhead 13 = .ok (.iconst (-1), 1) ∧ 13 + 1 = 14 := ⟨by decide +kernel, rfl⟩
set_option maxRecDepth 20000 in
theorem dX2_isAhead_14 : decode cX2_isAhead 14 = .ok (.invokevirtual 40, 3) ∧ 14 + 3 = 17 := ⟨by decide +kernel, rfl⟩
set_option maxRecDepth 20000 in
theorem dX2_isAhead_17 : decode cX2_isAhead 17 = .ok (.iconst 1, 1) ∧ 17 + 1 = 18 := ⟨by decide +kernel, rfl⟩
set_option maxRecDepth 20000 in
theorem dX2_isAhead_18 : decode cX2_isAhead 18 = .ok (.iadd, 1) ∧ 18 + 1 = 19 := ⟨by decide +kernel, rfl⟩
set_option maxRecDepth 20000 in
theorem dX2_isAhead_19 : decode cX2_isAhead 19 = .ok (.istore 4, 2) ∧ 19 + 2 = 21 := ⟨by decide +kernel, rfl⟩
set_option maxRecDepth 20000 in
theorem dX2_isAhead_21 : decode cX2_isAhead 21 = .ok (.iload_n 3, 1) ∧ 21 + 1 = 22 := ⟨by decide +kernel, rfl⟩
set_option maxRecDepth 20000 in
theorem dX2_isAhead_22 : decode cX2_isAhead 22 = .ok (.aload_n 0, 1) ∧ 22 + 1 = 23 := ⟨by decide +kernel, rfl⟩
set_option maxRecDepth 20000 in
theorem dX2_isAhead_23 : decode cX2_isAhead 23 = .ok (.iload_n 1, 1) ∧ 23 + 1 = 24 := ⟨by decide +kernel, rfl⟩
set_option maxRecDepth 20000 in
theorem dX2_isAhead_24 : decode cX2_isAhead 24 = .ok (.iconst 1, 1) ∧ 24 + 1 = 25 := ⟨by decide +kernel, rfl⟩
set_option maxRecDepth 20000 in
theorem dX2_isAhead_25 : decode cX2_isAhead 25 = .ok (.iconst (-1), 1) ∧ 25 + 1 = 26 := ⟨by decide +kernel, rfl⟩
set_option maxRecDepth 20000 in
theorem dX2_isAhead_26 : decode cX2_isAhead 26 = .ok (.invokevirtual 40, 3) ∧ 26 + 3 = 29 := ⟨by decide +kernel, rfl⟩
set_option maxRecDepth 20000 in
theorem dX2_isAhead_29 : decode cX2_isAhead 29 = .ok (.iadd, 1) ∧ 29 + 1 = 30 := ⟨by decide +kernel, rfl⟩
set_option maxRecDepth 20000 in
theorem dX2_isAhead_30 : decode cX2_isAhead 30 = .ok (.iconst 1, 1) ∧ 30 + 1 = 31 := ⟨by decide +kernel, rfl⟩
set_option maxRecDepth 20000 in
theorem dX2_isAhead_31 : decode cX2_isAhead 31 = .ok (.iadd, 1) ∧ 31 + 1 = 32 := ⟨by decide +kernel, rfl⟩
set_option maxRecDepth 20000 in
theorem dX2_isAhead_32 : decode cX2_isAhead 32 = .ok (.istore 5, 2) ∧ 32 + 2 = 34 := ⟨by decide +kernel, rfl⟩
set_option maxRecDepth 20000 in
theorem dX2_isAhead_34 : decode cX2_isAhead 34 = .ok (.iload 4, 2) ∧ 34 + 2 = 36 := ⟨by decide +kernel, rfl⟩
set_option maxRecDepth 20000 in
theorem dX2_isAhead_36 : decode cX2_isAhead 36 = .ok (.aload_n 0, 1) ∧ 36 + 1 = 37 := ⟨by decide +kernel, rfl⟩
set_option maxRecDepth 20000 in
theorem dX2_isAhead_37 : decode cX2_isAhead 37 = .ok (.iload_n 2, 1) ∧ 37 + 1 = 38 := ⟨by decide +kernel, rfl⟩
set_option maxRecDepth 20000 in
theorem dX2_isAhead_38 : decode cX2_isAhead 38 = .ok (.iconst 1, 1) ∧ 38 + 1 = 39 := ⟨by decide +kernel, rfl⟩
set_option maxRecDepth 20000 in
theorem dX2_isAhead_39 : decode cX2_isAhead 39 = .ok (.iconst (-1), 1) ∧ 39 + 1 = 40 := ⟨by decide +kernel, rfl⟩
set_option maxRecDepth 20000 in
theorem dX2_isAhead_40 : decode cX2_isAhead 40 = .ok (.invokevirtual 40, 3) ∧ 40 + 3 = 43 := ⟨by decide +kernel, rfl⟩
set_option maxRecDepth 20000 in
theorem dX2_isAhead_43 : decode cX2_isAhead 43 = .ok (.iadd, 1) ∧ 43 + 1 = 44 := ⟨by decide +kernel, rfl⟩
set_option maxRecDepth 20000 in
theorem dX2_isAhead_44 : decode cX2_isAhead 44 = .ok (.iconst 1, 1) ∧ 44 + 1 = 45 := ⟨by decide +kernel, rfl⟩
set_option maxRecDepth 20000 in
theorem dX2_isAhead_45 : decode cX2_isAhead 45 = .ok (.iadd, 1) ∧ 45 + 1 = 46 := ⟨by decide +kernel, rfl⟩
set_option maxRecDepth 20000 in
theorem dX2_isAhead_46 : decode cX2_isAhead 46 = .ok (.istore 6, 2) ∧ 46 + 2 = 48 := ⟨by decide +kernel, rfl⟩
set_option maxRecDepth 20000 in
theorem dX2_isAhead_48 : decode cX2_isAhead 48 = .ok (.iload_n 3, 1) ∧ 48 + 1 = 49 := ⟨by decide +kernel, rfl⟩
set_option maxRecDepth 20000 in
theorem dX2_isAhead_49 : decode cX2_isAhead 49 = .ok (.iload 6, 2) ∧ 49 + 2 = 51 := ⟨by decide +kernel, rfl⟩
set_option maxRecDepth 20000 in
theorem dX2_isAhead_51 : decode cX2_isAhead 51 = .ok (.imul, 1) ∧ 51 + 1 = 52 := ⟨by decide +kernel, rfl⟩
set_option maxRecDepth 20000 in
theorem dX2_isAhead_52 : decode cX2_isAhead 52 = .ok (.iload 4, 2) ∧ 52 + 2 = 54 := ⟨by decide +kernel, rfl⟩
set_option maxRecDepth 20000 in
theorem dX2_isAhead_54 : decode cX2_isAhead 54 = .ok (.iload 5, 2) ∧ 54 + 2 = 56 := ⟨by decide +kernel, rfl⟩
set_option maxRecDepth 20000 in
theorem dX2_isAhead_56 : decode cX2_isAhead 56 = .ok (.imul, 1) ∧ 56 + 1 = 57 := ⟨by decide +kernel, rfl⟩
set_option maxRecDepth 20000 in
theorem dX2_isAhead_57 : decode cX2_isAhead 57 = .ok (.isub, 1) ∧ 57 + 1 = 58 := ⟨by decide +kernel, rfl⟩
set_option maxRecDepth 20000 in
theorem dX2_isAhead_58 : decode cX2_isAhead 58 = .ok (.istore 7, 2) ∧ 58 + 2 = 60 := ⟨by decide +kernel, rfl⟩
set_option maxRecDepth 20000 in
theorem dX2_isAhead_60 : decode cX2_isAhead 60 = .ok (.iload 7, 2) ∧ 60 + 2 = 62 := ⟨by decide +kernel, rfl⟩
set_option maxRecDepth 20000 in
theorem dX2_isAhead_62 : decode cX2_isAhead 62 = .ok (.ifCond .gt 13, 3) ∧ 62 + 3 = 65 ∧ ((62 : Nat) : Int) + (13) = ((75 : Nat) : Int) := ⟨by decide +kernel, rfl, by decide⟩
set_option maxRecDepth 20000 in
theorem dX2_isAhead_65 : decode cX2_isAhead 65 = .ok (.iload 7, 2) ∧ 65 + 2 = 67 := ⟨by decide +kernel, rfl⟩
set_option maxRecDepth 20000 in
theorem dX2_isAhead_67 : decode cX2_isAhead 67 = .ok (.ifCond .ne 12, 3) ∧ 67 + 3 = 70 ∧ ((67 : Nat) : Int) + (12) = ((79 : Nat) : Int) := ⟨by decide +kernel, rfl, by decide⟩
set_option maxRecDepth 20000 in
theorem dX2_isAhead_70 : decode cX2_isAhead 70 = .ok (.iload_n 1, 1) ∧ 70 + 1 = 71 := ⟨by decide +kernel, rfl⟩
set_option maxRecDepth 20000 in
theorem dX2_isAhead_71 : decode cX2_isAhead 71 = .ok (.iload_n 2, 1) ∧ 71 + 1 = 72 := ⟨by decide +kernel, rfl⟩
set_option maxRecDepth 20000 in
theorem dX2_isAhead_72 : decode cX2_isAhead 72 = .ok (.if_icmp .ge 7, 3) ∧ 72 + 3 = 75 ∧ ((72 : Nat) : Int) + (7) = ((79 : Nat) : Int) := ⟨by decide +kernel, rfl, by decide⟩
set_option maxRecDepth 20000 in
theorem dX2_isAhead_75 : decode cX2_isAhead 75 = .ok (.iconst 1, 1) ∧ 75 + 1 = 76 := ⟨by decide +kernel, rfl⟩
set_option maxRecDepth 20000 in
theorem dX2_isAhead_76 : decode cX2_isAhead 76 = .ok (.goto 4, 3) ∧ ((76 : Nat) : Int) + (4) = ((80 : Nat) : Int) := ⟨by decide +kernel, by decide⟩
set_option maxRecDepth 20000 in
theorem dX2_isAhead_79 : decode cX2_isAhead 79 = .ok (.iconst 0, 1) ∧ 79 + 1 = 80 := ⟨by decide +kernel, rfl⟩
set_option maxRecDepth 20000 in
theorem dX2_isAhead_80 : decode cX2_isAhead 80 = .ok (.ireturn, 1) := by decide +kernel
set_option maxRecDepth 20000 in
theorem dX3_init_0 : decode cX3_init 0 = .ok (.aload_n 0, 1) ∧ 0 + 1 = 1 := ⟨by decide +kernel, rfl⟩
set_option maxRecDepth 20000 in
theorem dX3_init_1 : decode cX3_init 1 = .ok (.invokespecial 3, 3) ∧ 1 + 3 = 4 := ⟨by decide +kernel, rfl⟩
set_option maxRecDepth 20000 in
theorem dX3_init_4 : decode cX3_init 4 = .ok (.aload_n 0, 1) ∧ 4 + 1 = 5 := ⟨by decide +kernel, rfl⟩
set_option maxRecDepth 20000 in
theorem dX3_init_5 : decode cX3_init 5 = .ok (.lconst 1, 1) ∧ 5 + 1 = 6 := ⟨by decide +kernel, rfl⟩
set_option maxRecDepth 20000 in
theorem dX3_init_6 : decode cX3_init 6 = .ok (.putfield 9, 3) ∧ 6 + 3 = 9 := ⟨by decide +kernel, rfl⟩
set_option maxRecDepth 20000 in
theorem dX3_init_9 : decode cX3_init 9 = .ok (.return_, 1) := by decide +kernel
set_option maxRecDepth 20000 in
theorem dX3_weigh_0 : decode cX3_weigh 0 = .ok (.aload_n 1, 1) ∧ 0 + 1 = 1 := ⟨by decide +kernel, rfl⟩
set_option maxRecDepth 20000 in
theorem dX3_weigh_1 : decode cX3_weigh 1 = .ok (.getfield 15, 3) ∧ 1 + 3 = 4 := ⟨by decide +kernel, rfl⟩
set_option maxRecDepth 20000 in
theorem dX3_weigh_4 : decode cX3_weigh 4 = .ok (.iconst 5, 1) ∧ 4 + 1 = 5 := ⟨by decide +kernel, rfl⟩
set_option maxRecDepth 20000 in
theorem dX3_weigh_5 : decode cX3_weigh 5 = .ok (.iaload, 1) ∧ 5 + 1 = 6 := ⟨by decide +kernel, rfl⟩
set_option maxRecDepth 20000 in
theorem dX3_weigh_6 : decode cX3_weigh 6 = .ok (.i2l, 1) ∧ 6 + 1 = 7 := ⟨by decide +kernel, rfl⟩
set_option maxRecDepth 20000 in
theorem dX3_weigh_7 : decode cX3_weigh 7 = .ok (.lstore 5, 2) ∧ 7 + 2 = 9 := ⟨by decide +kernel, rfl⟩
set_option maxRecDepth 20000 in
theorem dX3_weigh_9 : decode cX3_weigh 9 = .ok (.ldc2_w 21, 3) ∧ 9 + 3 = 12 := ⟨by decide +kernel, rfl⟩
set_option maxRecDepth 20000 in
theorem dX3_weigh_12 : decode cX3_weigh 12 = .ok (.lload 5, 2) ∧ 12 + 2 = 14 := ⟨by decide +kernel, rfl⟩
set_option maxRecDepth 20000 in
theorem dX3_weigh_14 : decode cX3_weigh 14 = .ok (.lsub, 1) ∧ 14 + 1 = 15 := ⟨by decide +kernel, rfl⟩
set_option maxRecDepth 20000 in
theorem dX3_weigh_15 : decode cX3_weigh 15 = .ok (.lstore 7, 2) ∧ 15 + 2 = 17 := ⟨by decide +kernel, rfl⟩
set_option maxRecDepth 20000 in
theorem dX3_weigh_17 : decode cX3_weigh 17 = .ok (.iconst 0, 1) ∧ 17 + 1 = 18 := ⟨by decide +kernel, rfl⟩
set_option maxRecDepth 20000 in
theorem dX3_weigh_18 : decode cX3_weigh 18 = .ok (.istore 9, 2) ∧ 18 + 2 = 20 := ⟨by decide +kernel, rfl⟩
set_option maxRecDepth 20000 in
theorem dX3_weigh_20 : decode cX3_weigh 20 = .ok (.iload 9, 2) ∧ 20 + 2 = 22 := ⟨by decide +kernel, rfl⟩
set_option maxRecDepth 20000 in
theorem dX3_weigh_22 : decode cX3_weigh 22 = .ok (.bipush 8, 2) ∧ 22 + 2 = 24 := ⟨by decide +kernel, rfl⟩
set_option maxRecDepth 20000 in
theorem dX3_weigh_24 : decode cX3_weigh 24 = .ok (.if_icmp .ge 106, 3) ∧ 24 + 3 = 27 ∧ ((24 : Nat) : Int) + (106) = ((130 : Nat) : Int) := ⟨by decide +kernel, rfl, by decide⟩
set_option maxRecDepth 20000 in
theorem dX3_weigh_27 : decode cX3_weigh 27 = .ok (.iload_n 2, 1) ∧ 27 + 1 = 28 := ⟨by decide +kernel, rfl⟩
set_option maxRecDepth 20000 in
theorem dX3_weigh_28 : decode cX3_weigh 28 = .ok (.iload 9, 2) ∧ 28 + 2 = 30 := ⟨by decide +kernel, rfl⟩
set_option maxRecDepth 20000 in
theorem dX3_weigh_30 : decode cX3_weigh 30 = .ok (.ishr, 1) ∧ 30 + 1 = 31 := ⟨by decide +kernel, rfl⟩
set_option maxRecDepth 20000 in
theorem dX3_weigh_31 : decode cX3_weigh 31 = .ok (.iconst 1, 1) ∧ 31 + 1 = 32 := ⟨by decide +kernel, rfl⟩
set_option maxRecDepth 20000 in
theorem dX3_weigh_32 : decode cX3_weigh 32 = .ok (.iand, 1) ∧ 32 + 1 = 33 := ⟨by decide +kernel, rfl⟩
set_option maxRecDepth 20000 in
theorem dX3_weigh_33 : decode cX3_weigh 33 = .ok (.iconst 1, 1) ∧ 33 + 1 = 34 := ⟨by decide +kernel, rfl⟩
set_option maxRecDepth 20000 in
theorem dX3_weigh_34 : decode cX3_weigh 34 = .ok (.if_icmp .ne 90, 3) ∧ 34 + 3 = 37 ∧ ((34 : Nat) : Int) + (90) = ((124 : Nat) : Int) := ⟨by decide +kernel, rfl, by decide⟩
set_option maxRecDepth 20000 in
theorem dX3_weigh_37 : decode cX3_weigh 37 = .ok (.aload_n 1, 1) ∧ 37 + 1 = 38 := ⟨by decide +kernel, rfl⟩
set_option maxRecDepth 20000 in
theorem dX3_weigh_38 : decode cX3_weigh 38 = .ok (.getfield 23, 3) ∧ 38 + 3 = 41 := ⟨by decide +kernel, rfl⟩
set_option maxRecDepth 20000 in
theorem dX3_weigh_41 : decode cX3_weigh 41 = .ok (.iload 9, 2) ∧ 41 + 2 = 43 := ⟨by decide +kernel, rfl⟩
set_option maxRecDepth 20000 in
theorem dX3_weigh_43 : decode cX3_weigh 43 = .ok (.iconst 0, 1) ∧ 43 + 1 = 44 := ⟨by decide +kernel, rfl⟩
set_option maxRecDepth 20000 in
theorem dX3_weigh_44 : decode cX3_weigh 44 = .ok (.iload 4, 2) ∧ 44 + 2 = 46 := ⟨by decide +kernel, rfl⟩
set_option maxRecDepth 20000 in
theorem dX3_weigh_46 : decode cX3_weigh 46 = .ok (.invokevirtual 27, 3) ∧ 46 + 3 = 49 := ⟨by decide +kernel, rfl⟩
set_option maxRecDepth 20000 in
theorem dX3_weigh_49 : decode cX3_weigh 49 = .ok (.iconst 1, 1) ∧ 49 + 1 = 50 := ⟨by decide +kernel, rfl⟩
set_option maxRecDepth 20000 in
theorem dX3_weigh_50 : decode cX3_weigh 50 = .ok (.iadd, 1) ∧ 50 + 1 = 51 := ⟨by decide +kernel, rfl⟩
set_option maxRecDepth 20000 in
theorem dX3_weigh_51 : decode cX3_weigh 51 = .ok (.istore 10, 2) ∧ 51 + 2 = 53 := ⟨by decide +kernel, rfl⟩
set_option maxRecDepth 20000 in
theorem dX3_weigh_53 : decode cX3_weigh 53 = .ok (.aload_n 1, 1) ∧ 53 + 1 = 54 := ⟨by decide +kernel, rfl⟩
set_option maxRecDepth 20000 in
theorem dX3_weigh_54 : decode cX3_weigh 54 = .ok (.getfield 23, 3) ∧ 54 + 3 = 57 := ⟨by decide +kernel, rfl⟩
set_option maxRecDepth 20000 in
theorem dX3_weigh_57 : decode cX3_weigh 57 = .ok (.iload 9, 2) ∧ 57 + 2 = 59 := ⟨by decide +kernel, rfl⟩
set_option maxRecDepth 20000 in
theorem dX3_weigh_59 : decode cX3_weigh 59 = .ok (.iconst 1, 1) ∧ 59 + 1 = 60 := ⟨by decide +kernel, rfl⟩
set_option maxRecDepth 20000 in
theorem dX3_weigh_60 : decode cX3_weigh 60 = .ok (.iload 4, 2) ∧ 60 + 2 = 62 := ⟨by decide +kernel, rfl⟩
set_option maxRecDepth 20000 in
theorem dX3_weigh_62 : decode cX3_weigh 62 = .ok (.invokevirtual 27, 3) ∧ 62 + 3 = 65 := ⟨by decide +kernel, rfl⟩
set_option maxRecDepth 20000 in
theorem dX3_weigh_65 : decode cX3_weigh 65 = .ok (.iconst 1, 1) ∧ 65 + 1 = 66 := ⟨by decide +kernel, rfl⟩
set_option maxRecDepth 20000 in
theorem dX3_weigh_66 : decode cX3_weigh 66 = .ok (.iadd, 1) ∧ 66 + 1 = 67 := ⟨by decide +kernel, rfl⟩
set_option maxRecDepth 20000 in
theorem dX3_weigh_67 : decode cX3_weigh 67 = .ok (.istore 11, 2) ∧ 67 + 2 = 69 := ⟨by decide +kernel, rfl⟩
set_option maxRecDepth 20000 in
theorem dX3_weigh_69 : decode cX3_weigh 69 = .ok (.iload_n 3, 1) ∧ 69 + 1 = 70 := ⟨by decide +kernel, rfl⟩
set_option maxRecDepth 20000 in
theorem dX3_weigh_70 : decode cX3_weigh 70 = .ok (.iload 9, 2) ∧ 70 + 2 = 72 := ⟨by decide +kernel, rfl⟩
set_option maxRecDepth 20000 in
theorem dX3_weigh_72 : decode cX3_weigh 72 = .ok (.ishr, 1) ∧ 72 + 1 = 73 := ⟨by decide +kernel, rfl⟩
set_option maxRecDepth 20000 in
theorem dX3_weigh_73 : decode cX3_weigh 73 = .ok (.iconst 1, 1) ∧ 73 + 1 = 74 := ⟨by decide +kernel, rfl⟩
set_option maxRecDepth 20000 in
theorem dX3_weigh_74 : decode cX3_weigh 74 = .ok (.iand, 1) ∧ 74 + 1 = 75 := ⟨by decide +kernel, rfl⟩
set_option maxRecDepth 20000 in
theorem dX3_weigh_75 : decode cX3_weigh 75 = .ok (.iconst 1, 1) ∧ 75 + 1 = 76 := ⟨by decide +kernel, rfl⟩
set_option maxRecDepth 20000 in
theorem dX3_weigh_76 : decode cX3_weigh 76 = .ok (.if_icmp .ne 7, 3) ∧ 76 + 3 = 79 ∧ ((76 : Nat) : Int) + (7) = ((83 : Nat) : Int) := ⟨by decide +kernel, rfl, by decide⟩
set_option maxRecDepth 20000 in
theorem dX3_weigh_79 : decode cX3_weigh 79 = .ok (.iconst 1, 1) ∧ 79 + 1 = 80 := ⟨by decide +kernel, rfl⟩
set_option maxRecDepth 20000 in
theorem dX3_weigh_80 : decode cX3_weigh 80 = .ok (.goto 4, 3) ∧ ((80 : Nat) : Int) + (4) = ((84 : Nat) : Int) := ⟨by decide +kernel, by decide⟩
set_option maxRecDepth 20000 in
theorem dX3_weigh_83 : decode cX3_weigh 83 = .ok (.iconst 0, 1) ∧ 83 + 1 = 84 := ⟨by decide +kernel, rfl⟩
set_option maxRecDepth 20000 in
theorem dX3_weigh_84 : decode cX3_weigh 84 = .ok (.istore 12, 2) ∧ 84 + 2 = 86 := ⟨by decide +kernel, rfl⟩
set_option maxRecDepth 20000 in
theorem dX3_weigh_86 : decode cX3_weigh 86 = .ok (.lload 5, 2) ∧ 86 + 2 = 88 := ⟨by decide +kernel, rfl⟩
set_option maxRecDepth 20000 in
theorem dX3_weigh_88 : decode cX3_weigh 88 = .ok (.iload 12, 2) ∧ 88 + 2 = 90 := ⟨by decide +kernel, rfl⟩
set_option maxRecDepth 20000 in
theorem dX3_weigh_90 : decode cX3_weigh 90 = .ok (.ifCond .eq 9, 3) ∧ 90 + 3 = 93 ∧ ((90 : Nat) : Int) + (9) = ((99 : Nat) : Int) := ⟨by decide +kernel, rfl, by decide⟩
set_option maxRecDepth 20000 in
theorem dX3_weigh_93 : decode cX3_weigh 93 = .ok (.iload 10, 2) ∧ 93 + 2 = 95 := ⟨by decide +kernel, rfl⟩
set_option maxRecDepth 20000 in
theorem dX3_weigh_95 : decode cX3_weigh 95 = .ok (.i2l, 1) ∧ 95 + 1 = 96 := ⟨by decide +kernel, rfl⟩
set_option maxRecDepth 20000 in
theorem dX3_weigh_96 : decode cX3_weigh 96 = .ok (.goto 6, 3) ∧ ((96 : Nat) : Int) + (6) = ((102 : Nat) : Int) := ⟨by decide +kernel, by decide⟩
set_option maxRecDepth 20000 in
theorem dX3_weigh_99 : decode cX3_weigh 99 = .ok (.iload 11, 2) ∧ 99 + 2 = 101 := ⟨by decide +kernel, rfl⟩
set_option maxRecDepth 20000 in
theorem dX3_weigh_101 : decode cX3_weigh 101 = .ok (.i2l, 1) ∧ 101 + 1 = 102 := ⟨by decide +kernel, rfl⟩
set_option maxRecDepth 20000 in
theorem dX3_weigh_102 : decode cX3_weigh 102 = .ok (.lmul, 1) ∧ 102 + 1 = 103 := ⟨by decide +kernel, rfl⟩
set_option maxRecDepth 20000 in
theorem dX3_weigh_103 : decode cX3_weigh 103 = .ok (.lstore 5, 2) ∧ 103 + 2 = 105 := ⟨by decide +kernel, rfl⟩
set_option maxRecDepth 20000 in
theorem dX3_weigh_105 : decode cX3_weigh 105 = .ok (.lload 7, 2) ∧ 105 + 2 = 107 := ⟨by decide +kernel, rfl⟩
set_option maxRecDepth 20000 in
theorem dX3_weigh_107 : decode cX3_weigh 107 = .ok (.iload 12, 2) ∧ 107 + 2 = 109 := ⟨by decide +kernel, rfl⟩
set_option maxRecDepth 20000 in
theorem dX3_weigh_109 : decode cX3_weigh 109 = .ok (.ifCond .eq 9, 3) ∧ 109 + 3 = 112 ∧ ((109 : Nat) : Int) + (9) = ((118 : Nat) : Int) := ⟨by decide +kernel, rfl, by decide⟩
set_option maxRecDepth 20000 in
theorem dX3_weigh_112 : decode cX3_weigh 112 = .ok (.iload 11, 2) ∧ 112 + 2 = 114 := ⟨by decide +kernel, rfl⟩
set_option maxRecDepth 20000 in
theorem dX3_weigh_114 : decode cX3_weigh 114 = .ok (.i2l, 1) ∧ 114 + 1 = 115 := ⟨by decide +kernel, rfl⟩
set_option maxRecDepth 20000 in
theorem dX3_weigh_115 : decode cX3_weigh 115 = .ok (.goto 6, 3) ∧ ((115 : Nat) : Int) + (6) = ((121 : Nat) : Int) := ⟨by decide +kernel, by decide⟩
set_option maxRecDepth 20000 in
theorem dX3_weigh_118 : decode cX3_weigh 118 = .ok (.iload 10, 2) ∧ 118 + 2 = 120 := ⟨by decide +kernel, rfl⟩
set_option maxRecDepth 20000 in
theorem dX3_weigh_120 : decode cX3_weigh 120 = .ok (.i2l, 1) ∧ 120 + 1 = 121 := ⟨by decide +kernel, rfl⟩
set_option maxRecDepth 20000 in
theorem dX3_weigh_121 : decode cX3_weigh 121 = .ok (.lmul, 1) ∧ 121 + 1 = 122 := ⟨by decide +kernel, rfl⟩
set_option maxRecDepth 20000 in
theorem dX3_weigh_122 : decode cX3_weigh 122 = .ok (.lstore 7, 2) ∧ 122 + 2 = 124 := ⟨by decide +kernel, rfl⟩
set_option maxRecDepth 20000 in
theorem dX3_weigh_124 : decode cX3_weigh 124 = .ok (.iinc 9 1, 3) ∧ 124 + 3 = 127 := ⟨by decide +kernel, rfl⟩
set_option maxRecDepth 20000 in
theorem dX3_weigh_127 : decode cX3_weigh 127 = .ok (.goto (-107), 3) ∧ ((127 : Nat) : Int) + (-107) = ((20 : Nat) : Int) := ⟨by decide +kernel, by decide⟩
set_option maxRecDepth 20000 in
theorem dX3_weigh_130 : decode cX3_weigh 130 = .ok (.lconst 1, 1) ∧ 130 + 1 = 131 := ⟨by decide +kernel, rfl⟩
set_option maxRecDepth 20000 in
theorem dX3_weigh_131 : decode cX3_weigh 131 = .ok (.lload 5, 2) ∧ 131 + 2 = 133 := ⟨by decide +kernel, rfl⟩
set_option maxRecDepth 20000 in
theorem dX3_weigh_133 : decode cX3_weigh 133 = .ok (.lload 5, 2) ∧ 133 + 2 = 135 := ⟨by decide +kernel, rfl⟩
set_option maxRecDepth 20000 in
theorem dX3_weigh_135 : decode cX3_weigh 135 = .ok (.lload 7, 2) ∧ 135 + 2 = 137 := ⟨by decide +kernel, rfl⟩
set_option maxRecDepth 20000 in
theorem dX3_weigh_137 : decode cX3_weigh 137 = .ok (.ladd, 1) ∧ 137 + 1 = 138 := ⟨by decide +kernel, rfl⟩
set_option maxRecDepth 20000 in
theorem dX3_weigh_138 : decode cX3_weigh 138 = .ok (.invokestatic 33, 3) ∧ 138 + 3 = 141 := ⟨by decide +kernel, rfl⟩
set_option maxRecDepth 20000 in
theorem dX3_weigh_141 : decode cX3_weigh 141 = .ok (.invokestatic 37, 3) ∧ 141 + 3 = 144 := ⟨by decide +kernel, rfl⟩
set_option maxRecDepth 20000 in
theorem dX3_weigh_144 : decode cX3_weigh 144 = .ok (.lstore 9, 2) ∧ 144 + 2 = 146 := ⟨by decide +kernel, rfl⟩
set_option maxRecDepth 20000 in
theorem dX3_weigh_146 : decode cX3_weigh 146 = .ok (.aload_n 0, 1) ∧ 146 + 1 = 147 := ⟨by decide +kernel, rfl⟩
set_option maxRecDepth 20000 in
theorem dX3_weigh_147 : decode cX3_weigh 147 = .ok (.lload 5, 2) ∧ 147 + 2 = 149 := ⟨by decide +kernel, rfl⟩
set_option maxRecDepth 20000 in
theorem dX3_weigh_149 : decode cX3_weigh 149 = .ok (.lload 9, 2) ∧ 149 + 2 = 151 := ⟨by decide +kernel, rfl⟩
set_option maxRecDepth 20000 in
theorem dX3_weigh_151 : decode cX3_weigh 151 = .ok (.ldiv, 1) ∧ 151 + 1 = 152 := ⟨by decide +kernel, rfl⟩
set_option maxRecDepth 20000 in
theorem dX3_weigh_152 : decode cX3_weigh 152 = .ok (.putfield 42, 3) ∧ 152 + 3 = 155 := ⟨by decide +kernel, rfl⟩
set_option maxRecDepth 20000 in
theorem dX3_weigh_155 : decode cX3_weigh 155 = .ok (.aload_n 0, 1) ∧ 155 + 1 = 156 := ⟨by decide +kernel, rfl⟩
set_option maxRecDepth 20000 in
theorem dX3_weigh_156 : decode cX3_weigh 156 = .ok (.lload 5, 2) ∧ 156 + 2 = 158 := ⟨by decide +kernel, rfl⟩
set_option maxRecDepth 20000 in
theorem dX3_weigh_158 : decode cX3_weigh 158 = .ok (.lload 7, 2) ∧ 158 + 2 = 160 := ⟨by decide +kernel, rfl⟩
set_option maxRecDepth 20000 in
theorem dX3_weigh_160 : decode cX3_weigh 160 = .ok (.ladd, 1) ∧ 160 + 1 = 161 := ⟨by decide +kernel, rfl⟩
set_option maxRecDepth 20000 in
theorem dX3_weigh_161 : decode cX3_weigh 161 = .ok (.lload 9, 2) ∧ 161 + 2 = 163 := ⟨by decide +kernel, rfl⟩
set_option maxRecDepth 20000 in
theorem dX3_weigh_163 : decode cX3_weigh 163 = .ok (.ldiv, 1) ∧ 163 + 1 = 164 := ⟨by decide +kernel, rfl⟩
set_option maxRecDepth 20000 in
theorem dX3_weigh_164 : decode cX3_weigh 164 = .ok (.putfield 9, 3) ∧ 164 + 3 = 167 := ⟨by decide +kernel, rfl⟩
set_option maxRecDepth 20000 in
theorem dX3_weigh_167 : decode cX3_weigh 167 = .ok (.return_, 1) := by decide +kernel
set_option maxRecDepth 20000 in
theorem dX3_commonDivisor_0 : decode cX3_commonDivisor 0 = .ok (.lload_n 0, 1) ∧ 0 + 1 = 1 := ⟨by decide +kernel, rfl⟩
set_option maxRecDepth 20000 in
theorem dX3_commonDivisor_1 : decode cX3_commonDivisor 1 = .ok (.lstore 4, 2) ∧ 1 + 2 = 3 := ⟨by decide +kernel, rfl⟩
set_option maxRecDepth 20000 in
theorem dX3_commonDivisor_3 : decode cX3_commonDivisor 3 = .ok (.lload_n 2, 1) ∧ 3 + 1 = 4 := ⟨by decide +kernel, rfl⟩
set_option maxRecDepth 20000 in
theorem dX3_commonDivisor_4 : decode cX3_commonDivisor 4 = .ok (.lstore 6, 2) ∧ 4 + 2 = 6 := ⟨by decide +kernel, rfl⟩
set_option maxRecDepth 20000 in
theorem dX3_commonDivisor_6 : decode cX3_commonDivisor 6 = .ok (.iconst 0, 1) ∧ 6 + 1 = 7 := ⟨by decide +kernel, rfl⟩
set_option maxRecDepth 20000 in
theorem dX3_commonDivisor_7 : decode cX3_commonDivisor 7 = .ok (.istore 8, 2) ∧ 7 + 2 = 9 := ⟨by decide +kernel, rfl⟩
set_option maxRecDepth 20000 in
theorem dX3_commonDivisor_9 : decode cX3_commonDivisor 9 = .ok (.iload 8, 2) ∧ 9 + 2 = 11 := ⟨by decide +kernel, rfl⟩
set_option maxRecDepth 20000 in
theorem dX3_commonDivisor_11 : decode cX3_commonDivisor 11 = .ok (.sipush 1000, 3) ∧ 11 + 3 = 14 := ⟨by decide +kernel, rfl⟩
set_option maxRecDepth 20000 in
theorem dX3_commonDivisor_14 : decode cX3_commonDivisor 14 = .ok (.if_icmp .ge 31, 3) ∧ 14 + 3 = 17 ∧ ((14 : Nat) : Int) + (31) = ((45 : Nat) : Int) := ⟨by decide +kernel, rfl, by decide⟩
set_option maxRecDepth 20000 in
theorem dX3_commonDivisor_17 : decode cX3_commonDivisor 17 = .ok (.lload 6, 2) ∧ 17 + 2 = 19 := ⟨by decide +kernel, rfl⟩
set_option maxRecDepth 20000 in
theorem dX3_commonDivisor_19 : decode cX3_commonDivisor 19 = .ok (.lconst 0, 1) ∧ 19 + 1 = 20 := ⟨by decide +kernel, rfl⟩
set_option maxRecDepth 20000 in
theorem dX3_commonDivisor_20 : decode cX3_commonDivisor 20 = .ok (.lcmp, 1) ∧ 20 + 1 = 21 := ⟨by decide +kernel, rfl⟩
set_option maxRecDepth 20000 in
theorem dX3_commonDivisor_21 : decode cX3_commonDivisor 21 = .ok (.ifCond .eq 24, 3) ∧ 21 + 3 = 24 ∧ ((21 : Nat) : Int) + (24) = ((45 : Nat) : Int) := ⟨by decide +kernel, rfl, by decide⟩
set_option maxRecDepth 20000 in
theorem dX3_commonDivisor_24 : decode cX3_commonDivisor 24 = .ok (.lload 4, 2) ∧ 24 + 2 = 26 := ⟨by decide +kernel, rfl⟩
set_option maxRecDepth 20000 in
theorem dX3_commonDivisor_26 : decode cX3_commonDivisor 26 = .ok (.lload 6, 2) ∧ 26 + 2 = 28 := ⟨by decide +kernel, rfl⟩
set_option maxRecDepth 20000 in
theorem dX3_commonDivisor_28 : decode cX3_commonDivisor 28 = .ok (.lrem, 1) ∧ 28 + 1 = 29 := ⟨by decide +kernel, rfl⟩
set_option maxRecDepth 20000 in
theorem dX3_commonDivisor_29 : decode cX3_commonDivisor 29 = .ok (.lstore 9, 2) ∧ 29 + 2 = 31 := ⟨by decide +kernel, rfl⟩
set_option maxRecDepth 20000 in
theorem dX3_commonDivisor_31 : decode cX3_commonDivisor 31 = .ok (.lload 6, 2) ∧ 31 + 2 = 33 := ⟨by decide +kernel, rfl⟩
set_option maxRecDepth 20000 in
theorem dX3_commonDivisor_33 : decode cX3_commonDivisor 33 = .ok (.lstore 4, 2) ∧ 33 + 2 = 35 := ⟨by decide +kernel, rfl⟩
set_option maxRecDepth 20000 in
theorem dX3_commonDivisor_35 : decode cX3_commonDivisor 35 = .ok (.lload 9, 2) ∧ 35 + 2 = 37 := ⟨by decide +kernel, rfl⟩
set_option maxRecDepth 20000 in
theorem dX3_commonDivisor_37 : decode cX3_commonDivisor 37 = .ok (.lstore 6, 2) ∧ 37 + 2 = 39 := ⟨by decide +kernel, rfl⟩
set_option maxRecDepth 20000 in
theorem dX3_commonDivisor_39 : decode cX3_commonDivisor 39 = .ok (.iinc 8 1, 3) ∧ 39 + 3 = 42 := ⟨by decide +kernel, rfl⟩
set_option maxRecDepth 20000 in
theorem dX3_commonDivisor_42 : decode cX3_commonDivisor 42 = .ok (.goto (-33), 3) ∧ ((42 : Nat) : Int) + (-33) = ((9 : Nat) : Int) := ⟨by decide +kernel, by decide⟩
set_option maxRecDepth 20000 in
theorem dX3_commonDivisor_45 : decode cX3_commonDivisor 45 = .ok (.lload 4, 2) ∧ 45 + 2 = 47 := ⟨by decide +kernel, rfl⟩
set_option maxRecDepth 20000 in
theorem dX3_commonDivisor_47 : decode cX3_commonDivisor 47 = .ok (.lreturn, 1) := by decide +kernel
set_option maxRecDepth 20000 in
theorem dX4_init_0 : decode cX4_init 0 = .ok (.aload_n 0, 1) ∧ 0 + 1 = 1 := ⟨by decide +kernel, rfl⟩
set_option maxRecDepth 20000 in
theorem dX4_init_1 : decode cX4_init 1 = .ok (.invokespecial 1, 3) ∧ 1 + 3 = 4 := ⟨by decide +kernel, rfl⟩
set_option maxRecDepth 20000 in
theorem dX4_init_4 : decode cX4_init 4 = .ok (.aload_n 0, 1) ∧ 4 + 1 = 5 := ⟨by decide +kernel, rfl⟩
set_option maxRecDepth 20000 in
theorem dX4_init_5 : decode cX4_init 5 = .ok (.bipush 48, 2) ∧ 5 + 2 = 7 := ⟨by decide +kernel, rfl⟩
set_option maxRecDepth 20000 in
theorem dX4_init_7 : decode cX4_init 7 = .ok (.newarray .long, 2) ∧ 7 + 2 = 9 := ⟨by decide +kernel, rfl⟩
set_option maxRecDepth 20000 in
theorem dX4_init_9 : decode cX4_init 9 = .ok (.putfield 9, 3) ∧ 9 + 3 = 12 := ⟨by decide +kernel, rfl⟩
set_option maxRecDepth 20000 in
theorem dX4_init_12 : decode cX4_init 12 = .ok (.return_, 1) := by decide +kernel
set_option maxRecDepth 20000 in
theorem dX4_become_0 : decode cX4_become 0 = .ok (.lload_n 1, 1) ∧ 0 + 1 = 1 := ⟨by decide +kernel, rfl⟩
set_option maxRecDepth 20000 in
theorem dX4_become_1 : decode cX4_become 1 = .ok (.lstore_n 3, 1) ∧ 1 + 1 = 2 := ⟨by decide +kernel, rfl⟩
set_option maxRecDepth 20000 in
theorem dX4_become_2 : decode cX4_become 2 = .ok (.iconst 0, 1) ∧ 2 + 1 = 3 := ⟨by decide +kernel, rfl⟩
set_option maxRecDepth 20000 in
theorem dX4_become_3 : decode cX4_become 3 = .ok (.istore 5, 2) ∧ 3 + 2 = 5 := ⟨by decide +kernel, rfl⟩
set_option maxRecDepth 20000 in
theorem dX4_become_5 : decode cX4_become 5 = .ok (.iload 5, 2) ∧ 5 + 2 = 7 := ⟨by decide +kernel, rfl⟩
set_option maxRecDepth 20000 in
theorem dX4_become_7 : decode cX4_become 7 = .ok (.bipush 48, 2) ∧ 7 + 2 = 9 := ⟨by decide +kernel, rfl⟩
set_option maxRecDepth 20000 in
theorem dX4_become_9 : decode cX4_become 9 = .ok (.if_icmp .ge 27, 3) ∧ 9 + 3 = 12 ∧ ((9 : Nat) : Int) + (27) = ((36 : Nat) : Int) := ⟨by decide +kernel, rfl, by decide⟩
set_option maxRecDepth 20000 in
theorem dX4_become_12 : decode cX4_become 12 = .ok (.aload_n 0, 1) ∧ 12 + 1 = 13 := ⟨by decide +kernel, rfl⟩
set_option maxRecDepth 20000 in
theorem dX4_become_13 : decode cX4_become 13 = .ok (.getfield 9, 3) ∧ 13 + 3 = 16 := ⟨by decide +kernel, rfl⟩
set_option maxRecDepth 20000 in
theorem dX4_become_16 : decode cX4_become 16 = .ok (.iload 5, 2) ∧ 16 + 2 = 18 := ⟨by decide +kernel, rfl⟩
set_option maxRecDepth 20000 in
theorem dX4_become_18 : decode cX4_become 18 = .ok (.lload_n 3, 1) ∧ 18 + 1 = 19 := ⟨by decide +kernel, rfl⟩
set_option maxRecDepth 20000 in
theorem dX4_become_19 : decode cX4_become 19 = .ok (.ldc2_w 13, 3) ∧ 19 + 3 = 22 := ⟨by decide +kernel, rfl⟩
set_option maxRecDepth 20000 in
theorem dX4_become_22 : decode cX4_become 22 = .ok (.lrem, 1) ∧ 22 + 1 = 23 := ⟨by decide +kernel, rfl⟩
set_option maxRecDepth 20000 in
theorem dX4_become_23 : decode cX4_become 23 = .ok (.lastore, 1) ∧ 23 + 1 = 24 := ⟨by decide +kernel, rfl⟩
set_option maxRecDepth 20000 in
theorem dX4_become_24 : decode cX4_become 24 = .ok (.lload_n 3, 1) ∧ 24 + 1 = 25 := ⟨by decide +kernel, rfl⟩
set_option maxRecDepth 20000 in
theorem dX4_become_25 : decode cX4_become 25 = .ok (.ldc2_w 13, 3) ∧ 25 + 3 = 28 := ⟨by decide +kernel, rfl⟩
set_option maxRecDepth 20000 in
theorem dX4_become_28 : decode cX4_become 28 = .ok (.ldiv, 1) ∧ 28 + 1 = 29 := ⟨by decide +kernel, rfl⟩
set_option maxRecDepth 20000 in
theorem dX4_become_29 : decode cX4_become 29 = .ok (.lstore_n 3, 1) ∧ 29 + 1 = 30 := ⟨by decide +kernel, rfl⟩
set_option maxRecDepth 20000 in
theorem dX4_become_30 : decode cX4_become 30 = .ok (.iinc 5 1, 3) ∧ 30 + 3 = 33 := ⟨by decide +kernel, rfl⟩
set_option maxRecDepth 20000 in
theorem dX4_become_33 : decode cX4_become 33 = .ok (.goto (-28), 3) ∧ ((33 : Nat) : Int) + (-28) = ((5 : Nat) : Int) := ⟨by decide +kernel, by decide⟩
set_option maxRecDepth 20000 in
theorem dX4_become_36 : decode cX4_become 36 = .ok (.return_, 1) := by decide +kernel
set_option maxRecDepth 20000 in
theorem dX4_multiply_0 : decode cX4_multiply 0 = .ok (.lconst 0, 1) ∧ 0 + 1 = 1 := ⟨by decide +kernel, rfl⟩
set_option maxRecDepth 20000 in
theorem dX4_multiply_1 : decode cX4_multiply 1 = .ok (.lstore_n 3, 1) ∧ 1 + 1 = 2 := ⟨by decide +kernel, rfl⟩
set_option maxRecDepth 20000 in
theorem dX4_multiply_2 : decode cX4_multiply 2 = .ok (.iconst 0, 1) ∧ 2 + 1 = 3 := ⟨by decide +kernel, rfl⟩
set_option maxRecDepth 20000 in
theorem dX4_multiply_3 : decode cX4_multiply 3 = .ok (.istore 5, 2) ∧ 3 + 2 = 5 := ⟨by decide +kernel, rfl⟩
set_option maxRecDepth 20000 in
theorem dX4_multiply_5 : decode cX4_multiply 5 = .ok (.iload 5, 2) ∧ 5 + 2 = 7 := ⟨by decide +kernel, rfl⟩
set_option maxRecDepth 20000 in
theorem dX4_multiply_7 : decode cX4_multiply 7 = .ok (.bipush 48, 2) ∧ 7 + 2 = 9 := ⟨by decide +kernel, rfl⟩
set_option maxRecDepth 20000 in
theorem dX4_multiply_9 : decode cX4_multiply 9 = .ok (.if_icmp .ge 42, 3) ∧ 9 + 3 = 12 ∧ ((9 : Nat) : Int) + (42) = ((51 : Nat) : Int) := ⟨by decide +kernel, rfl, by decide⟩
set_option maxRecDepth 20000 in
theorem dX4_multiply_12 : decode cX4_multiply 12 = .ok (.aload_n 0, 1) ∧ 12 + 1 = 13 := ⟨by decide +kernel, rfl⟩
set_option maxRecDepth 20000 in
theorem dX4_multiply_13 : decode cX4_multiply 13 = .ok (.getfield 9, 3) ∧ 13 + 3 = 16 := ⟨by decide +kernel, rfl⟩
set_option maxRecDepth 20000 in
theorem dX4_multiply_16 : decode cX4_multiply 16 = .ok (.iload 5, 2) ∧ 16 + 2 = 18 := ⟨by decide +kernel, rfl⟩
set_option maxRecDepth 20000 in
theorem dX4_multiply_18 : decode cX4_multiply 18 = .ok (.laload, 1) ∧ 18 + 1 = 19 := ⟨by decide +kernel, rfl⟩
set_option maxRecDepth 20000 in
theorem dX4_multiply_19 : decode cX4_multiply 19 = .ok (.lload_n 1, 1) ∧ 19 + 1 = 20 := ⟨by decide +kernel, rfl⟩
set_option maxRecDepth 20000 in
theorem dX4_multiply_20 : decode cX4_multiply 20 = .ok (.lmul, 1) ∧ 20 + 1 = 21 := ⟨by decide +kernel, rfl⟩
set_option maxRecDepth 20000 in
theorem dX4_multiply_21 : decode cX4_multiply 21 = .ok (.lload_n 3, 1) ∧ 21 + 1 = 22 := ⟨by decide +kernel, rfl⟩
set_option maxRecDepth 20000 in
theorem dX4_multiply_22 : decode cX4_multiply 22 = .ok (.ladd, 1) ∧ 22 + 1 = 23 := ⟨by decide +kernel, rfl⟩
set_option maxRecDepth 20000 in
theorem dX4_multiply_23 : decode cX4_multiply 23 = .ok (.lstore 6, 2) ∧ 23 + 2 = 25 := ⟨by decide +kernel, rfl⟩
set_option maxRecDepth 20000 in
theorem dX4_multiply_25 : decode cX4_multiply 25 = .ok (.aload_n 0, 1) ∧ 25 + 1 = 26 := ⟨by decide +kernel, rfl⟩
set_option maxRecDepth 20000 in
theorem dX4_multiply_26 : decode cX4_multiply 26 = .ok (.getfield 9, 3) ∧ 26 + 3 = 29 := ⟨by decide +kernel, rfl⟩
set_option maxRecDepth 20000 in
theorem dX4_multiply_29 : decode cX4_multiply 29 = .ok (.iload 5, 2) ∧ 29 + 2 = 31 := ⟨by decide +kernel, rfl⟩
set_option maxRecDepth 20000 in
theorem dX4_multiply_31 : decode cX4_multiply 31 = .ok (.lload 6, 2) ∧ 31 + 2 = 33 := ⟨by decide +kernel, rfl⟩
set_option maxRecDepth 20000 in
theorem dX4_multiply_33 : decode cX4_multiply 33 = .ok (.ldc2_w 13, 3) ∧ 33 + 3 = 36 := ⟨by decide +kernel, rfl⟩
set_option maxRecDepth 20000 in
theorem dX4_multiply_36 : decode cX4_multiply 36 = .ok (.lrem, 1) ∧ 36 + 1 = 37 := ⟨by decide +kernel, rfl⟩
set_option maxRecDepth 20000 in
theorem dX4_multiply_37 : decode cX4_multiply 37 = .ok (.lastore, 1) ∧ 37 + 1 = 38 := ⟨by decide +kernel, rfl⟩
set_option maxRecDepth 20000 in
theorem dX4_multiply_38 : decode cX4_multiply 38 = .ok (.lload 6, 2) ∧ 38 + 2 = 40 := ⟨by decide +kernel, rfl⟩
set_option maxRecDepth 20000 in
theorem dX4_multiply_40 : decode cX4_multiply 40 = .ok (.ldc2_w 13, 3) ∧ 40 + 3 = 43 := ⟨by decide +kernel, rfl⟩
set_option maxRecDepth 20000 in
theorem dX4_multiply_43 : decode cX4_multiply 43 = .ok (.ldiv, 1) ∧ 43 + 1 = 44 := ⟨by decide +kernel, rfl⟩
set_option maxRecDepth 20000 in
theorem dX4_multiply_44 : decode cX4_multiply 44 = .ok (.lstore_n 3, 1) ∧ 44 + 1 = 45 := ⟨by decide +kernel, rfl⟩
set_option maxRecDepth 20000 in
theorem dX4_multiply_45 : decode cX4_multiply 45 = .ok (.iinc 5 1, 3) ∧ 45 + 3 = 48 := ⟨by decide +kernel, rfl⟩
set_option maxRecDepth 20000 in
theorem dX4_multiply_48 : decode cX4_multiply 48 = .ok (.goto (-43), 3) ∧ ((48 : Nat) : Int) + (-43) = ((5 : Nat) : Int) := ⟨by decide +kernel, by decide⟩
set_option maxRecDepth 20000 in
theorem dX4_multiply_51 : decode cX4_multiply 51 = .ok (.return_, 1) := by decide +kernel
set_option maxRecDepth 20000 in
theorem dX4_increase_0 : decode cX4_increase 0 = .ok (.lconst 0, 1) ∧ 0 + 1 = 1 := ⟨by decide +kernel, rfl⟩
set_option maxRecDepth 20000 in
theorem dX4_increase_1 : decode cX4_increase 1 = .ok (.lstore_n 2, 1) ∧ 1 + 1 = 2 := ⟨by decide +kernel, rfl⟩
set_option maxRecDepth 20000 in
theorem dX4_increase_2 : decode cX4_increase 2 = .ok (.iconst 0, 1) ∧ 2 + 1 = 3 := ⟨by decide +kernel, rfl⟩
set_option maxRecDepth 20000 in
theorem dX4_increase_3 : decode cX4_increase 3 = .ok (.istore 4, 2) ∧ 3 + 2 = 5 := ⟨by decide +kernel, rfl⟩
set_option maxRecDepth 20000 in
theorem dX4_increase_5 : decode cX4_increase 5 = .ok (.iload 4, 2) ∧ 5 + 2 = 7 := ⟨by decide +kernel, rfl⟩
set_option maxRecDepth 20000 in
theorem dX4_increase_7 : decode cX4_increase 7 = .ok (.bipush 48, 2) ∧ 7 + 2 = 9 := ⟨by decide +kernel, rfl⟩
set_option maxRecDepth 20000 in
theorem dX4_increase_9 : decode cX4_increase 9 = .ok (.if_icmp .ge 48, 3) ∧ 9 + 3 = 12 ∧ ((9 : Nat) : Int) + (48) = ((57 : Nat) : Int) := ⟨by decide +kernel, rfl, by decide⟩
set_option maxRecDepth 20000 in
theorem dX4_increase_12 : decode cX4_increase 12 = .ok (.aload_n 0, 1) ∧ 12 + 1 = 13 := ⟨by decide +kernel, rfl⟩
set_option maxRecDepth 20000 in
theorem dX4_increase_13 : decode cX4_increase 13 = .ok (.getfield 9, 3) ∧ 13 + 3 = 16 := ⟨by decide +kernel, rfl⟩
set_option maxRecDepth 20000 in
theorem dX4_increase_16 : decode cX4_increase 16 = .ok (.iload 4, 2) ∧ 16 + 2 = 18 := ⟨by decide +kernel, rfl⟩
set_option maxRecDepth 20000 in
theorem dX4_increase_18 : decode cX4_increase 18 = .ok (.laload, 1) ∧ 18 + 1 = 19 := ⟨by decide +kernel, rfl⟩
set_option maxRecDepth 20000 in
theorem dX4_increase_19 : decode cX4_increase 19 = .ok (.aload_n 1, 1) ∧ 19 + 1 = 20 := ⟨by decide +kernel, rfl⟩
set_option maxRecDepth 20000 in
theorem dX4_increase_20 : decode cX4_increase 20 = .ok (.getfield 9, 3) ∧ 20 + 3 = 23 := ⟨by decide +kernel, rfl⟩
set_option maxRecDepth 20000 in
theorem dX4_increase_23 : decode cX4_increase 23 = .ok (.iload 4, 2) ∧ 23 + 2 = 25 := ⟨by decide +kernel, rfl⟩
set_option maxRecDepth 20000 in
theorem dX4_increase_25 : decode cX4_increase 25 = .ok (.laload, 1) ∧ 25 + 1 = 26 := ⟨by decide +kernel, rfl⟩
set_option maxRecDepth 20000 in
theorem dX4_increase_26 : decode cX4_increase 26 = .ok (.ladd, 1) ∧ 26 + 1 = 27 := ⟨by decide +kernel, rfl⟩
set_option maxRecDepth 20000 in
theorem dX4_increase_27 : decode cX4_increase 27 = .ok (.lload_n 2, 1) ∧ 27 + 1 = 28 := ⟨by decide +kernel, rfl⟩
set_option maxRecDepth 20000 in
theorem dX4_increase_28 : decode cX4_increase 28 = .ok (.ladd, 1) ∧ 28 + 1 = 29 := ⟨by decide +kernel, rfl⟩
set_option maxRecDepth 20000 in
theorem dX4_increase_29 : decode cX4_increase 29 = .ok (.lstore 5, 2) ∧ 29 + 2 = 31 := ⟨by decide +kernel, rfl⟩
set_option maxRecDepth 20000 in
theorem dX4_increase_31 : decode cX4_increase 31 = .ok (.aload_n 0, 1) ∧ 31 + 1 = 32 := ⟨by decide +kernel, rfl⟩
set_option maxRecDepth 20000 in
theorem dX4_increase_32 : decode cX4_increase 32 = .ok (.getfield 9, 3) ∧ 32 + 3 = 35 := ⟨by decide +kernel, rfl⟩
set_option maxRecDepth 20000 in
theorem dX4_increase_35 : decode cX4_increase 35 = .ok (.iload 4, 2) ∧ 35 + 2 = 37 := ⟨by decide +kernel, rfl⟩
set_option maxRecDepth 20000 in
theorem dX4_increase_37 : decode cX4_increase 37 = .ok (.lload 5, 2) ∧ 37 + 2 = 39 := ⟨by decide +kernel, rfl⟩
set_option maxRecDepth 20000 in
theorem dX4_increase_39 : decode cX4_increase 39 = .ok (.ldc2_w 13, 3) ∧ 39 + 3 = 42 := ⟨by decide +kernel, rfl⟩
set_option maxRecDepth 20000 in
theorem dX4_increase_42 : decode cX4_increase 42 = .ok (.lrem, 1) ∧ 42 + 1 = 43 := ⟨by decide +kernel, rfl⟩
set_option maxRecDepth 20000 in
theorem dX4_increase_43 : decode cX4_increase 43 = .ok (.lastore, 1) ∧ 43 + 1 = 44 := ⟨by decide +kernel, rfl⟩
set_option maxRecDepth 20000 in
theorem dX4_increase_44 : decode cX4_increase 44 = .ok (.lload 5, 2) ∧ 44 + 2 = 46 := ⟨by decide +kernel, rfl⟩
set_option maxRecDepth 20000 in
theorem dX4_increase_46 : decode cX4_increase 46 = .ok (.ldc2_w 13, 3) ∧ 46 + 3 = 49 := ⟨by decide +kernel, rfl⟩
set_option maxRecDepth 20000 in
theorem dX4_increase_49 : decode cX4_increase 49 = .ok (.ldiv, 1) ∧ 49 + 1 = 50 := ⟨by decide +kernel, rfl⟩
set_option maxRecDepth 20000 in
theorem dX4_increase_50 : decode cX4_increase 50 = .ok (.lstore_n 2, 1) ∧ 50 + 1 = 51 := ⟨by decide +kernel, rfl⟩
set_option maxRecDepth 20000 in
theorem dX4_increase_51 : decode cX4_increase 51 = .ok (.iinc 4 1, 3) ∧ 51 + 3 = 54 := ⟨by decide +kernel, rfl⟩
set_option maxRecDepth 20000 in
theorem dX4_increase_54 : decode cX4_increase 54 = .ok (.goto (-49), 3) ∧ ((54 : Nat) : Int) + (-49) = ((5 : Nat) : Int) := ⟨by decide +kernel, by decide⟩
set_option maxRecDepth 20000 in
theorem dX4_increase_57 : decode cX4_increase 57 = .ok (.return_, 1) := by decide +kernel
set_option maxRecDepth 20000 in
theorem dX4_millionths_0 : decode cX4_millionths 0 = .ok (.iconst 0, 1) ∧ 0 + 1 = 1 := ⟨by decide +kernel, rfl⟩
set_option maxRecDepth 20000 in
theorem dX4_millionths_1 : decode cX4_millionths 1 = .ok (.istore_n 2, 1) ∧ 1 + 1 = 2 := ⟨by decide +kernel, rfl⟩
set_option maxRecDepth 20000 in
theorem dX4_millionths_2 : decode cX4_millionths 2 = .ok (.iload_n 1, 1) ∧ 2 + 1 = 3 := ⟨by decide +kernel, rfl⟩
set_option maxRecDepth 20000 in
theorem dX4_millionths_3 : decode cX4_millionths 3 = .ok (.istore_n 3, 1) ∧ 3 + 1 = 4 := ⟨by decide +kernel, rfl⟩
set_option maxRecDepth 20000 in
theorem dX4_millionths_4 : decode cX4_millionths 4 = .ok (.iload_n 3, 1) ∧ 4 + 1 = 5 := ⟨by decide +kernel, rfl⟩
set_option maxRecDepth 20000 in
theorem dX4_millionths_5 : decode cX4_millionths 5 = .ok (.iload_n 1, 1) ∧ 5 + 1 = 6 := ⟨by decide +kernel, rfl⟩
set_option maxRecDepth 20000 in
theorem dX4_millionths_6 : decode cX4_millionths 6 = .ok (.iconst 3, 1) ∧ 6 + 1 = 7 := ⟨by decide +kernel, rfl⟩
set_option maxRecDepth 20000 in
theorem dX4_millionths_7 : decode cX4_millionths 7 = .ok (.isub, 1) ∧ 7 + 1 = 8 := ⟨by decide +kernel, rfl⟩
set_option maxRecDepth 20000 in
theorem dX4_millionths_8 : decode cX4_millionths 8 = .ok (.if_icmp .lt 36, 3) ∧ 8 + 3 = 11 ∧ ((8 : Nat) : Int) + (36) = ((44 : Nat) : Int) := ⟨by decide +kernel, rfl, by decide⟩
set_option maxRecDepth 20000 in
theorem dX4_millionths_11 : decode cX4_millionths 11 = .ok (.iload_n 2, 1) ∧ 11 + 1 = 12 := ⟨by decide +kernel, rfl⟩
set_option maxRecDepth 20000 in
theorem dX4_millionths_12 : decode cX4_millionths 12 = .ok (.bipush 100, 2) ∧ 12 + 2 = 14 := ⟨by decide +kernel, rfl⟩
set_option maxRecDepth 20000 in
theorem dX4_millionths_14 : decode cX4_millionths 14 = .ok (.imul, 1) ∧ 14 + 1 = 15 := ⟨by decide +kernel, rfl⟩
set_option maxRecDepth 20000 in
theorem dX4_millionths_15 : decode cX4_millionths 15 = .ok (.iload_n 3, 1) ∧ 15 + 1 = 16 := ⟨by decide +kernel, rfl⟩
set_option maxRecDepth 20000 in
theorem dX4_millionths_16 : decode cX4_millionths 16 = .ok (.ifCond .lt 19, 3) ∧ 16 + 3 = 19 ∧ ((16 : Nat) : Int) + (19) = ((35 : Nat) : Int) := ⟨by decide +kernel, rfl, by decide⟩
set_option maxRecDepth 20000 in
theorem dX4_millionths_19 : decode cX4_millionths 19 = .ok (.iload_n 3, 1) ∧ 19 + 1 = 20 := ⟨by decide +kernel, rfl⟩
set_option maxRecDepth 20000 in
theorem dX4_millionths_20 : decode cX4_millionths 20 = .ok (.bipush 48, 2) ∧ 20 + 2 = 22 := ⟨by decide +kernel, rfl⟩
set_option maxRecDepth 20000 in
theorem dX4_millionths_22 : decode cX4_millionths 22 = .ok (.if_icmp .ge 13, 3) ∧ 22 + 3 = 25 ∧ ((22 : Nat) : Int) + (13) = ((35 : Nat) : Int) := ⟨by decide +kernel, rfl, by decide⟩
set_option maxRecDepth 20000 in
theorem dX4_millionths_25 : decode cX4_millionths 25 = .ok (.aload_n 0, 1) ∧ 25 + 1 = 26 := ⟨by decide +kernel, rfl⟩
set_option maxRecDepth 20000 in
theorem dX4_millionths_26 : decode cX4_millionths 26 = .ok (.getfield 9, 3) ∧ 26 + 3 = 29 := ⟨by decide +kernel, rfl⟩
set_option maxRecDepth 20000 in
theorem dX4_millionths_29 : decode cX4_millionths 29 = .ok (.iload_n 3, 1) ∧ 29 + 1 = 30 := ⟨by decide +kernel, rfl⟩
set_option maxRecDepth 20000 in
theorem dX4_millionths_30 : decode cX4_millionths 30 = .ok (.laload, 1) ∧ 30 + 1 = 31 := ⟨by decide +kernel, rfl⟩
set_option maxRecDepth 20000 in
theorem dX4_millionths_31 : decode cX4_millionths 31 = .ok (.l2i, 1) ∧ 31 + 1 = 32 := ⟨by decide +kernel, rfl⟩
set_option maxRecDepth 20000 in
theorem dX4_millionths_32 : decode cX4_millionths 32 = .ok (.goto 4, 3) ∧ ((32 : Nat) : Int) + (4) = ((36 : Nat) : Int) := ⟨by decide +kernel, by decide⟩
set_option maxRecDepth 20000 in
theorem dX4_millionths_35 : decode cX4_millionths 35 = .ok (.iconst 0, 1) ∧ 35 + 1 = 36 := ⟨by decide +kernel, rfl⟩
set_option maxRecDepth 20000 in
theorem dX4_millionths_36 : decode cX4_millionths 36 = .ok (.iadd, 1) ∧ 36 + 1 = 37 := ⟨by decide +kernel, rfl⟩
set_option maxRecDepth 20000 in
theorem dX4_millionths_37 : decode cX4_millionths 37 = .ok (.istore_n 2, 1) ∧ 37 + 1 = 38 := ⟨by decide +kernel, rfl⟩
set_option maxRecDepth 20000 in
theorem dX4_millionths_38 : decode cX4_millionths 38 = .ok (.iinc 3 (-1), 3) ∧ 38 + 3 = 41 := ⟨by decide +kernel, rfl⟩
set_option maxRecDepth 20000 in
theorem dX4_millionths_41 : decode cX4_millionths 41 = .ok (.goto (-37), 3) ∧ ((41 : Nat) : Int) + (-37) = ((4 : Nat) : Int) := ⟨by decide +kernel, by decide⟩
set_option maxRecDepth 20000 in
theorem dX4_millionths_44 : decode cX4_millionths 44 = .ok (.iload_n 2, 1) ∧ 44 + 1 = 45 := ⟨by decide +kernel, rfl⟩
set_option maxRecDepth 20000 in
theorem dX4_millionths_45 : decode cX4_millionths 45 = .ok (.ireturn, 1) := by decide +kernel
set_option maxRecDepth 20000 in
theorem dX5_init_0 : decode cX5_init 0 = .ok (.aload_n 0, 1) ∧ 0 + 1 = 1 := ⟨by decide +kernel, rfl⟩
set_option maxRecDepth 20000 in
theorem dX5_init_1 : decode cX5_init 1 = .ok (.invokespecial 1, 3) ∧ 1 + 3 = 4 := ⟨by decide +kernel, rfl⟩
set_option maxRecDepth 20000 in
theorem dX5_init_4 : decode cX5_init 4 = .ok (.aload_n 0, 1) ∧ 4 + 1 = 5 := ⟨by decide +kernel, rfl⟩
set_option maxRecDepth 20000 in
theorem dX5_init_5 : decode cX5_init 5 = .ok (.aload_n 1, 1) ∧ 5 + 1 = 6 := ⟨by decide +kernel, rfl⟩
set_option maxRecDepth 20000 in
theorem dX5_init_6 : decode cX5_init 6 = .ok (.putfield 7, 3) ∧ 6 + 3 = 9 := ⟨by decide +kernel, rfl⟩
set_option maxRecDepth 20000 in
theorem dX5_init_9 : decode cX5_init 9 = .ok (.aload_n 0, 1) ∧ 9 + 1 = 10 := ⟨by decide +kernel, rfl⟩
set_option maxRecDepth 20000 in
theorem dX5_init_10 : decode cX5_init 10 = .ok (.aload_n 2, 1) ∧ 10 + 1 = 11 := ⟨by decide +kernel, rfl⟩
set_option maxRecDepth 20000 in
theorem dX5_init_11 : decode cX5_init 11 = .ok (.putfield 13, 3) ∧ 11 + 3 = 14 := ⟨by decide +kernel, rfl⟩
set_option maxRecDepth 20000 in
theorem dX5_init_14 : decode cX5_init 14 = .ok (.aload_n 0, 1) ∧ 14 + 1 = 15 := ⟨by decide +kernel, rfl⟩
set_option maxRecDepth 20000 in
theorem dX5_init_15 : decode cX5_init 15 = .ok (.aload_n 3, 1) ∧ 15 + 1 = 16 := ⟨by decide +kernel, rfl⟩
set_option maxRecDepth 20000 in
theorem dX5_init_16 : decode cX5_init 16 = .ok (.putfield 16, 3) ∧ 16 + 3 = 19 := ⟨by decide +kernel, rfl⟩
set_option maxRecDepth 20000 in
theorem dX5_init_19 : decode cX5_init 19 = .ok (.aload_n 0, 1) ∧ 19 + 1 = 20 := ⟨by decide +kernel, rfl⟩
set_option maxRecDepth 20000 in
theorem dX5_init_20 : decode cX5_init 20 = .ok (.aload 4, 2) ∧ 20 + 2 = 22 := ⟨by decide +kernel, rfl⟩
set_option maxRecDepth 20000 in
theorem dX5_init_22 : decode cX5_init 22 = .ok (.putfield 19, 3) ∧ 22 + 3 = 25 := ⟨by decide +kernel, rfl⟩
set_option maxRecDepth 20000 in
theorem dX5_init_25 : decode cX5_init 25 = .ok (.return_, 1) := by decide +kernel
set_option maxRecDepth 20000 in
theorem dX6_init_0 : decode cX6_init 0 = .ok (.aload_n 0, 1) ∧ 0 + 1 = 1 := ⟨by decide +kernel, rfl⟩
set_option maxRecDepth 20000 in
theorem dX6_init_1 : decode cX6_init 1 = .ok (.invokespecial 3, 3) ∧ 1 + 3 = 4 := ⟨by decide +kernel, rfl⟩
set_option maxRecDepth 20000 in
theorem dX6_init_4 : decode cX6_init 4 = .ok (.aload_n 0, 1) ∧ 4 + 1 = 5 := ⟨by decide +kernel, rfl⟩
set_option maxRecDepth 20000 in
theorem dX6_init_5 : decode cX6_init 5 = .ok (.aload_n 1, 1) ∧ 5 + 1 = 6 := ⟨by decide +kernel, rfl⟩
set_option maxRecDepth 20000 in
theorem dX6_init_6 : decode cX6_init 6 = .ok (.putfield 9, 3) ∧ 6 + 3 = 9 := ⟨by decide +kernel, rfl⟩
set_option maxRecDepth 20000 in
theorem dX6_init_9 : decode cX6_init 9 = .ok (.aload_n 0, 1) ∧ 9 + 1 = 10 := ⟨by decide +kernel, rfl⟩
set_option maxRecDepth 20000 in
theorem dX6_init_10 : decode cX6_init 10 = .ok (.bipush 12, 2) ∧ 10 + 2 = 12 := ⟨by decide +kernel, rfl⟩
set_option maxRecDepth 20000 in
theorem dX6_init_12 : decode cX6_init 12 = .ok (.newarray .int, 2) ∧ 12 + 2 = 14 := ⟨by decide +kernel, rfl⟩
set_option maxRecDepth 20000 in
theorem dX6_init_14 : decode cX6_init 14 = .ok (.putfield 17, 3) ∧ 14 + 3 = 17 := ⟨by decide +kernel, rfl⟩
set_option maxRecDepth 20000 in
theorem dX6_init_17 : decode cX6_init 17 = .ok (.aload_n 0, 1) ∧ 17 + 1 = 18 := ⟨by decide +kernel, rfl⟩
set_option maxRecDepth 20000 in
theorem dX6_init_18 : decode cX6_init 18 = .ok (.bipush 12, 2) ∧ 18 + 2 = 20 := ⟨by decide +kernel, rfl⟩
set_option maxRecDepth 20000 in
theorem dX6_init_20 : decode cX6_init 20 = .ok (.newarray .int, 2) ∧ 20 + 2 = 22 := ⟨by decide +kernel, rfl⟩
set_option maxRecDepth 20000 in
theorem dX6_init_22 : decode cX6_init 22 = .ok (.putfield 21, 3) ∧ 22 + 3 = 25 := ⟨by decide +kernel, rfl⟩
set_option maxRecDepth 20000 in
theorem dX6_init_25 : decode cX6_init 25 = .ok (.aload_n 0, 1) ∧ 25 + 1 = 26 := ⟨by decide +kernel, rfl⟩
set_option maxRecDepth 20000 in
theorem dX6_init_26 : decode cX6_init 26 = .ok (.bipush 12, 2) ∧ 26 + 2 = 28 := ⟨by decide +kernel, rfl⟩
set_option maxRecDepth 20000 in
theorem dX6_init_28 : decode cX6_init 28 = .ok (.newarray .int, 2) ∧ 28 + 2 = 30 := ⟨by decide +kernel, rfl⟩
set_option maxRecDepth 20000 in
theorem dX6_init_30 : decode cX6_init 30 = .ok (.putfield 24, 3) ∧ 30 + 3 = 33 := ⟨by decide +kernel, rfl⟩
set_option maxRecDepth 20000 in
theorem dX6_init_33 : decode cX6_init 33 = .ok (.aload_n 0, 1) ∧ 33 + 1 = 34 := ⟨by decide +kernel, rfl⟩
set_option maxRecDepth 20000 in
theorem dX6_init_34 : decode cX6_init 34 = .ok (.sipush 400, 3) ∧ 34 + 3 = 37 := ⟨by decide +kernel, rfl⟩
set_option maxRecDepth 20000 in
theorem dX6_init_37 : decode cX6_init 37 = .ok (.newarray .int, 2) ∧ 37 + 2 = 39 := ⟨by decide +kernel, rfl⟩
set_option maxRecDepth 20000 in
theorem dX6_init_39 : decode cX6_init 39 = .ok (.putfield 27, 3) ∧ 39 + 3 = 42 := ⟨by decide +kernel, rfl⟩
set_option maxRecDepth 20000 in
theorem dX6_init_42 : decode cX6_init 42 = .ok (.aload_n 0, 1) ∧ 42 + 1 = 43 := ⟨by decide +kernel, rfl⟩
set_option maxRecDepth 20000 in
theorem dX6_init_43 : decode cX6_init 43 = .ok (.iconst 1, 1) ∧ 43 + 1 = 44 := ⟨by decide +kernel, rfl⟩
set_option maxRecDepth 20000 in
theorem dX6_init_44 : decode cX6_init 44 = .ok (.putfield 30, 3) ∧ 44 + 3 = 47 := ⟨by decide +kernel, rfl⟩
set_option maxRecDepth 20000 in
theorem dX6_init_47 : decode cX6_init 47 = .ok (.return_, 1) := by decide +kernel
set_option maxRecDepth 20000 in
theorem dX6_read_0 : decode cX6_read 0 = .ok (.aload_n 0, 1) ∧ 0 + 1 = 1 := ⟨by decide +kernel, rfl⟩
set_option maxRecDepth 20000 in
theorem dX6_read_1 : decode cX6_read 1 = .ok (.iconst 0, 1) ∧ 1 + 1 = 2 := ⟨by decide +kernel, rfl⟩
set_option maxRecDepth 20000 in
theorem dX6_read_2 : decode cX6_read 2 = .ok (.putfield 34, 3) ∧ 2 + 3 = 5 := ⟨by decide +kernel, rfl⟩
set_option maxRecDepth 20000 in
theorem dX6_read_5 : decode cX6_read 5 = .ok (.aload_n 0, 1) ∧ 5 + 1 = 6 := ⟨by decide +kernel, rfl⟩
set_option maxRecDepth 20000 in
theorem dX6_read_6 : decode cX6_read 6 = .ok (.iconst 0, 1) ∧ 6 + 1 = 7 := ⟨by decide +kernel, rfl⟩
set_option maxRecDepth 20000 in
theorem dX6_read_7 : decode cX6_read 7 = .ok (.putfield 38, 3) ∧ 7 + 3 = 10 := ⟨by decide +kernel, rfl⟩
set_option maxRecDepth 20000 in
theorem dX6_read_10 : decode cX6_read 10 = .ok (.aload_n 0, 1) ∧ 10 + 1 = 11 := ⟨by decide +kernel, rfl⟩
set_option maxRecDepth 20000 in
theorem dX6_read_11 : decode cX6_read 11 = .ok (.iconst 0, 1) ∧ 11 + 1 = 12 := ⟨by decide +kernel, rfl⟩
set_option maxRecDepth 20000 in
theorem dX6_read_12 : decode cX6_read 12 = .ok (.putfield 41, 3) ∧ 12 + 3 = 15 := ⟨by decide +kernel, rfl⟩
set_option maxRecDepth 20000 in
theorem dX6_read_15 : decode cX6_read 15 = .ok (.aload_n 0, 1) ∧ 15 + 1 = 16 := ⟨by decide +kernel, rfl⟩
set_option maxRecDepth 20000 in
theorem dX6_read_16 : decode cX6_read 16 = .ok (.iconst 0, 1) ∧ 16 + 1 = 17 := ⟨by decide +kernel, rfl⟩
set_option maxRecDepth 20000 in
theorem dX6_read_17 : decode cX6_read 17 = .ok (.putfield 44, 3) ∧ 17 + 3 = 20 := ⟨by decide +kernel, rfl⟩
set_option maxRecDepth 20000 in
theorem dX6_read_20 : decode cX6_read 20 = .ok (.aload_n 0, 1) ∧ 20 + 1 = 21 := ⟨by decide +kernel, rfl⟩
set_option maxRecDepth 20000 in
theorem dX6_read_21 : decode cX6_read 21 = .ok (.invokevirtual 47, 3) ∧ 21 + 3 = 24 := ⟨by decide +kernel, rfl⟩
set_option maxRecDepth 20000 in
theorem dX6_read_24 : decode cX6_read 24 = .ok (.aload_n 0, 1) ∧ 24 + 1 = 25 := ⟨by decide +kernel, rfl⟩
set_option maxRecDepth 20000 in
theorem dX6_read_25 : decode cX6_read 25 = .ok (.aload_n 0, 1) ∧ 25 + 1 = 26 := ⟨by decide +kernel, rfl⟩
set_option maxRecDepth 20000 in
theorem dX6_read_26 : decode cX6_read 26 = .ok (.invokevirtual 50, 3) ∧ 26 + 3 = 29 := ⟨by decide +kernel, rfl⟩
set_option maxRecDepth 20000 in
theorem dX6_read_29 : decode cX6_read 29 = .ok (.putfield 30, 3) ∧ 29 + 3 = 32 := ⟨by decide +kernel, rfl⟩
set_option maxRecDepth 20000 in
theorem dX6_read_32 : decode cX6_read 32 = .ok (.iconst 0, 1) ∧ 32 + 1 = 33 := ⟨by decide +kernel, rfl⟩
set_option maxRecDepth 20000 in
theorem dX6_read_33 : decode cX6_read 33 = .ok (.istore_n 1, 1) ∧ 33 + 1 = 34 := ⟨by decide +kernel, rfl⟩
set_option maxRecDepth 20000 in
theorem dX6_read_34 : decode cX6_read 34 = .ok (.iload_n 1, 1) ∧ 34 + 1 = 35 := ⟨by decide +kernel, rfl⟩
set_option maxRecDepth 20000 in
theorem dX6_read_35 : decode cX6_read 35 = .ok (.sipush 400, 3) ∧ 35 + 3 = 38 := ⟨by decide +kernel, rfl⟩
set_option maxRecDepth 20000 in
theorem dX6_read_38 : decode cX6_read 38 = .ok (.if_icmp .ge 37, 3) ∧ 38 + 3 = 41 ∧ ((38 : Nat) : Int) + (37) = ((75 : Nat) : Int) := ⟨by decide +kernel, rfl, by decide⟩
set_option maxRecDepth 20000 in
theorem dX6_read_41 : decode cX6_read 41 = .ok (.aload_n 0, 1) ∧ 41 + 1 = 42 := ⟨by decide +kernel, rfl⟩
set_option maxRecDepth 20000 in
theorem dX6_read_42 : decode cX6_read 42 = .ok (.getfield 30, 3) ∧ 42 + 3 = 45 := ⟨by decide +kernel, rfl⟩
set_option maxRecDepth 20000 in
theorem dX6_read_45 : decode cX6_read 45 = .ok (.ifCond .eq 30, 3) ∧ 45 + 3 = 48 ∧ ((45 : Nat) : Int) + (30) = ((75 : Nat) : Int) := ⟨by decide +kernel, rfl, by decide⟩
set_option maxRecDepth 20000 in
theorem dX6_read_48 : decode cX6_read 48 = .ok (.aload_n 0, 1) ∧ 48 + 1 = 49 := ⟨by decide +kernel, rfl⟩
set_option maxRecDepth 20000 in
theorem dX6_read_49 : decode cX6_read 49 = .ok (.bipush 59, 2) ∧ 49 + 2 = 51 := ⟨by decide +kernel, rfl⟩
set_option maxRecDepth 20000 in
theorem dX6_read_51 : decode cX6_read 51 = .ok (.invokevirtual 54, 3) ∧ 51 + 3 = 54 := ⟨by decide +kernel, rfl⟩
set_option maxRecDepth 20000 in
theorem dX6_read_54 : decode cX6_read 54 = .ok (.ifCond .eq 21, 3) ∧ 54 + 3 = 57 ∧ ((54 : Nat) : Int) + (21) = ((75 : Nat) : Int) := ⟨by decide +kernel, rfl, by decide⟩
set_option maxRecDepth 20000 in
theorem dX6_read_57 : decode cX6_read 57 = .ok (.aload_n 0, 1) ∧ 57 + 1 = 58 := ⟨by decide +kernel, rfl⟩
set_option maxRecDepth 20000 in
theorem dX6_read_58 : decode cX6_read 58 = .ok (.invokevirtual 47, 3) ∧ 58 + 3 = 61 := ⟨by decide +kernel, rfl⟩
set_option maxRecDepth 20000 in
theorem dX6_read_61 : decode cX6_read 61 = .ok (.aload_n 0, 1) ∧ 61 + 1 = 62 := ⟨by decide +kernel, rfl⟩
set_option maxRecDepth 20000 in
theorem dX6_read_62 : decode cX6_read 62 = .ok (.aload_n 0, 1) ∧ 62 + 1 = 63 := ⟨by decide +kernel, rfl⟩
set_option maxRecDepth 20000 in
theorem dX6_read_63 : decode cX6_read 63 = .ok (.invokevirtual 50, 3) ∧ 63 + 3 = 66 := ⟨by decide +kernel, rfl⟩
set_option maxRecDepth 20000 in
theorem dX6_read_66 : decode cX6_read 66 = .ok (.putfield 30, 3) ∧ 66 + 3 = 69 := ⟨by decide +kernel, rfl⟩
set_option maxRecDepth 20000 in
theorem dX6_read_69 : decode cX6_read 69 = .ok (.iinc 1 1, 3) ∧ 69 + 3 = 72 := ⟨by decide +kernel, rfl⟩
set_option maxRecDepth 20000 in
theorem dX6_read_72 : decode cX6_read 72 = .ok (.goto (-38), 3) ∧ ((72 : Nat) : Int) + (-38) = ((34 : Nat) : Int) := ⟨by decide +kernel, by decide⟩
set_option maxRecDepth 20000 in
theorem dX6_read_75 : decode cX6_read 75 = .ok (.aload_n 0, 1) ∧ 75 + 1 = 76 := ⟨by decide +kernel, rfl⟩
set_option maxRecDepth 20000 in
theorem dX6_read_76 : decode cX6_read 76 = .ok (.aload_n 0, 1) ∧ 76 + 1 = 77 := ⟨by decide +kernel, rfl⟩
set_option maxRecDepth 20000 in
theorem dX6_read_77 : decode cX6_read 77 = .ok (.getfield 30, 3) ∧ 77 + 3 = 80 := ⟨by decide +kernel, rfl⟩
set_option maxRecDepth 20000 in
theorem dX6_read_80 : decode cX6_read 80 = .ok (.ifCond .eq 14, 3) ∧ 80 + 3 = 83 ∧ ((80 : Nat) : Int) + (14) = ((94 : Nat) : Int) := ⟨by decide +kernel, rfl, by decide⟩
set_option maxRecDepth 20000 in
theorem dX6_read_83 : decode cX6_read 83 = .ok (.aload_n 0, 1) ∧ 83 + 1 = 84 := ⟨by decide +kernel, rfl⟩
set_option maxRecDepth 20000 in
theorem dX6_read_84 : decode cX6_read 84 = .ok (.getfield 58, 3) ∧ 84 + 3 = 87 := ⟨by decide +kernel, rfl⟩
set_option maxRecDepth 20000 in
theorem dX6_read_87 : decode cX6_read 87 = .ok (.ifCond .ne 7, 3) ∧ 87 + 3 = 90 ∧ ((87 : Nat) : Int) + (7) = ((94 : Nat) : Int) := ⟨by decide +kernel, rfl, by decide⟩
set_option maxRecDepth 20000 in
theorem dX6_read_90 : decode cX6_read 90 = .ok (.iconst 1, 1) ∧ 90 + 1 = 91 := ⟨by decide +kernel, rfl⟩
set_option maxRecDepth 20000 in
theorem dX6_read_91 : decode cX6_read 91 = .ok (.goto 4, 3) ∧ ((91 : Nat) : Int) + (4) = ((95 : Nat) : Int) := ⟨by decide +kernel, by decide⟩
set_option maxRecDepth 20000 in
theorem dX6_read_94 : decode cX6_read 94 = .ok (.iconst 0, 1) ∧ 94 + 1 = 95 := ⟨by decide +kernel, rfl⟩
set_option maxRecDepth 20000 in
theorem dX6_read_95 : decode cX6_read 95 = .ok (.putfield 30, 3) ∧ 95 + 3 = 98 := ⟨by decide +kernel, rfl⟩
set_option maxRecDepth 20000 in
theorem dX6_read_98 : decode cX6_read 98 = .ok (.aload_n 0, 1) ∧ 98 + 1 = 99 := ⟨by decide +kernel, rfl⟩
set_option maxRecDepth 20000 in
theorem dX6_read_99 : decode cX6_read 99 = .ok (.getfield 30, 3) ∧ 99 + 3 = 102 := ⟨by decide +kernel, rfl⟩
set_option maxRecDepth 20000 in
theorem dX6_read_102 : decode cX6_read 102 = .ok (.ifCond .ne 5, 3) ∧ 102 + 3 = 105 ∧ ((102 : Nat) : Int) + (5) = ((107 : Nat) : Int) := ⟨by decide +kernel, rfl, by decide⟩
set_option maxRecDepth 20000 in
theorem dX6_read_105 : decode cX6_read 105 = .ok (.aconst_null, 1) ∧ 105 + 1 = 106 := ⟨by decide +kernel, rfl⟩
set_option maxRecDepth 20000 in
theorem dX6_read_106 : decode cX6_read 106 = .ok (.areturn, 1) := by decide +kernel
set_option maxRecDepth 20000 in
theorem dX6_read_107 : decode cX6_read 107 = .ok (.new 15, 3) ∧ 107 + 3 = 110 := ⟨by decide +kernel, rfl⟩
set_option maxRecDepth 20000 in
theorem dX6_read_110 : decode cX6_read 110 = .ok (.dup, 1) ∧ 110 + 1 = 111 := ⟨by decide +kernel, rfl⟩
set_option maxRecDepth 20000 in
theorem dX6_read_111 : decode cX6_read 111 = .ok (.aload_n 0, 1) ∧ 111 + 1 = 112 := ⟨by decide +kernel, rfl⟩
set_option maxRecDepth 20000 in
theorem dX6_read_112 : decode cX6_read 112 = .ok (.getfield 17, 3) ∧ 112 + 3 = 115 := ⟨by decide +kernel, rfl⟩
set_option maxRecDepth 20000 in
theorem dX6_read_115 : decode cX6_read 115 = .ok (.aload_n 0, 1) ∧ 115 + 1 = 116 := ⟨by decide +kernel, rfl⟩
set_option maxRecDepth 20000 in
theorem dX6_read_116 : decode cX6_read 116 = .ok (.getfield 34, 3) ∧ 116 + 3 = 119 := ⟨by decide +kernel, rfl⟩
set_option maxRecDepth 20000 in
theorem dX6_read_119 : decode cX6_read 119 = .ok (.invokestatic 61, 3) ∧ 119 + 3 = 122 := ⟨by decide +kernel, rfl⟩
set_option maxRecDepth 20000 in
theorem dX6_read_122 : decode cX6_read 122 = .ok (.aload_n 0, 1) ∧ 122 + 1 = 123 := ⟨by decide +kernel, rfl⟩
set_option maxRecDepth 20000 in
theorem dX6_read_123 : decode cX6_read 123 = .ok (.getfield 21, 3) ∧ 123 + 3 = 126 := ⟨by decide +kernel, rfl⟩
set_option maxRecDepth 20000 in
theorem dX6_read_126 : decode cX6_read 126 = .ok (.aload_n 0, 1) ∧ 126 + 1 = 127 := ⟨by decide +kernel, rfl⟩
set_option maxRecDepth 20000 in
theorem dX6_read_127 : decode cX6_read 127 = .ok (.getfield 34, 3) ∧ 127 + 3 = 130 := ⟨by decide +kernel, rfl⟩
set_option maxRecDepth 20000 in
theorem dX6_read_130 : decode cX6_read 130 = .ok (.invokestatic 61, 3) ∧ 130 + 3 = 133 := ⟨by decide +kernel, rfl⟩
set_option maxRecDepth 20000 in
theorem dX6_read_133 : decode cX6_read 133 = .ok (.aload_n 0, 1) ∧ 133 + 1 = 134 := ⟨by decide +kernel, rfl⟩
set_option maxRecDepth 20000 in
theorem dX6_read_134 : decode cX6_read 134 = .ok (.getfield 24, 3) ∧ 134 + 3 = 137 := ⟨by decide +kernel, rfl⟩
set_option maxRecDepth 20000 in
theorem dX6_read_137 : decode cX6_read 137 = .ok (.aload_n 0, 1) ∧ 137 + 1 = 138 := ⟨by decide +kernel, rfl⟩
set_option maxRecDepth 20000 in
theorem dX6_read_138 : decode cX6_read 138 = .ok (.getfield 34, 3) ∧ 138 + 3 = 141 := ⟨by decide +kernel, rfl⟩
set_option maxRecDepth 20000 in
theorem dX6_read_141 : decode cX6_read 141 = .ok (.invokestatic 61, 3) ∧ 141 + 3 = 144 := ⟨by decide +kernel, rfl⟩
set_option maxRecDepth 20000 in
theorem dX6_read_144 : decode cX6_read 144 = .ok (.aload_n 0, 1) ∧ 144 + 1 = 145 := ⟨by decide +kernel, rfl⟩
set_option maxRecDepth 20000 in
theorem dX6_read_145 : decode cX6_read 145 = .ok (.getfield 27, 3) ∧ 145 + 3 = 148 := ⟨by decide +kernel, rfl⟩
set_option maxRecDepth 20000 in
theorem dX6_read_148 : decode cX6_read 148 = .ok (.aload_n 0, 1) ∧ 148 + 1 = 149 := ⟨by decide +kernel, rfl⟩
set_option maxRecDepth 20000 in
theorem dX6_read_149 : decode cX6_read 149 = .ok (.getfield 38, 3) ∧ 149 + 3 = 152 := ⟨by decide +kernel, rfl⟩
set_option maxRecDepth 20000 in
theorem dX6_read_152 : decode cX6_read 152 = .ok (.invokestatic 61, 3) ∧ 152 + 3 = 155 := ⟨by decide +kernel, rfl⟩
set_option maxRecDepth 20000 in
theorem dX6_read_155 : decode cX6_read 155 = .ok (.invokespecial 67, 3) ∧ 155 + 3 = 158 := ⟨by decide +kernel, rfl⟩
set_option maxRecDepth 20000 in
theorem dX6_read_158 : decode cX6_read 158 = .ok (.areturn, 1) := by decide +kernel
set_option maxRecDepth 20000 in
theorem dX6_place_0 : decode cX6_place 0 = .ok (.aload_n 0, 1) ∧ 0 + 1 = 1 := ⟨by decide +kernel, rfl⟩
set_option maxRecDepth 20000 in
theorem dX6_place_1 : decode cX6_place 1 = .ok (.getfield 30, 3) ∧ 1 + 3 = 4 := ⟨by decide +kernel, rfl⟩
set_option maxRecDepth 20000 in
theorem dX6_place_4 : decode cX6_place 4 = .ok (.ifCond .eq 7, 3) ∧ 4 + 3 = 7 ∧ ((4 : Nat) : Int) + (7) = ((11 : Nat) : Int) := ⟨by decide +kernel, rfl, by decide⟩
set_option maxRecDepth 20000 in
theorem dX6_place_7 : decode cX6_place 7 = .ok (.iconst (-1), 1) ∧ 7 + 1 = 8 := ⟨by decide +kernel, rfl⟩
set_option maxRecDepth 20000 in
theorem dX6_place_8 : decode cX6_place 8 = .ok (.goto 7, 3) ∧ ((8 : Nat) : Int) + (7) = ((15 : Nat) : Int) := ⟨by decide +kernel, by decide⟩
set_option maxRecDepth 20000 in
theorem dX6_place_11 : decode cX6_place 11 = .ok (.aload_n 0, 1) ∧ 11 + 1 = 12 := ⟨by decide +kernel, rfl⟩
set_option maxRecDepth 20000 in
theorem dX6_place_12 : decode cX6_place 12 = .ok (.getfield 70, 3) ∧ 12 + 3 = 15 := ⟨by decide +kernel, rfl⟩
set_option maxRecDepth 20000 in
theorem dX6_place_15 : decode cX6_place 15 = .ok (.ireturn, 1) := by decide +kernel
set_option maxRecDepth 20000 in
theorem dX6_advance_0 : decode cX6_advance 0 = .ok (.aload_n 0, 1) ∧ 0 + 1 = 1 := ⟨by decide +kernel, rfl⟩
set_option maxRecDepth 20000 in
theorem dX6_advance_1 : decode cX6_advance 1 = .ok (.getfield 44, 3) ∧ 1 + 3 = 4 := ⟨by decide +kernel, rfl⟩
set_option maxRecDepth 20000 in
theorem dX6_advance_4 : decode cX6_advance 4 = .ok (.istore_n 1, 1) ∧ 4 + 1 = 5 := ⟨by decide +kernel, rfl⟩
set_option maxRecDepth 20000 in
theorem dX6_advance_5 : decode cX6_advance 5 = .ok (.iload_n 1, 1) ∧ 5 + 1 = 6 := ⟨by decide +kernel, rfl⟩
set_option maxRecDepth 20000 in
theorem dX6_advance_6 : decode cX6_advance 6 = .ok (.aload_n 0, 1) ∧ 6 + 1 = 7 := ⟨by decide +kernel, rfl⟩
set_option maxRecDepth 20000 in
theorem dX6_advance_7 : decode cX6_advance 7 = .ok (.getfield 9, 3) ∧ 7 + 3 = 10 := ⟨by decide +kernel, rfl⟩
set_option maxRecDepth 20000 in
theorem dX6_advance_10 : decode cX6_advance 10 = .ok (.getfield 73, 3) ∧ 10 + 3 = 13 := ⟨by decide +kernel, rfl⟩
set_option maxRecDepth 20000 in
theorem dX6_advance_13 : decode cX6_advance 13 = .ok (.if_icmp .ge 22, 3) ∧ 13 + 3 = 16 ∧ ((13 : Nat) : Int) + (22) = ((35 : Nat) : Int) := ⟨by decide +kernel, rfl, by decide⟩
set_option maxRecDepth 20000 in
theorem dX6_advance_16 : decode cX6_advance 16 = .ok (.aload_n 0, 1) ∧ 16 + 1 = 17 := ⟨by decide +kernel, rfl⟩
set_option maxRecDepth 20000 in
theorem dX6_advance_17 : decode cX6_advance 17 = .ok (.getfield 9, 3) ∧ 17 + 3 = 20 := ⟨by decide +kernel, rfl⟩
set_option maxRecDepth 20000 in
theorem dX6_advance_20 : decode cX6_advance 20 = .ok (.iload_n 1, 1) ∧ 20 + 1 = 21 := ⟨by decide +kernel, rfl⟩
set_option maxRecDepth 20000 in
theorem dX6_advance_21 : decode cX6_advance 21 = .ok (.invokevirtual 76, 3) ∧ 21 + 3 = 24 := ⟨by decide +kernel, rfl⟩
set_option maxRecDepth 20000 in
theorem dX6_advance_24 : decode cX6_advance 24 = .ok (.bipush 32, 2) ∧ 24 + 2 = 26 := ⟨by decide +kernel, rfl⟩
set_option maxRecDepth 20000 in
theorem dX6_advance_26 : decode cX6_advance 26 = .ok (.if_icmp .ne 9, 3) ∧ 26 + 3 = 29 ∧ ((26 : Nat) : Int) + (9) = ((35 : Nat) : Int) := ⟨by decide +kernel, rfl, by decide⟩
set_option maxRecDepth 20000 in
theorem dX6_advance_29 : decode cX6_advance 29 = .ok (.iinc 1 1, 3) ∧ 29 + 3 = 32 := ⟨by decide +kernel, rfl⟩
set_option maxRecDepth 20000 in
theorem dX6_advance_32 : decode cX6_advance 32 = .ok (.goto (-27), 3) ∧ ((32 : Nat) : Int) + (-27) = ((5 : Nat) : Int) := ⟨by decide +kernel, by decide⟩
set_option maxRecDepth 20000 in
theorem dX6_advance_35 : decode cX6_advance 35 = .ok (.aload_n 0, 1) ∧ 35 + 1 = 36 := ⟨by decide +kernel, rfl⟩
set_option maxRecDepth 20000 in
theorem dX6_advance_36 : decode cX6_advance 36 = .ok (.iload_n 1, 1) ∧ 36 + 1 = 37 := ⟨by decide +kernel, rfl⟩
set_option maxRecDepth 20000 in
theorem dX6_advance_37 : decode cX6_advance 37 = .ok (.putfield 70, 3) ∧ 37 + 3 = 40 := ⟨by decide +kernel, rfl⟩
set_option maxRecDepth 20000 in
theorem dX6_advance_40 : decode cX6_advance 40 = .ok (.aload_n 0, 1) ∧ 40 + 1 = 41 := ⟨by decide +kernel, rfl⟩
set_option maxRecDepth 20000 in
theorem dX6_advance_41 : decode cX6_advance 41 = .ok (.getfield 9, 3) ∧ 41 + 3 = 44 := ⟨by decide +kernel, rfl⟩
set_option maxRecDepth 20000 in
theorem dX6_advance_44 : decode cX6_advance 44 = .ok (.iload_n 1, 1) ∧ 44 + 1 = 45 := ⟨by decide +kernel, rfl⟩
set_option maxRecDepth 20000 in
theorem dX6_advance_45 : decode cX6_advance 45 = .ok (.invokevirtual 76, 3) ∧ 45 + 3 = 48 := ⟨by decide +kernel, rfl⟩
set_option maxRecDepth 20000 in
theorem dX6_advance_48 : decode cX6_advance 48 = .ok (.istore_n 2, 1) ∧ 48 + 1 = 49 := ⟨by decide +kernel, rfl⟩
set_option maxRecDepth 20000 in
theorem dX6_advance_49 : decode cX6_advance 49 = .ok (.aload_n 0, 1) ∧ 49 + 1 = 50 := ⟨by decide +kernel, rfl⟩
set_option maxRecDepth 20000 in
theorem dX6_advance_50 : decode cX6_advance 50 = .ok (.iconst 0, 1) ∧ 50 + 1 = 51 := ⟨by decide +kernel, rfl⟩
set_option maxRecDepth 20000 in
theorem dX6_advance_51 : decode cX6_advance 51 = .ok (.putfield 80, 3) ∧ 51 + 3 = 54 := ⟨by decide +kernel, rfl⟩
set_option maxRecDepth 20000 in
theorem dX6_advance_54 : decode cX6_advance 54 = .ok (.iload_n 1, 1) ∧ 54 + 1 = 55 := ⟨by decide +kernel, rfl⟩
set_option maxRecDepth 20000 in
theorem dX6_advance_55 : decode cX6_advance 55 = .ok (.aload_n 0, 1) ∧ 55 + 1 = 56 := ⟨by decide +kernel, rfl⟩
set_option maxRecDepth 20000 in
theorem dX6_advance_56 : decode cX6_advance 56 = .ok (.getfield 9, 3) ∧ 56 + 3 = 59 := ⟨by decide +kernel, rfl⟩
set_option maxRecDepth 20000 in
theorem dX6_advance_59 : decode cX6_advance 59 = .ok (.getfield 73, 3) ∧ 59 + 3 = 62 := ⟨by decide +kernel, rfl⟩
set_option maxRecDepth 20000 in
theorem dX6_advance_62 : decode cX6_advance 62 = .ok (.if_icmp .lt 11, 3) ∧ 62 + 3 = 65 ∧ ((62 : Nat) : Int) + (11) = ((73 : Nat) : Int) := ⟨by decide +kernel, rfl, by decide⟩
set_option maxRecDepth 20000 in
theorem dX6_advance_65 : decode cX6_advance 65 = .ok (.aload_n 0, 1) ∧ 65 + 1 = 66 := ⟨by decide +kernel, rfl⟩
set_option maxRecDepth 20000 in
theorem dX6_advance_66 : decode cX6_advance 66 = .ok (.iconst 0, 1) ∧ 66 + 1 = 67 := ⟨by decide +kernel, rfl⟩
set_option maxRecDepth 20000 in
theorem dX6_advance_67 : decode cX6_advance 67 = .ok (.putfield 58, 3) ∧ 67 + 3 = 70 := ⟨by decide +kernel, rfl⟩
set_option maxRecDepth 20000 in
theorem dX6_advance_70 : decode cX6_advance 70 = .ok (.goto 126, 3) ∧ ((70 : Nat) : Int) + (126) = ((196 : Nat) : Int) := ⟨by decide +kernel, by decide⟩
set_option maxRecDepth 20000 in
theorem dX6_advance_73 : decode cX6_advance 73 = .ok (.iload_n 2, 1) ∧ 73 + 1 = 74 := ⟨by decide +kernel, rfl⟩
set_option maxRecDepth 20000 in
theorem dX6_advance_74 : decode cX6_advance 74 = .ok (.invokestatic 83, 3) ∧ 74 + 3 = 77 := ⟨by decide +kernel, rfl⟩
set_option maxRecDepth 20000 in
theorem dX6_advance_77 : decode cX6_advance 77 = .ok (.ifCond .eq 39, 3) ∧ 77 + 3 = 80 ∧ ((77 : Nat) : Int) + (39) = ((116 : Nat) : Int) := ⟨by decide +kernel, rfl, by decide⟩
set_option maxRecDepth 20000 in
theorem dX6_advance_80 : decode cX6_advance 80 = .ok (.aload_n 0, 1) ∧ 80 + 1 = 81 := ⟨by decide +kernel, rfl⟩
set_option maxRecDepth 20000 in
theorem dX6_advance_81 : decode cX6_advance 81 = .ok (.iconst 1, 1) ∧ 81 + 1 = 82 := ⟨by decide +kernel, rfl⟩
set_option maxRecDepth 20000 in
theorem dX6_advance_82 : decode cX6_advance 82 = .ok (.putfield 58, 3) ∧ 82 + 3 = 85 := ⟨by decide +kernel, rfl⟩
set_option maxRecDepth 20000 in
theorem dX6_advance_85 : decode cX6_advance 85 = .ok (.iload_n 1, 1) ∧ 85 + 1 = 86 := ⟨by decide +kernel, rfl⟩
set_option maxRecDepth 20000 in
theorem dX6_advance_86 : decode cX6_advance 86 = .ok (.aload_n 0, 1) ∧ 86 + 1 = 87 := ⟨by decide +kernel, rfl⟩
set_option maxRecDepth 20000 in
theorem dX6_advance_87 : decode cX6_advance 87 = .ok (.getfield 9, 3) ∧ 87 + 3 = 90 := ⟨by decide +kernel, rfl⟩
set_option maxRecDepth 20000 in
theorem dX6_advance_90 : decode cX6_advance 90 = .ok (.getfield 73, 3) ∧ 90 + 3 = 93 := ⟨by decide +kernel, rfl⟩
set_option maxRecDepth 20000 in
theorem dX6_advance_93 : decode cX6_advance 93 = .ok (.if_icmp .ge 103, 3) ∧ 93 + 3 = 96 ∧ ((93 : Nat) : Int) + (103) = ((196 : Nat) : Int) := ⟨by decide +kernel, rfl, by decide⟩
set_option maxRecDepth 20000 in
theorem dX6_advance_96 : decode cX6_advance 96 = .ok (.aload_n 0, 1) ∧ 96 + 1 = 97 := ⟨by decide +kernel, rfl⟩
set_option maxRecDepth 20000 in
theorem dX6_advance_97 : decode cX6_advance 97 = .ok (.getfield 9, 3) ∧ 97 + 3 = 100 := ⟨by decide +kernel, rfl⟩
set_option maxRecDepth 20000 in
theorem dX6_advance_100 : decode cX6_advance 100 = .ok (.iload_n 1, 1) ∧ 100 + 1 = 101 := ⟨by decide +kernel, rfl⟩
set_option maxRecDepth 20000 in
theorem dX6_advance_101 : decode cX6_advance 101 = .ok (.invokevirtual 76, 3) ∧ 101 + 3 = 104 := ⟨by decide +kernel, rfl⟩
set_option maxRecDepth 20000 in
theorem dX6_advance_104 : decode cX6_advance 104 = .ok (.invokestatic 83, 3) ∧ 104 + 3 = 107 := ⟨by decide +kernel, rfl⟩
set_option maxRecDepth 20000 in
theorem dX6_advance_107 : decode cX6_advance 107 = .ok (.ifCond .eq 89, 3) ∧ 107 + 3 = 110 ∧ ((107 : Nat) : Int) + (89) = ((196 : Nat) : Int) := ⟨by decide +kernel, rfl, by decide⟩
set_option maxRecDepth 20000 in
theorem dX6_advance_110 : decode cX6_advance 110 = .ok (.iinc 1 1, 3) ∧ 110 + 3 = 113 := ⟨by decide +kernel, rfl⟩
set_option maxRecDepth 20000 in
theorem dX6_advance_113 : decode cX6_advance 113 = .ok (.goto (-28), 3) ∧ ((113 : Nat) : Int) + (-28) = ((85 : Nat) : Int) := ⟨by decide +kernel, by decide⟩
set_option maxRecDepth 20000 in
theorem dX6_advance_116 : decode cX6_advance 116 = .ok (.iload_n 2, 1) ∧ 116 + 1 = 117 := ⟨by decide +kernel, rfl⟩
set_option maxRecDepth 20000 in
theorem dX6_advance_117 : decode cX6_advance 117 = .ok (.invokestatic 87, 3) ∧ 117 + 3 = 120 := ⟨by decide +kernel, rfl⟩
set_option maxRecDepth 20000 in
theorem dX6_advance_120 : decode cX6_advance 120 = .ok (.ifCond .eq 68, 3) ∧ 120 + 3 = 123 ∧ ((120 : Nat) : Int) + (68) = ((188 : Nat) : Int) := ⟨by decide +kernel, rfl, by decide⟩
set_option maxRecDepth 20000 in
theorem dX6_advance_123 : decode cX6_advance 123 = .ok (.aload_n 0, 1) ∧ 123 + 1 = 124 := ⟨by decide +kernel, rfl⟩
set_option maxRecDepth 20000 in
theorem dX6_advance_124 : decode cX6_advance 124 = .ok (.iconst 2, 1) ∧ 124 + 1 = 125 := ⟨by decide +kernel, rfl⟩
set_option maxRecDepth 20000 in
theorem dX6_advance_125 : decode cX6_advance 125 = .ok (.putfield 58, 3) ∧ 125 + 3 = 128 := ⟨by decide +kernel, rfl⟩
set_option maxRecDepth 20000 in
theorem dX6_advance_128 : decode cX6_advance 128 = .ok (.iload_n 1, 1) ∧ 128 + 1 = 129 := ⟨by decide +kernel, rfl⟩
set_option maxRecDepth 20000 in
theorem dX6_advance_129 : decode cX6_advance 129 = .ok (.aload_n 0, 1) ∧ 129 + 1 = 130 := ⟨by decide +kernel, rfl⟩
set_option maxRecDepth 20000 in
theorem dX6_advance_130 : decode cX6_advance 130 = .ok (.getfield 9, 3) ∧ 130 + 3 = 133 := ⟨by decide +kernel, rfl⟩
set_option maxRecDepth 20000 in
theorem dX6_advance_133 : decode cX6_advance 133 = .ok (.getfield 73, 3) ∧ 133 + 3 = 136 := ⟨by decide +kernel, rfl⟩
set_option maxRecDepth 20000 in
theorem dX6_advance_136 : decode cX6_advance 136 = .ok (.if_icmp .ge 60, 3) ∧ 136 + 3 = 139 ∧ ((136 : Nat) : Int) + (60) = ((196 : Nat) : Int) := ⟨by decide +kernel, rfl, by decide⟩
set_option maxRecDepth 20000 in
theorem dX6_advance_139 : decode cX6_advance 139 = .ok (.aload_n 0, 1) ∧ 139 + 1 = 140 := ⟨by decide +kernel, rfl⟩
set_option maxRecDepth 20000 in
theorem dX6_advance_140 : decode cX6_advance 140 = .ok (.getfield 9, 3) ∧ 140 + 3 = 143 := ⟨by decide +kernel, rfl⟩
set_option maxRecDepth 20000 in
theorem dX6_advance_143 : decode cX6_advance 143 = .ok (.iload_n 1, 1) ∧ 143 + 1 = 144 := ⟨by decide +kernel, rfl⟩
set_option maxRecDepth 20000 in
theorem dX6_advance_144 : decode cX6_advance 144 = .ok (.invokevirtual 76, 3) ∧ 144 + 3 = 147 := ⟨by decide +kernel, rfl⟩
set_option maxRecDepth 20000 in
theorem dX6_advance_147 : decode cX6_advance 147 = .ok (.invokestatic 87, 3) ∧ 147 + 3 = 150 := ⟨by decide +kernel, rfl⟩
set_option maxRecDepth 20000 in
theorem dX6_advance_150 : decode cX6_advance 150 = .ok (.ifCond .eq 46, 3) ∧ 150 + 3 = 153 ∧ ((150 : Nat) : Int) + (46) = ((196 : Nat) : Int) := ⟨by decide +kernel, rfl, by decide⟩
set_option maxRecDepth 20000 in
theorem dX6_advance_153 : decode cX6_advance 153 = .ok (.aload_n 0, 1) ∧ 153 + 1 = 154 := ⟨by decide +kernel, rfl⟩
set_option maxRecDepth 20000 in
theorem dX6_advance_154 : decode cX6_advance 154 = .ok (.sipush 1001, 3) ∧ 154 + 3 = 157 := ⟨by decide +kernel, rfl⟩
set_option maxRecDepth 20000 in
theorem dX6_advance_157 : decode cX6_advance 157 = .ok (.aload_n 0, 1) ∧ 157 + 1 = 158 := ⟨by decide +kernel, rfl⟩
set_option maxRecDepth 20000 in
theorem dX6_advance_158 : decode cX6_advance 158 = .ok (.getfield 80, 3) ∧ 158 + 3 = 161 := ⟨by decide +kernel, rfl⟩
set_option maxRecDepth 20000 in
theorem dX6_advance_161 : decode cX6_advance 161 = .ok (.bipush 10, 2) ∧ 161 + 2 = 163 := ⟨by decide +kernel, rfl⟩
set_option maxRecDepth 20000 in
theorem dX6_advance_163 : decode cX6_advance 163 = .ok (.imul, 1) ∧ 163 + 1 = 164 := ⟨by decide +kernel, rfl⟩
set_option maxRecDepth 20000 in
theorem dX6_advance_164 : decode cX6_advance 164 = .ok (.aload_n 0, 1) ∧ 164 + 1 = 165 := ⟨by decide +kernel, rfl⟩
set_option maxRecDepth 20000 in
theorem dX6_advance_165 : decode cX6_advance 165 = .ok (.getfield 9, 3) ∧ 165 + 3 = 168 := ⟨by decide +kernel, rfl⟩
set_option maxRecDepth 20000 in
theorem dX6_advance_168 : decode cX6_advance 168 = .ok (.iload_n 1, 1) ∧ 168 + 1 = 169 := ⟨by decide +kernel, rfl⟩
set_option maxRecDepth 20000 in
theorem dX6_advance_169 : decode cX6_advance 169 = .ok (.invokevirtual 76, 3) ∧ 169 + 3 = 172 := ⟨by decide +kernel, rfl⟩
set_option maxRecDepth 20000 in
theorem dX6_advance_172 : decode cX6_advance 172 = .ok (.iadd, 1) ∧ 172 + 1 = 173 := ⟨by decide +kernel, rfl⟩
set_option maxRecDepth 20000 in
theorem dX6_advance_173 : decode cX6_advance 173 = .ok (.bipush 48, 2) ∧ 173 + 2 = 175 := ⟨by decide +kernel, rfl⟩
set_option maxRecDepth 20000 in
theorem dX6_advance_175 : decode cX6_advance 175 = .ok (.isub, 1) ∧ 175 + 1 = 176 := ⟨by decide +kernel, rfl⟩
set_option maxRecDepth 20000 in
theorem dX6_advance_176 : decode cX6_advance 176 = .ok (.invokestatic 90, 3) ∧ 176 + 3 = 179 := ⟨by decide +kernel, rfl⟩
set_option maxRecDepth 20000 in
theorem dX6_advance_179 : decode cX6_advance 179 = .ok (.putfield 80, 3) ∧ 179 + 3 = 182 := ⟨by decide +kernel, rfl⟩
set_option maxRecDepth 20000 in
theorem dX6_advance_182 : decode cX6_advance 182 = .ok (.iinc 1 1, 3) ∧ 182 + 3 = 185 := ⟨by decide +kernel, rfl⟩
set_option maxRecDepth 20000 in
theorem dX6_advance_185 : decode cX6_advance 185 = .ok (.goto (-57), 3) ∧ ((185 : Nat) : Int) + (-57) = ((128 : Nat) : Int) := ⟨by decide +kernel, by decide⟩
set_option maxRecDepth 20000 in
theorem dX6_advance_188 : decode cX6_advance 188 = .ok (.aload_n 0, 1) ∧ 188 + 1 = 189 := ⟨by decide +kernel, rfl⟩
set_option maxRecDepth 20000 in
theorem dX6_advance_189 : decode cX6_advance 189 = .ok (.iconst 3, 1) ∧ 189 + 1 = 190 := ⟨by decide +kernel, rfl⟩
set_option maxRecDepth 20000 in
theorem dX6_advance_190 : decode cX6_advance 190 = .ok (.putfield 58, 3) ∧ 190 + 3 = 193 := ⟨by decide +kernel, rfl⟩
set_option maxRecDepth 20000 in
theorem dX6_advance_193 : decode cX6_advance 193 = .ok (.iinc 1 1, 3) ∧ 193 + 3 = 196 := ⟨by decide +kernel, rfl⟩
set_option maxRecDepth 20000 in
theorem dX6_advance_196 : decode cX6_advance 196 = .ok (.aload_n 0, 1) ∧ 196 + 1 = 197 := ⟨by decide +kernel, rfl⟩
set_option maxRecDepth 20000 in
theorem dX6_advance_197 : decode cX6_advance 197 = .ok (.iload_n 1, 1) ∧ 197 + 1 = 198 := ⟨by decide +kernel, rfl⟩
set_option maxRecDepth 20000 in
theorem dX6_advance_198 : decode cX6_advance 198 = .ok (.putfield 44, 3) ∧ 198 + 3 = 201 := ⟨by decide +kernel, rfl⟩
set_option maxRecDepth 20000 in
theorem dX6_advance_201 : decode cX6_advance 201 = .ok (.return_, 1) := by decide +kernel
set_option maxRecDepth 20000 in
theorem dX6_isLetter_0 : decode cX6_isLetter 0 = .ok (.iload_n 0, 1) ∧ 0 + 1 = 1 := ⟨by decide +kernel, rfl⟩
set_option maxRecDepth 20000 in
theorem dX6_isLetter_1 : decode cX6_isLetter 1 = .ok (.bipush 97, 2) ∧ 1 + 2 = 3 := ⟨by decide +kernel, rfl⟩
set_option maxRecDepth 20000 in
theorem dX6_isLetter_3 : decode cX6_isLetter 3 = .ok (.if_icmp .lt 13, 3) ∧ 3 + 3 = 6 ∧ ((3 : Nat) : Int) + (13) = ((16 : Nat) : Int) := ⟨by decide +kernel, rfl, by decide⟩
set_option maxRecDepth 20000 in
theorem dX6_isLetter_6 : decode cX6_isLetter 6 = .ok (.iload_n 0, 1) ∧ 6 + 1 = 7 := ⟨by decide +kernel, rfl⟩
set_option maxRecDepth 20000 in
theorem dX6_isLetter_7 : decode cX6_isLetter 7 = .ok (.bipush 122, 2) ∧ 7 + 2 = 9 := ⟨by decide +kernel, rfl⟩
set_option maxRecDepth 20000 in
theorem dX6_isLetter_9 : decode cX6_isLetter 9 = .ok (.if_icmp .gt 7, 3) ∧ 9 + 3 = 12 ∧ ((9 : Nat) : Int) + (7) = ((16 : Nat) : Int) := ⟨by decide +kernel, rfl, by decide⟩
set_option maxRecDepth 20000 in
theorem dX6_isLetter_12 : decode cX6_isLetter 12 = .ok (.iconst 1, 1) ∧ 12 + 1 = 13 := ⟨by decide +kernel, rfl⟩
set_option maxRecDepth 20000 in
theorem dX6_isLetter_13 : decode cX6_isLetter 13 = .ok (.goto 4, 3) ∧ ((13 : Nat) : Int) + (4) = ((17 : Nat) : Int) := ⟨by decide +kernel, by decide⟩
set_option maxRecDepth 20000 in
theorem dX6_isLetter_16 : decode cX6_isLetter 16 = .ok (.iconst 0, 1) ∧ 16 + 1 = 17 := ⟨by decide +kernel, rfl⟩
set_option maxRecDepth 20000 in
theorem dX6_isLetter_17 : decode cX6_isLetter 17 = .ok (.ireturn, 1) := by decide +kernel
set_option maxRecDepth 20000 in
theorem dX6_isDigit_0 : decode cX6_isDigit 0 = .ok (.iload_n 0, 1) ∧ 0 + 1 = 1 := ⟨by decide +kernel, rfl⟩
set_option maxRecDepth 20000 in
theorem dX6_isDigit_1 : decode cX6_isDigit 1 = .ok (.bipush 48, 2) ∧ 1 + 2 = 3 := ⟨by decide +kernel, rfl⟩
set_option maxRecDepth 20000 in
theorem dX6_isDigit_3 : decode cX6_isDigit 3 = .ok (.if_icmp .lt 13, 3) ∧ 3 + 3 = 6 ∧ ((3 : Nat) : Int) + (13) = ((16 : Nat) : Int) := ⟨by decide +kernel, rfl, by decide⟩
set_option maxRecDepth 20000 in
theorem dX6_isDigit_6 : decode cX6_isDigit 6 = .ok (.iload_n 0, 1) ∧ 6 + 1 = 7 := ⟨by decide +kernel, rfl⟩
set_option maxRecDepth 20000 in
theorem dX6_isDigit_7 : decode cX6_isDigit 7 = .ok (.bipush 57, 2) ∧ 7 + 2 = 9 := ⟨by decide +kernel, rfl⟩
set_option maxRecDepth 20000 in
theorem dX6_isDigit_9 : decode cX6_isDigit 9 = .ok (.if_icmp .gt 7, 3) ∧ 9 + 3 = 12 ∧ ((9 : Nat) : Int) + (7) = ((16 : Nat) : Int) := ⟨by decide +kernel, rfl, by decide⟩
set_option maxRecDepth 20000 in
theorem dX6_isDigit_12 : decode cX6_isDigit 12 = .ok (.iconst 1, 1) ∧ 12 + 1 = 13 := ⟨by decide +kernel, rfl⟩
set_option maxRecDepth 20000 in
theorem dX6_isDigit_13 : decode cX6_isDigit 13 = .ok (.goto 4, 3) ∧ ((13 : Nat) : Int) + (4) = ((17 : Nat) : Int) := ⟨by decide +kernel, by decide⟩
set_option maxRecDepth 20000 in
theorem dX6_isDigit_16 : decode cX6_isDigit 16 = .ok (.iconst 0, 1) ∧ 16 + 1 = 17 := ⟨by decide +kernel, rfl⟩
set_option maxRecDepth 20000 in
theorem dX6_isDigit_17 : decode cX6_isDigit 17 = .ok (.ireturn, 1) := by decide +kernel
set_option maxRecDepth 20000 in
theorem dX6_isSign_0 : decode cX6_isSign 0 = .ok (.aload_n 0, 1) ∧ 0 + 1 = 1 := ⟨by decide +kernel, rfl⟩
set_option maxRecDepth 20000 in
theorem dX6_isSign_1 : decode cX6_isSign 1 = .ok (.getfield 58, 3) ∧ 1 + 3 = 4 := ⟨by decide +kernel, rfl⟩
set_option maxRecDepth 20000 in
theorem dX6_isSign_4 : decode cX6_isSign 4 = .ok (.iconst 3, 1) ∧ 4 + 1 = 5 := ⟨by decide +kernel, rfl⟩
set_option maxRecDepth 20000 in
theorem dX6_isSign_5 : decode cX6_isSign 5 = .ok (.if_icmp .ne 22, 3) ∧ 5 + 3 = 8 ∧ ((5 : Nat) : Int) + (22) = ((27 : Nat) : Int) := ⟨by decide +kernel, rfl, by decide⟩
set_option maxRecDepth 20000 in
theorem dX6_isSign_8 : decode cX6_isSign 8 = .ok (.aload_n 0, 1) ∧ 8 + 1 = 9 := ⟨by decide +kernel, rfl⟩
set_option maxRecDepth 20000 in
theorem dX6_isSign_9 : decode cX6_isSign 9 = .ok (.getfield 9, 3) ∧ 9 + 3 = 12 := ⟨by decide +kernel, rfl⟩
set_option maxRecDepth 20000 in
theorem dX6_isSign_12 : decode cX6_isSign 12 = .ok (.aload_n 0, 1) ∧ 12 + 1 = 13 := ⟨by decide +kernel, rfl⟩
set_option maxRecDepth 20000 in
theorem dX6_isSign_13 : decode cX6_isSign 13 = .ok (.getfield 70, 3) ∧ 13 + 3 = 16 := ⟨by decide +kernel, rfl⟩
set_option maxRecDepth 20000 in
theorem dX6_isSign_16 : decode cX6_isSign 16 = .ok (.invokevirtual 76, 3) ∧ 16 + 3 = 19 := ⟨by decide +kernel, rfl⟩
set_option maxRecDepth 20000 in
theorem dX6_isSign_19 : decode cX6_isSign 19 = .ok (.iload_n 1, 1) ∧ 19 + 1 = 20 := ⟨by decide +kernel, rfl⟩
set_option maxRecDepth 20000 in
theorem dX6_isSign_20 : decode cX6_isSign 20 = .ok (.if_icmp .ne 7, 3) ∧ 20 + 3 = 23 ∧ ((20 : Nat) : Int) + (7) = ((27 : Nat) : Int) := ⟨by decide +kernel, rfl, by decide⟩
set_option maxRecDepth 20000 in
theorem dX6_isSign_23 : decode cX6_isSign 23 = .ok (.iconst 1, 1) ∧ 23 + 1 = 24 := ⟨by decide +kernel, rfl⟩
set_option maxRecDepth 20000 in
theorem dX6_isSign_24 : decode cX6_isSign 24 = .ok (.goto 4, 3) ∧ ((24 : Nat) : Int) + (4) = ((28 : Nat) : Int) := ⟨by decide +kernel, by decide⟩
set_option maxRecDepth 20000 in
theorem dX6_isSign_27 : decode cX6_isSign 27 = .ok (.iconst 0, 1) ∧ 27 + 1 = 28 := ⟨by decide +kernel, rfl⟩
set_option maxRecDepth 20000 in
theorem dX6_isSign_28 : decode cX6_isSign 28 = .ok (.ireturn, 1) := by decide +kernel
set_option maxRecDepth 20000 in
theorem dX6_isWord_0 : decode cX6_isWord 0 = .ok (.aload_n 0, 1) ∧ 0 + 1 = 1 := ⟨by decide +kernel, rfl⟩
set_option maxRecDepth 20000 in
theorem dX6_isWord_1 : decode cX6_isWord 1 = .ok (.getfield 58, 3) ∧ 1 + 3 = 4 := ⟨by decide +kernel, rfl⟩
set_option maxRecDepth 20000 in
theorem dX6_isWord_4 : decode cX6_isWord 4 = .ok (.iconst 1, 1) ∧ 4 + 1 = 5 := ⟨by decide +kernel, rfl⟩
set_option maxRecDepth 20000 in
theorem dX6_isWord_5 : decode cX6_isWord 5 = .ok (.if_icmp .ne 19, 3) ∧ 5 + 3 = 8 ∧ ((5 : Nat) : Int) + (19) = ((24 : Nat) : Int) := ⟨by decide +kernel, rfl, by decide⟩
set_option maxRecDepth 20000 in
theorem dX6_isWord_8 : decode cX6_isWord 8 = .ok (.aload_n 0, 1) ∧ 8 + 1 = 9 := ⟨by decide +kernel, rfl⟩
set_option maxRecDepth 20000 in
theorem dX6_isWord_9 : decode cX6_isWord 9 = .ok (.getfield 44, 3) ∧ 9 + 3 = 12 := ⟨by decide +kernel, rfl⟩
set_option maxRecDepth 20000 in
theorem dX6_isWord_12 : decode cX6_isWord 12 = .ok (.aload_n 0, 1) ∧ 12 + 1 = 13 := ⟨by decide +kernel, rfl⟩
set_option maxRecDepth 20000 in
theorem dX6_isWord_13 : decode cX6_isWord 13 = .ok (.getfield 70, 3) ∧ 13 + 3 = 16 := ⟨by decide +kernel, rfl⟩
set_option maxRecDepth 20000 in
theorem dX6_isWord_16 : decode cX6_isWord 16 = .ok (.isub, 1) ∧ 16 + 1 = 17 := ⟨by decide +kernel, rfl⟩
set_option maxRecDepth 20000 in
theorem dX6_isWord_17 : decode cX6_isWord 17 = .ok (.aload_n 1, 1) ∧ 17 + 1 = 18 := ⟨by decide +kernel, rfl⟩
set_option maxRecDepth 20000 in
theorem dX6_isWord_18 : decode cX6_isWord 18 = .ok (.invokevirtual 96, 3) ∧ 18 + 3 = 21 := ⟨by decide +kernel, rfl⟩
set_option maxRecDepth 20000 in
theorem dX6_isWord_21 : decode cX6_isWord 21 = .ok (.if_icmp .eq 5, 3) ∧ 21 + 3 = 24 ∧ ((21 : Nat) : Int) + (5) = ((26 : Nat) : Int) := ⟨by decide +kernel, rfl, by decide⟩
set_option maxRecDepth 20000 in
theorem dX6_isWord_24 : decode cX6_isWord 24 = .ok (.iconst 0, 1) ∧ 24 + 1 = 25 := ⟨by decide +kernel, rfl⟩
set_option maxRecDepth 20000 in
theorem dX6_isWord_25 : decode cX6_isWord 25 = .ok (.ireturn, 1) := by decide +kernel
set_option maxRecDepth 20000 in
theorem dX6_isWord_26 : decode cX6_isWord 26 = .ok (.iconst 0, 1) ∧ 26 + 1 = 27 := ⟨by decide +kernel, rfl⟩
set_option maxRecDepth 20000 in
theorem dX6_isWord_27 : decode cX6_isWord 27 = .ok (.istore_n 2, 1) ∧ 27 + 1 = 28 := ⟨by decide +kernel, rfl⟩
set_option maxRecDepth 20000 in
theorem dX6_isWord_28 : decode cX6_isWord 28 = .ok (.iload_n 2, 1) ∧ 28 + 1 = 29 := ⟨by decide +kernel, rfl⟩
set_option maxRecDepth 20000 in
theorem dX6_isWord_29 : decode cX6_isWord 29 = .ok (.aload_n 1, 1) ∧ 29 + 1 = 30 := ⟨by decide +kernel, rfl⟩
set_option maxRecDepth 20000 in
theorem dX6_isWord_30 : decode cX6_isWord 30 = .ok (.invokevirtual 96, 3) ∧ 30 + 3 = 33 := ⟨by decide +kernel, rfl⟩
set_option maxRecDepth 20000 in
theorem dX6_isWord_33 : decode cX6_isWord 33 = .ok (.if_icmp .ge 33, 3) ∧ 33 + 3 = 36 ∧ ((33 : Nat) : Int) + (33) = ((66 : Nat) : Int) := ⟨by decide +kernel, rfl, by decide⟩
set_option maxRecDepth 20000 in
theorem dX6_isWord_36 : decode cX6_isWord 36 = .ok (.aload_n 0, 1) ∧ 36 + 1 = 37 := ⟨by decide +kernel, rfl⟩
set_option maxRecDepth 20000 in
theorem dX6_isWord_37 : decode cX6_isWord 37 = .ok (.getfield 9, 3) ∧ 37 + 3 = 40 := ⟨by decide +kernel, rfl⟩
set_option maxRecDepth 20000 in
theorem dX6_isWord_40 : decode cX6_isWord 40 = .ok (.getfield 101, 3) ∧ 40 + 3 = 43 := ⟨by decide +kernel, rfl⟩
set_option maxRecDepth 20000 in
theorem dX6_isWord_43 : decode cX6_isWord 43 = .ok (.aload_n 0, 1) ∧ 43 + 1 = 44 := ⟨by decide +kernel, rfl⟩
set_option maxRecDepth 20000 in
theorem dX6_isWord_44 : decode cX6_isWord 44 = .ok (.getfield 70, 3) ∧ 44 + 3 = 47 := ⟨by decide +kernel, rfl⟩
set_option maxRecDepth 20000 in
theorem dX6_isWord_47 : decode cX6_isWord 47 = .ok (.iload_n 2, 1) ∧ 47 + 1 = 48 := ⟨by decide +kernel, rfl⟩
set_option maxRecDepth 20000 in
theorem dX6_isWord_48 : decode cX6_isWord 48 = .ok (.iadd, 1) ∧ 48 + 1 = 49 := ⟨by decide +kernel, rfl⟩
set_option maxRecDepth 20000 in
theorem dX6_isWord_49 : decode cX6_isWord 49 = .ok (.iaload, 1) ∧ 49 + 1 = 50 := ⟨by decide +kernel, rfl⟩
set_option maxRecDepth 20000 in
theorem dX6_isWord_50 : decode cX6_isWord 50 = .ok (.aload_n 1, 1) ∧ 50 + 1 = 51 := ⟨by decide +kernel, rfl⟩
set_option maxRecDepth 20000 in
theorem dX6_isWord_51 : decode cX6_isWord 51 = .ok (.iload_n 2, 1) ∧ 51 + 1 = 52 := ⟨by decide +kernel, rfl⟩
set_option maxRecDepth 20000 in
theorem dX6_isWord_52 : decode cX6_isWord 52 = .ok (.invokevirtual 104, 3) ∧ 52 + 3 = 55 := ⟨by decide +kernel, rfl⟩
set_option maxRecDepth 20000 in
theorem dX6_isWord_55 : decode cX6_isWord 55 = .ok (.if_icmp .eq 5, 3) ∧ 55 + 3 = 58 ∧ ((55 : Nat) : Int) + (5) = ((60 : Nat) : Int) := ⟨by decide +kernel, rfl, by decide⟩
set_option maxRecDepth 20000 in
theorem dX6_isWord_58 : decode cX6_isWord 58 = .ok (.iconst 0, 1) ∧ 58 + 1 = 59 := ⟨by decide +kernel, rfl⟩
set_option maxRecDepth 20000 in
theorem dX6_isWord_59 : decode cX6_isWord 59 = .ok (.ireturn, 1) := by decide +kernel
set_option maxRecDepth 20000 in
theorem dX6_isWord_60 : decode cX6_isWord 60 = .ok (.iinc 2 1, 3) ∧ 60 + 3 = 63 := ⟨by decide +kernel, rfl⟩
set_option maxRecDepth 20000 in
theorem dX6_isWord_63 : decode cX6_isWord 63 = .ok (.goto (-35), 3) ∧ ((63 : Nat) : Int) + (-35) = ((28 : Nat) : Int) := ⟨by decide +kernel, by decide⟩
set_option maxRecDepth 20000 in
theorem dX6_isWord_66 : decode cX6_isWord 66 = .ok (.iconst 1, 1) ∧ 66 + 1 = 67 := ⟨by decide +kernel, rfl⟩
set_option maxRecDepth 20000 in
theorem dX6_isWord_67 : decode cX6_isWord 67 = .ok (.ireturn, 1) := by decide +kernel
set_option maxRecDepth 20000 in
theorem dX6_emit_0 : decode cX6_emit 0 = .ok (.aload_n 0, 1) ∧ 0 + 1 = 1 := ⟨by decide +kernel, rfl⟩
set_option maxRecDepth 20000 in
theorem dX6_emit_1 : decode cX6_emit 1 = .ok (.getfield 38, 3) ∧ 1 + 3 = 4 := ⟨by decide +kernel, rfl⟩
set_option maxRecDepth 20000 in
theorem dX6_emit_4 : decode cX6_emit 4 = .ok (.sipush 400, 3) ∧ 4 + 3 = 7 := ⟨by decide +kernel, rfl⟩
set_option maxRecDepth 20000 in
theorem dX6_emit_7 : decode cX6_emit 7 = .ok (.if_icmp .ge 29, 3) ∧ 7 + 3 = 10 ∧ ((7 : Nat) : Int) + (29) = ((36 : Nat) : Int) := ⟨by decide +kernel, rfl, by decide⟩
set_option maxRecDepth 20000 in
theorem dX6_emit_10 : decode cX6_emit 10 = .ok (.aload_n 0, 1) ∧ 10 + 1 = 11 := ⟨by decide +kernel, rfl⟩
set_option maxRecDepth 20000 in
theorem dX6_emit_11 : decode cX6_emit 11 = .ok (.getfield 27, 3) ∧ 11 + 3 = 14 := ⟨by decide +kernel, rfl⟩
set_option maxRecDepth 20000 in
theorem dX6_emit_14 : decode cX6_emit 14 = .ok (.aload_n 0, 1) ∧ 14 + 1 = 15 := ⟨by decide +kernel, rfl⟩
set_option maxRecDepth 20000 in
theorem dX6_emit_15 : decode cX6_emit 15 = .ok (.getfield 38, 3) ∧ 15 + 3 = 18 := ⟨by decide +kernel, rfl⟩
set_option maxRecDepth 20000 in
theorem dX6_emit_18 : decode cX6_emit 18 = .ok (.iload_n 1, 1) ∧ 18 + 1 = 19 := ⟨by decide +kernel, rfl⟩
set_option maxRecDepth 20000 in
theorem dX6_emit_19 : decode cX6_emit 19 = .ok (.sipush 1024, 3) ∧ 19 + 3 = 22 := ⟨by decide +kernel, rfl⟩
set_option maxRecDepth 20000 in
theorem dX6_emit_22 : decode cX6_emit 22 = .ok (.imul, 1) ∧ 22 + 1 = 23 := ⟨by decide +kernel, rfl⟩
set_option maxRecDepth 20000 in
theorem dX6_emit_23 : decode cX6_emit 23 = .ok (.iload_n 2, 1) ∧ 23 + 1 = 24 := ⟨by decide +kernel, rfl⟩
set_option maxRecDepth 20000 in
theorem dX6_emit_24 : decode cX6_emit 24 = .ok (.iadd, 1) ∧ 24 + 1 = 25 := ⟨by decide +kernel, rfl⟩
set_option maxRecDepth 20000 in
theorem dX6_emit_25 : decode cX6_emit 25 = .ok (.iastore, 1) ∧ 25 + 1 = 26 := ⟨by decide +kernel, rfl⟩
set_option maxRecDepth 20000 in
theorem dX6_emit_26 : decode cX6_emit 26 = .ok (.aload_n 0, 1) ∧ 26 + 1 = 27 := ⟨by decide +kernel, rfl⟩
set_option maxRecDepth 20000 in
theorem dX6_emit_27 : decode cX6_emit 27 = .ok (.dup, 1) ∧ 27 + 1 = 28 := ⟨by decide +kernel, rfl⟩
set_option maxRecDepth 20000 in
theorem dX6_emit_28 : decode cX6_emit 28 = .ok (.getfield 38, 3) ∧ 28 + 3 = 31 := ⟨by decide +kernel, rfl⟩
set_option maxRecDepth 20000 in
theorem dX6_emit_31 : decode cX6_emit 31 = .ok (.iconst 1, 1) ∧ 31 + 1 = 32 := ⟨by decide +kernel, rfl⟩
set_option maxRecDepth 20000 in
theorem dX6_emit_32 : decode cX6_emit 32 = .ok (.iadd, 1) ∧ 32 + 1 = 33 := ⟨by decide +kernel, rfl⟩
set_option maxRecDepth 20000 in
theorem dX6_emit_33 : decode cX6_emit 33 = .ok (.putfield 38, 3) ∧ 33 + 3 = 36 := ⟨by decide +kernel, rfl⟩
set_option maxRecDepth 20000 in
theorem dX6_emit_36 : decode cX6_emit 36 = .ok (.return_, 1) := by decide +kernel
set_option maxRecDepth 20000 in
theorem dX6_readClause_0 : decode cX6_readClause 0 = .ok (.aload_n 0, 1) ∧ 0 + 1 = 1 := ⟨by decide +kernel, rfl⟩
set_option maxRecDepth 20000 in
theorem dX6_readClause_1 : decode cX6_readClause 1 = .ok (.invokevirtual 108, 3) ∧ 1 + 3 = 4 := ⟨by decide +kernel, rfl⟩
set_option maxRecDepth 20000 in
theorem dX6_readClause_4 : decode cX6_readClause 4 = .ok (.istore_n 1, 1) ∧ 4 + 1 = 5 := ⟨by decide +kernel, rfl⟩
set_option maxRecDepth 20000 in
theorem dX6_readClause_5 : decode cX6_readClause 5 = .ok (.iload_n 1, 1) ∧ 5 + 1 = 6 := ⟨by decide +kernel, rfl⟩
set_option maxRecDepth 20000 in
theorem dX6_readClause_6 : decode cX6_readClause 6 = .ok (.iconst (-1), 1) ∧ 6 + 1 = 7 := ⟨by decide +kernel, rfl⟩
set_option maxRecDepth 20000 in
theorem dX6_readClause_7 : decode cX6_readClause 7 = .ok (.if_icmp .eq 12, 3) ∧ 7 + 3 = 10 ∧ ((7 : Nat) : Int) + (12) = ((19 : Nat) : Int) := ⟨by decide +kernel, rfl, by decide⟩
set_option maxRecDepth 20000 in
theorem dX6_readClause_10 : decode cX6_readClause 10 = .ok (.aload_n 0, 1) ∧ 10 + 1 = 11 := ⟨by decide +kernel, rfl⟩
set_option maxRecDepth 20000 in
theorem dX6_readClause_11 : decode cX6_readClause 11 = .ok (.getfield 34, 3) ∧ 11 + 3 = 14 := ⟨by decide +kernel, rfl⟩
set_option maxRecDepth 20000 in
theorem dX6_readClause_14 : decode cX6_readClause 14 = .ok (.bipush 12, 2) ∧ 14 + 2 = 16 := ⟨by decide +kernel, rfl⟩
set_option maxRecDepth 20000 in
theorem dX6_readClause_16 : decode cX6_readClause 16 = .ok (.if_icmp .lt 5, 3) ∧ 16 + 3 = 19 ∧ ((16 : Nat) : Int) + (5) = ((21 : Nat) : Int) := ⟨by decide +kernel, rfl, by decide⟩
set_option maxRecDepth 20000 in
theorem dX6_readClause_19 : decode cX6_readClause 19 = .ok (.iconst 0, 1) ∧ 19 + 1 = 20 := ⟨by decide +kernel, rfl⟩
set_option maxRecDepth 20000 in
theorem dX6_readClause_20 : decode cX6_readClause 20 = .ok (.ireturn, 1) := by decide +kernel
set_option maxRecDepth 20000 in
theorem dX6_readClause_21 : decode cX6_readClause 21 = .ok (.aload_n 0, 1) ∧ 21 + 1 = 22 := ⟨by decide +kernel, rfl⟩
set_option maxRecDepth 20000 in
theorem dX6_readClause_22 : decode cX6_readClause 22 = .ok (.invokevirtual 47, 3) ∧ 22 + 3 = 25 := ⟨by decide +kernel, rfl⟩
set_option maxRecDepth 20000 in
theorem dX6_readClause_25 : decode cX6_readClause 25 = .ok (.aload_n 0, 1) ∧ 25 + 1 = 26 := ⟨by decide +kernel, rfl⟩
set_option maxRecDepth 20000 in
theorem dX6_readClause_26 : decode cX6_readClause 26 = .ok (.iconst 0, 1) ∧ 26 + 1 = 27 := ⟨by decide +kernel, rfl⟩
set_option maxRecDepth 20000 in
theorem dX6_readClause_27 : decode cX6_readClause 27 = .ok (.invokevirtual 111, 3) ∧ 27 + 3 = 30 := ⟨by decide +kernel, rfl⟩
set_option maxRecDepth 20000 in
theorem dX6_readClause_30 : decode cX6_readClause 30 = .ok (.ifCond .ne 5, 3) ∧ 30 + 3 = 33 ∧ ((30 : Nat) : Int) + (5) = ((35 : Nat) : Int) := ⟨by decide +kernel, rfl, by decide⟩
set_option maxRecDepth 20000 in
theorem dX6_readClause_33 : decode cX6_readClause 33 = .ok (.iconst 0, 1) ∧ 33 + 1 = 34 := ⟨by decide +kernel, rfl⟩
set_option maxRecDepth 20000 in
theorem dX6_readClause_34 : decode cX6_readClause 34 = .ok (.ireturn, 1) := by decide +kernel
set_option maxRecDepth 20000 in
theorem dX6_readClause_35 : decode cX6_readClause 35 = .ok (.aload_n 0, 1) ∧ 35 + 1 = 36 := ⟨by decide +kernel, rfl⟩
set_option maxRecDepth 20000 in
theorem dX6_readClause_36 : decode cX6_readClause 36 = .ok (.getfield 38, 3) ∧ 36 + 3 = 39 := ⟨by decide +kernel, rfl⟩
set_option maxRecDepth 20000 in
theorem dX6_readClause_39 : decode cX6_readClause 39 = .ok (.istore_n 2, 1) ∧ 39 + 1 = 40 := ⟨by decide +kernel, rfl⟩
set_option maxRecDepth 20000 in
theorem dX6_readClause_40 : decode cX6_readClause 40 = .ok (.aload_n 0, 1) ∧ 40 + 1 = 41 := ⟨by decide +kernel, rfl⟩
set_option maxRecDepth 20000 in
theorem dX6_readClause_41 : decode cX6_readClause 41 = .ok (.ldc 114, 2) ∧ 41 + 2 = 43 := ⟨by decide +kernel, rfl⟩
set_option maxRecDepth 20000 in
theorem dX6_readClause_43 : decode cX6_readClause 43 = .ok (.invokevirtual 116, 3) ∧ 43 + 3 = 46 := ⟨by decide +kernel, rfl⟩
set_option maxRecDepth 20000 in
theorem dX6_readClause_46 : decode cX6_readClause 46 = .ok (.ifCond .eq 17, 3) ∧ 46 + 3 = 49 ∧ ((46 : Nat) : Int) + (17) = ((63 : Nat) : Int) := ⟨by decide +kernel, rfl, by decide⟩
set_option maxRecDepth 20000 in
theorem dX6_readClause_49 : decode cX6_readClause 49 = .ok (.aload_n 0, 1) ∧ 49 + 1 = 50 := ⟨by decide +kernel, rfl⟩
set_option maxRecDepth 20000 in
theorem dX6_readClause_50 : decode cX6_readClause 50 = .ok (.invokevirtual 47, 3) ∧ 50 + 3 = 53 := ⟨by decide +kernel, rfl⟩
set_option maxRecDepth 20000 in
theorem dX6_readClause_53 : decode cX6_readClause 53 = .ok (.aload_n 0, 1) ∧ 53 + 1 = 54 := ⟨by decide +kernel, rfl⟩
set_option maxRecDepth 20000 in
theorem dX6_readClause_54 : decode cX6_readClause 54 = .ok (.iconst 0, 1) ∧ 54 + 1 = 55 := ⟨by decide +kernel, rfl⟩
set_option maxRecDepth 20000 in
theorem dX6_readClause_55 : decode cX6_readClause 55 = .ok (.invokevirtual 120, 3) ∧ 55 + 3 = 58 := ⟨by decide +kernel, rfl⟩
set_option maxRecDepth 20000 in
theorem dX6_readClause_58 : decode cX6_readClause 58 = .ok (.ifCond .ne 5, 3) ∧ 58 + 3 = 61 ∧ ((58 : Nat) : Int) + (5) = ((63 : Nat) : Int) := ⟨by decide +kernel, rfl, by decide⟩
set_option maxRecDepth 20000 in
theorem dX6_readClause_61 : decode cX6_readClause 61 = .ok (.iconst 0, 1) ∧ 61 + 1 = 62 := ⟨by decide +kernel, rfl⟩
set_option maxRecDepth 20000 in
theorem dX6_readClause_62 : decode cX6_readClause 62 = .ok (.ireturn, 1) := by decide +kernel
set_option maxRecDepth 20000 in
theorem dX6_readClause_63 : decode cX6_readClause 63 = .ok (.aload_n 0, 1) ∧ 63 + 1 = 64 := ⟨by decide +kernel, rfl⟩
set_option maxRecDepth 20000 in
theorem dX6_readClause_64 : decode cX6_readClause 64 = .ok (.getfield 17, 3) ∧ 64 + 3 = 67 := ⟨by decide +kernel, rfl⟩
set_option maxRecDepth 20000 in
theorem dX6_readClause_67 : decode cX6_readClause 67 = .ok (.aload_n 0, 1) ∧ 67 + 1 = 68 := ⟨by decide +kernel, rfl⟩
set_option maxRecDepth 20000 in
theorem dX6_readClause_68 : decode cX6_readClause 68 = .ok (.getfield 34, 3) ∧ 68 + 3 = 71 := ⟨by decide +kernel, rfl⟩
set_option maxRecDepth 20000 in
theorem dX6_readClause_71 : decode cX6_readClause 71 = .ok (.iload_n 1, 1) ∧ 71 + 1 = 72 := ⟨by decide +kernel, rfl⟩
set_option maxRecDepth 20000 in
theorem dX6_readClause_72 : decode cX6_readClause 72 = .ok (.iastore, 1) ∧ 72 + 1 = 73 := ⟨by decide +kernel, rfl⟩
set_option maxRecDepth 20000 in
theorem dX6_readClause_73 : decode cX6_readClause 73 = .ok (.aload_n 0, 1) ∧ 73 + 1 = 74 := ⟨by decide +kernel, rfl⟩
set_option maxRecDepth 20000 in
theorem dX6_readClause_74 : decode cX6_readClause 74 = .ok (.getfield 21, 3) ∧ 74 + 3 = 77 := ⟨by decide +kernel, rfl⟩
set_option maxRecDepth 20000 in
theorem dX6_readClause_77 : decode cX6_readClause 77 = .ok (.aload_n 0, 1) ∧ 77 + 1 = 78 := ⟨by decide +kernel, rfl⟩
set_option maxRecDepth 20000 in
theorem dX6_readClause_78 : decode cX6_readClause 78 = .ok (.getfield 34, 3) ∧ 78 + 3 = 81 := ⟨by decide +kernel, rfl⟩
set_option maxRecDepth 20000 in
theorem dX6_readClause_81 : decode cX6_readClause 81 = .ok (.iload_n 2, 1) ∧ 81 + 1 = 82 := ⟨by decide +kernel, rfl⟩
set_option maxRecDepth 20000 in
theorem dX6_readClause_82 : decode cX6_readClause 82 = .ok (.iastore, 1) ∧ 82 + 1 = 83 := ⟨by decide +kernel, rfl⟩
set_option maxRecDepth 20000 in
theorem dX6_readClause_83 : decode cX6_readClause 83 = .ok (.aload_n 0, 1) ∧ 83 + 1 = 84 := ⟨by decide +kernel, rfl⟩
set_option maxRecDepth 20000 in
theorem dX6_readClause_84 : decode cX6_readClause 84 = .ok (.getfield 24, 3) ∧ 84 + 3 = 87 := ⟨by decide +kernel, rfl⟩
set_option maxRecDepth 20000 in
theorem dX6_readClause_87 : decode cX6_readClause 87 = .ok (.aload_n 0, 1) ∧ 87 + 1 = 88 := ⟨by decide +kernel, rfl⟩
set_option maxRecDepth 20000 in
theorem dX6_readClause_88 : decode cX6_readClause 88 = .ok (.getfield 34, 3) ∧ 88 + 3 = 91 := ⟨by decide +kernel, rfl⟩
set_option maxRecDepth 20000 in
theorem dX6_readClause_91 : decode cX6_readClause 91 = .ok (.aload_n 0, 1) ∧ 91 + 1 = 92 := ⟨by decide +kernel, rfl⟩
set_option maxRecDepth 20000 in
theorem dX6_readClause_92 : decode cX6_readClause 92 = .ok (.getfield 38, 3) ∧ 92 + 3 = 95 := ⟨by decide +kernel, rfl⟩
set_option maxRecDepth 20000 in
theorem dX6_readClause_95 : decode cX6_readClause 95 = .ok (.iastore, 1) ∧ 95 + 1 = 96 := ⟨by decide +kernel, rfl⟩
set_option maxRecDepth 20000 in
theorem dX6_readClause_96 : decode cX6_readClause 96 = .ok (.aload_n 0, 1) ∧ 96 + 1 = 97 := ⟨by decide +kernel, rfl⟩
set_option maxRecDepth 20000 in
theorem dX6_readClause_97 : decode cX6_readClause 97 = .ok (.dup, 1) ∧ 97 + 1 = 98 := ⟨by decide +kernel, rfl⟩
set_option maxRecDepth 20000 in
theorem dX6_readClause_98 : decode cX6_readClause 98 = .ok (.getfield 34, 3) ∧ 98 + 3 = 101 := ⟨by decide +kernel, rfl⟩
set_option maxRecDepth 20000 in
theorem dX6_readClause_101 : decode cX6_readClause 101 = .ok (.iconst 1, 1) ∧ 101 + 1 = 102 := ⟨by decide +kernel, rfl⟩
set_option maxRecDepth 20000 in
theorem dX6_readClause_102 : decode cX6_readClause 102 = .ok (.iadd, 1) ∧ 102 + 1 = 103 := ⟨by decide +kernel, rfl⟩
set_option maxRecDepth 20000 in
theorem dX6_readClause_103 : decode cX6_readClause 103 = .ok (.putfield 34, 3) ∧ 103 + 3 = 106 := ⟨by decide +kernel, rfl⟩
set_option maxRecDepth 20000 in
theorem dX6_readClause_106 : decode cX6_readClause 106 = .ok (.iconst 1, 1) ∧ 106 + 1 = 107 := ⟨by decide +kernel, rfl⟩
set_option maxRecDepth 20000 in
theorem dX6_readClause_107 : decode cX6_readClause 107 = .ok (.ireturn, 1) := by decide +kernel
set_option maxRecDepth 20000 in
theorem dX6_headRead_0 : decode cX6_headRead 0 = .ok (.aload_n 0, 1) ∧ 0 + 1 = 1 := ⟨by decide +kernel, rfl⟩
set_option maxRecDepth 20000 in
theorem dX6_headRead_1 : decode cX6_headRead 1 = .ok (.ldc 123, 2) ∧ 1 + 2 = 3 := ⟨by decide +kernel, rfl⟩
set_option maxRecDepth 20000 in
theorem dX6_headRead_3 : decode cX6_headRead 3 = .ok (.invokevirtual 116, 3) ∧ 3 + 3 = 6 := ⟨by decide +kernel, rfl⟩
set_option maxRecDepth 20000 in
theorem dX6_headRead_6 : decode cX6_headRead 6 = .ok (.ifCond .eq 5, 3) ∧ 6 + 3 = 9 ∧ ((6 : Nat) : Int) + (5) = ((11 : Nat) : Int) := ⟨by decide +kernel, rfl, by decide⟩
set_option maxRecDepth 20000 in
theorem dX6_headRead_9 : decode cX6_headRead 9 = .ok (.iconst 0, 1) ∧ 9 + 1 = 10 := ⟨by decide +kernel, rfl⟩
set_option maxRecDepth 20000 in
theorem dX6_headRead_10 : decode cX6_headRead 10 = .ok (.ireturn, 1) := by decide +kernel
set_option maxRecDepth 20000 in
theorem dX6_headRead_11 : decode cX6_headRead 11 = .ok (.aload_n 0, 1) ∧ 11 + 1 = 12 := ⟨by decide +kernel, rfl⟩
set_option maxRecDepth 20000 in
theorem dX6_headRead_12 : decode cX6_headRead 12 = .ok (.ldc 125, 2) ∧ 12 + 2 = 14 := ⟨by decide +kernel, rfl⟩
set_option maxRecDepth 20000 in
theorem dX6_headRead_14 : decode cX6_headRead 14 = .ok (.invokevirtual 116, 3) ∧ 14 + 3 = 17 := ⟨by decide +kernel, rfl⟩
set_option maxRecDepth 20000 in
theorem dX6_headRead_17 : decode cX6_headRead 17 = .ok (.ifCond .eq 5, 3) ∧ 17 + 3 = 20 ∧ ((17 : Nat) : Int) + (5) = ((22 : Nat) : Int) := ⟨by decide +kernel, rfl, by decide⟩
set_option maxRecDepth 20000 in
theorem dX6_headRead_20 : decode cX6_headRead 20 = .ok (.iconst 1, 1) ∧ 20 + 1 = 21 := ⟨by decide +kernel, rfl⟩
set_option maxRecDepth 20000 in
theorem dX6_headRead_21 : decode cX6_headRead 21 = .ok (.ireturn, 1) := by decide +kernel
set_option maxRecDepth 20000 in
theorem dX6_headRead_22 : decode cX6_headRead 22 = .ok (.aload_n 0, 1) ∧ 22 + 1 = 23 := ⟨by decide +kernel, rfl⟩
set_option maxRecDepth 20000 in
theorem dX6_headRead_23 : decode cX6_headRead 23 = .ok (.ldc 127, 2) ∧ 23 + 2 = 25 := ⟨by decide +kernel, rfl⟩
set_option maxRecDepth 20000 in
theorem dX6_headRead_25 : decode cX6_headRead 25 = .ok (.invokevirtual 116, 3) ∧ 25 + 3 = 28 := ⟨by decide +kernel, rfl⟩
set_option maxRecDepth 20000 in
theorem dX6_headRead_28 : decode cX6_headRead 28 = .ok (.ifCond .eq 7, 3) ∧ 28 + 3 = 31 ∧ ((28 : Nat) : Int) + (7) = ((35 : Nat) : Int) := ⟨by decide +kernel, rfl, by decide⟩
set_option maxRecDepth 20000 in
theorem dX6_headRead_31 : decode cX6_headRead 31 = .ok (.iconst 2, 1) ∧ 31 + 1 = 32 := ⟨by decide +kernel, rfl⟩
set_option maxRecDepth 20000 in
theorem dX6_headRead_32 : decode cX6_headRead 32 = .ok (.goto 4, 3) ∧ ((32 : Nat) : Int) + (4) = ((36 : Nat) : Int) := ⟨by decide +kernel, by decide⟩
set_option maxRecDepth 20000 in
theorem dX6_headRead_35 : decode cX6_headRead 35 = .ok (.iconst (-1), 1) ∧ 35 + 1 = 36 := ⟨by decide +kernel, rfl⟩
set_option maxRecDepth 20000 in
theorem dX6_headRead_36 : decode cX6_headRead 36 = .ok (.ireturn, 1) := by decide +kernel
set_option maxRecDepth 20000 in
theorem dX6_readTest_0 : decode cX6_readTest 0 = .ok (.aload_n 0, 1) ∧ 0 + 1 = 1 := ⟨by decide +kernel, rfl⟩
set_option maxRecDepth 20000 in
theorem dX6_readTest_1 : decode cX6_readTest 1 = .ok (.iload_n 1, 1) ∧ 1 + 1 = 2 := ⟨by decide +kernel, rfl⟩
set_option maxRecDepth 20000 in
theorem dX6_readTest_2 : decode cX6_readTest 2 = .ok (.invokevirtual 129, 3) ∧ 2 + 3 = 5 := ⟨by decide +kernel, rfl⟩
set_option maxRecDepth 20000 in
theorem dX6_readTest_5 : decode cX6_readTest 5 = .ok (.istore_n 2, 1) ∧ 5 + 1 = 6 := ⟨by decide +kernel, rfl⟩
set_option maxRecDepth 20000 in
theorem dX6_readTest_6 : decode cX6_readTest 6 = .ok (.iconst 0, 1) ∧ 6 + 1 = 7 := ⟨by decide +kernel, rfl⟩
set_option maxRecDepth 20000 in
theorem dX6_readTest_7 : decode cX6_readTest 7 = .ok (.istore_n 3, 1) ∧ 7 + 1 = 8 := ⟨by decide +kernel, rfl⟩
set_option maxRecDepth 20000 in
theorem dX6_readTest_8 : decode cX6_readTest 8 = .ok (.iload_n 3, 1) ∧ 8 + 1 = 9 := ⟨by decide +kernel, rfl⟩
set_option maxRecDepth 20000 in
theorem dX6_readTest_9 : decode cX6_readTest 9 = .ok (.sipush 400, 3) ∧ 9 + 3 = 12 := ⟨by decide +kernel, rfl⟩
set_option maxRecDepth 20000 in
theorem dX6_readTest_12 : decode cX6_readTest 12 = .ok (.if_icmp .ge 51, 3) ∧ 12 + 3 = 15 ∧ ((12 : Nat) : Int) + (51) = ((63 : Nat) : Int) := ⟨by decide +kernel, rfl, by decide⟩
set_option maxRecDepth 20000 in
theorem dX6_readTest_15 : decode cX6_readTest 15 = .ok (.iload_n 2, 1) ∧ 15 + 1 = 16 := ⟨by decide +kernel, rfl⟩
set_option maxRecDepth 20000 in
theorem dX6_readTest_16 : decode cX6_readTest 16 = .ok (.ifCond .eq 47, 3) ∧ 16 + 3 = 19 ∧ ((16 : Nat) : Int) + (47) = ((63 : Nat) : Int) := ⟨by decide +kernel, rfl, by decide⟩
set_option maxRecDepth 20000 in
theorem dX6_readTest_19 : decode cX6_readTest 19 = .ok (.aload_n 0, 1) ∧ 19 + 1 = 20 := ⟨by decide +kernel, rfl⟩
set_option maxRecDepth 20000 in
theorem dX6_readTest_20 : decode cX6_readTest 20 = .ok (.ldc 132, 2) ∧ 20 + 2 = 22 := ⟨by decide +kernel, rfl⟩
set_option maxRecDepth 20000 in
theorem dX6_readTest_22 : decode cX6_readTest 22 = .ok (.invokevirtual 116, 3) ∧ 22 + 3 = 25 := ⟨by decide +kernel, rfl⟩
set_option maxRecDepth 20000 in
theorem dX6_readTest_25 : decode cX6_readTest 25 = .ok (.ifCond .eq 38, 3) ∧ 25 + 3 = 28 ∧ ((25 : Nat) : Int) + (38) = ((63 : Nat) : Int) := ⟨by decide +kernel, rfl, by decide⟩
set_option maxRecDepth 20000 in
theorem dX6_readTest_28 : decode cX6_readTest 28 = .ok (.aload_n 0, 1) ∧ 28 + 1 = 29 := ⟨by decide +kernel, rfl⟩
set_option maxRecDepth 20000 in
theorem dX6_readTest_29 : decode cX6_readTest 29 = .ok (.getfield 38, 3) ∧ 29 + 3 = 32 := ⟨by decide +kernel, rfl⟩
set_option maxRecDepth 20000 in
theorem dX6_readTest_32 : decode cX6_readTest 32 = .ok (.istore 4, 2) ∧ 32 + 2 = 34 := ⟨by decide +kernel, rfl⟩
set_option maxRecDepth 20000 in
theorem dX6_readTest_34 : decode cX6_readTest 34 = .ok (.aload_n 0, 1) ∧ 34 + 1 = 35 := ⟨by decide +kernel, rfl⟩
set_option maxRecDepth 20000 in
theorem dX6_readTest_35 : decode cX6_readTest 35 = .ok (.bipush 10, 2) ∧ 35 + 2 = 37 := ⟨by decide +kernel, rfl⟩
set_option maxRecDepth 20000 in
theorem dX6_readTest_37 : decode cX6_readTest 37 = .ok (.iconst 0, 1) ∧ 37 + 1 = 38 := ⟨by decide +kernel, rfl⟩
set_option maxRecDepth 20000 in
theorem dX6_readTest_38 : decode cX6_readTest 38 = .ok (.invokevirtual 134, 3) ∧ 38 + 3 = 41 := ⟨by decide +kernel, rfl⟩
set_option maxRecDepth 20000 in
theorem dX6_readTest_41 : decode cX6_readTest 41 = .ok (.aload_n 0, 1) ∧ 41 + 1 = 42 := ⟨by decide +kernel, rfl⟩
set_option maxRecDepth 20000 in
theorem dX6_readTest_42 : decode cX6_readTest 42 = .ok (.invokevirtual 47, 3) ∧ 42 + 3 = 45 := ⟨by decide +kernel, rfl⟩
set_option maxRecDepth 20000 in
theorem dX6_readTest_45 : decode cX6_readTest 45 = .ok (.aload_n 0, 1) ∧ 45 + 1 = 46 := ⟨by decide +kernel, rfl⟩
set_option maxRecDepth 20000 in
theorem dX6_readTest_46 : decode cX6_readTest 46 = .ok (.iload_n 1, 1) ∧ 46 + 1 = 47 := ⟨by decide +kernel, rfl⟩
set_option maxRecDepth 20000 in
theorem dX6_readTest_47 : decode cX6_readTest 47 = .ok (.invokevirtual 129, 3) ∧ 47 + 3 = 50 := ⟨by decide +kernel, rfl⟩
set_option maxRecDepth 20000 in
theorem dX6_readTest_50 : decode cX6_readTest 50 = .ok (.istore_n 2, 1) ∧ 50 + 1 = 51 := ⟨by decide +kernel, rfl⟩
set_option maxRecDepth 20000 in
theorem dX6_readTest_51 : decode cX6_readTest 51 = .ok (.aload_n 0, 1) ∧ 51 + 1 = 52 := ⟨by decide +kernel, rfl⟩
set_option maxRecDepth 20000 in
theorem dX6_readTest_52 : decode cX6_readTest 52 = .ok (.iload 4, 2) ∧ 52 + 2 = 54 := ⟨by decide +kernel, rfl⟩
set_option maxRecDepth 20000 in
theorem dX6_readTest_54 : decode cX6_readTest 54 = .ok (.invokevirtual 138, 3) ∧ 54 + 3 = 57 := ⟨by decide +kernel, rfl⟩
set_option maxRecDepth 20000 in
theorem dX6_readTest_57 : decode cX6_readTest 57 = .ok (.iinc 3 1, 3) ∧ 57 + 3 = 60 := ⟨by decide +kernel, rfl⟩
set_option maxRecDepth 20000 in
theorem dX6_readTest_60 : decode cX6_readTest 60 = .ok (.goto (-52), 3) ∧ ((60 : Nat) : Int) + (-52) = ((8 : Nat) : Int) := ⟨by decide +kernel, by decide⟩
set_option maxRecDepth 20000 in
theorem dX6_readTest_63 : decode cX6_readTest 63 = .ok (.iload_n 2, 1) ∧ 63 + 1 = 64 := ⟨by decide +kernel, rfl⟩
set_option maxRecDepth 20000 in
theorem dX6_readTest_64 : decode cX6_readTest 64 = .ok (.ireturn, 1) := by decide +kernel
set_option maxRecDepth 20000 in
theorem dX6_readBoth_0 : decode cX6_readBoth 0 = .ok (.aload_n 0, 1) ∧ 0 + 1 = 1 := ⟨by decide +kernel, rfl⟩
set_option maxRecDepth 20000 in
theorem dX6_readBoth_1 : decode cX6_readBoth 1 = .ok (.iload_n 1, 1) ∧ 1 + 1 = 2 := ⟨by decide +kernel, rfl⟩
set_option maxRecDepth 20000 in
theorem dX6_readBoth_2 : decode cX6_readBoth 2 = .ok (.invokevirtual 142, 3) ∧ 2 + 3 = 5 := ⟨by decide +kernel, rfl⟩
set_option maxRecDepth 20000 in
theorem dX6_readBoth_5 : decode cX6_readBoth 5 = .ok (.istore_n 2, 1) ∧ 5 + 1 = 6 := ⟨by decide +kernel, rfl⟩
set_option maxRecDepth 20000 in
theorem dX6_readBoth_6 : decode cX6_readBoth 6 = .ok (.iconst 0, 1) ∧ 6 + 1 = 7 := ⟨by decide +kernel, rfl⟩
set_option maxRecDepth 20000 in
theorem dX6_readBoth_7 : decode cX6_readBoth 7 = .ok (.istore_n 3, 1) ∧ 7 + 1 = 8 := ⟨by decide +kernel, rfl⟩
set_option maxRecDepth 20000 in
theorem dX6_readBoth_8 : decode cX6_readBoth 8 = .ok (.iload_n 3, 1) ∧ 8 + 1 = 9 := ⟨by decide +kernel, rfl⟩
set_option maxRecDepth 20000 in
theorem dX6_readBoth_9 : decode cX6_readBoth 9 = .ok (.sipush 400, 3) ∧ 9 + 3 = 12 := ⟨by decide +kernel, rfl⟩
set_option maxRecDepth 20000 in
theorem dX6_readBoth_12 : decode cX6_readBoth 12 = .ok (.if_icmp .ge 51, 3) ∧ 12 + 3 = 15 ∧ ((12 : Nat) : Int) + (51) = ((63 : Nat) : Int) := ⟨by decide +kernel, rfl, by decide⟩
set_option maxRecDepth 20000 in
theorem dX6_readBoth_15 : decode cX6_readBoth 15 = .ok (.iload_n 2, 1) ∧ 15 + 1 = 16 := ⟨by decide +kernel, rfl⟩
set_option maxRecDepth 20000 in
theorem dX6_readBoth_16 : decode cX6_readBoth 16 = .ok (.ifCond .eq 47, 3) ∧ 16 + 3 = 19 ∧ ((16 : Nat) : Int) + (47) = ((63 : Nat) : Int) := ⟨by decide +kernel, rfl, by decide⟩
set_option maxRecDepth 20000 in
theorem dX6_readBoth_19 : decode cX6_readBoth 19 = .ok (.aload_n 0, 1) ∧ 19 + 1 = 20 := ⟨by decide +kernel, rfl⟩
set_option maxRecDepth 20000 in
theorem dX6_readBoth_20 : decode cX6_readBoth 20 = .ok (.ldc 145, 2) ∧ 20 + 2 = 22 := ⟨by decide +kernel, rfl⟩
set_option maxRecDepth 20000 in
theorem dX6_readBoth_22 : decode cX6_readBoth 22 = .ok (.invokevirtual 116, 3) ∧ 22 + 3 = 25 := ⟨by decide +kernel, rfl⟩
set_option maxRecDepth 20000 in
theorem dX6_readBoth_25 : decode cX6_readBoth 25 = .ok (.ifCond .eq 38, 3) ∧ 25 + 3 = 28 ∧ ((25 : Nat) : Int) + (38) = ((63 : Nat) : Int) := ⟨by decide +kernel, rfl, by decide⟩
set_option maxRecDepth 20000 in
theorem dX6_readBoth_28 : decode cX6_readBoth 28 = .ok (.aload_n 0, 1) ∧ 28 + 1 = 29 := ⟨by decide +kernel, rfl⟩
set_option maxRecDepth 20000 in
theorem dX6_readBoth_29 : decode cX6_readBoth 29 = .ok (.getfield 38, 3) ∧ 29 + 3 = 32 := ⟨by decide +kernel, rfl⟩
set_option maxRecDepth 20000 in
theorem dX6_readBoth_32 : decode cX6_readBoth 32 = .ok (.istore 4, 2) ∧ 32 + 2 = 34 := ⟨by decide +kernel, rfl⟩
set_option maxRecDepth 20000 in
theorem dX6_readBoth_34 : decode cX6_readBoth 34 = .ok (.aload_n 0, 1) ∧ 34 + 1 = 35 := ⟨by decide +kernel, rfl⟩
set_option maxRecDepth 20000 in
theorem dX6_readBoth_35 : decode cX6_readBoth 35 = .ok (.bipush 11, 2) ∧ 35 + 2 = 37 := ⟨by decide +kernel, rfl⟩
set_option maxRecDepth 20000 in
theorem dX6_readBoth_37 : decode cX6_readBoth 37 = .ok (.iconst 0, 1) ∧ 37 + 1 = 38 := ⟨by decide +kernel, rfl⟩
set_option maxRecDepth 20000 in
theorem dX6_readBoth_38 : decode cX6_readBoth 38 = .ok (.invokevirtual 134, 3) ∧ 38 + 3 = 41 := ⟨by decide +kernel, rfl⟩
set_option maxRecDepth 20000 in
theorem dX6_readBoth_41 : decode cX6_readBoth 41 = .ok (.aload_n 0, 1) ∧ 41 + 1 = 42 := ⟨by decide +kernel, rfl⟩
set_option maxRecDepth 20000 in
theorem dX6_readBoth_42 : decode cX6_readBoth 42 = .ok (.invokevirtual 47, 3) ∧ 42 + 3 = 45 := ⟨by decide +kernel, rfl⟩
set_option maxRecDepth 20000 in
theorem dX6_readBoth_45 : decode cX6_readBoth 45 = .ok (.aload_n 0, 1) ∧ 45 + 1 = 46 := ⟨by decide +kernel, rfl⟩
set_option maxRecDepth 20000 in
theorem dX6_readBoth_46 : decode cX6_readBoth 46 = .ok (.iload_n 1, 1) ∧ 46 + 1 = 47 := ⟨by decide +kernel, rfl⟩
set_option maxRecDepth 20000 in
theorem dX6_readBoth_47 : decode cX6_readBoth 47 = .ok (.invokevirtual 142, 3) ∧ 47 + 3 = 50 := ⟨by decide +kernel, rfl⟩
set_option maxRecDepth 20000 in
theorem dX6_readBoth_50 : decode cX6_readBoth 50 = .ok (.istore_n 2, 1) ∧ 50 + 1 = 51 := ⟨by decide +kernel, rfl⟩
set_option maxRecDepth 20000 in
theorem dX6_readBoth_51 : decode cX6_readBoth 51 = .ok (.aload_n 0, 1) ∧ 51 + 1 = 52 := ⟨by decide +kernel, rfl⟩
set_option maxRecDepth 20000 in
theorem dX6_readBoth_52 : decode cX6_readBoth 52 = .ok (.iload 4, 2) ∧ 52 + 2 = 54 := ⟨by decide +kernel, rfl⟩
set_option maxRecDepth 20000 in
theorem dX6_readBoth_54 : decode cX6_readBoth 54 = .ok (.invokevirtual 138, 3) ∧ 54 + 3 = 57 := ⟨by decide +kernel, rfl⟩
set_option maxRecDepth 20000 in
theorem dX6_readBoth_57 : decode cX6_readBoth 57 = .ok (.iinc 3 1, 3) ∧ 57 + 3 = 60 := ⟨by decide +kernel, rfl⟩
set_option maxRecDepth 20000 in
theorem dX6_readBoth_60 : decode cX6_readBoth 60 = .ok (.goto (-52), 3) ∧ ((60 : Nat) : Int) + (-52) = ((8 : Nat) : Int) := ⟨by decide +kernel, by decide⟩
set_option maxRecDepth 20000 in
theorem dX6_readBoth_63 : decode cX6_readBoth 63 = .ok (.iload_n 2, 1) ∧ 63 + 1 = 64 := ⟨by decide +kernel, rfl⟩
set_option maxRecDepth 20000 in
theorem dX6_readBoth_64 : decode cX6_readBoth 64 = .ok (.ireturn, 1) := by decide +kernel
set_option maxRecDepth 20000 in
theorem dX6_aimHere_0 : decode cX6_aimHere 0 = .ok (.iload_n 1, 1) ∧ 0 + 1 = 1 := ⟨by decide +kernel, rfl⟩
set_option maxRecDepth 20000 in
theorem dX6_aimHere_1 : decode cX6_aimHere 1 = .ok (.ifCond .lt 23, 3) ∧ 1 + 3 = 4 ∧ ((1 : Nat) : Int) + (23) = ((24 : Nat) : Int) := ⟨by decide +kernel, rfl, by decide⟩
set_option maxRecDepth 20000 in
theorem dX6_aimHere_4 : decode cX6_aimHere 4 = .ok (.iload_n 1, 1) ∧ 4 + 1 = 5 := ⟨by decide +kernel, rfl⟩
set_option maxRecDepth 20000 in
theorem dX6_aimHere_5 : decode cX6_aimHere 5 = .ok (.sipush 400, 3) ∧ 5 + 3 = 8 := ⟨by decide +kernel, rfl⟩
set_option maxRecDepth 20000 in
theorem dX6_aimHere_8 : decode cX6_aimHere 8 = .ok (.if_icmp .ge 16, 3) ∧ 8 + 3 = 11 ∧ ((8 : Nat) : Int) + (16) = ((24 : Nat) : Int) := ⟨by decide +kernel, rfl, by decide⟩
set_option maxRecDepth 20000 in
theorem dX6_aimHere_11 : decode cX6_aimHere 11 = .ok (.aload_n 0, 1) ∧ 11 + 1 = 12 := ⟨by decide +kernel, rfl⟩
set_option maxRecDepth 20000 in
theorem dX6_aimHere_12 : decode cX6_aimHere 12 = .ok (.getfield 27, 3) ∧ 12 + 3 = 15 := ⟨by decide +kernel, rfl⟩
set_option maxRecDepth 20000 in
theorem dX6_aimHere_15 : decode cX6_aimHere 15 = .ok (.iload_n 1, 1) ∧ 15 + 1 = 16 := ⟨by decide +kernel, rfl⟩
set_option maxRecDepth 20000 in
theorem dX6_aimHere_16 : decode cX6_aimHere 16 = .ok (.dup2, 1) ∧ 16 + 1 = 17 := ⟨by decide +kernel, rfl⟩
set_option maxRecDepth 20000 in
theorem dX6_aimHere_17 : decode cX6_aimHere 17 = .ok (.iaload, 1) ∧ 17 + 1 = 18 := ⟨by decide +kernel, rfl⟩
set_option maxRecDepth 20000 in
theorem dX6_aimHere_18 : decode cX6_aimHere 18 = .ok (.aload_n 0, 1) ∧ 18 + 1 = 19 := ⟨by decide +kernel, rfl⟩
set_option maxRecDepth 20000 in
theorem dX6_aimHere_19 : decode cX6_aimHere 19 = .ok (.getfield 38, 3) ∧ 19 + 3 = 22 := ⟨by decide +kernel, rfl⟩
set_option maxRecDepth 20000 in
theorem dX6_aimHere_22 : decode cX6_aimHere 22 = .ok (.iadd, 1) ∧ 22 + 1 = 23 := ⟨by decide +kernel, rfl⟩
set_option maxRecDepth 20000 in
theorem dX6_aimHere_23 : decode cX6_aimHere 23 = .ok (.iastore, 1) ∧ 23 + 1 = 24 := ⟨by decide +kernel, rfl⟩
set_option maxRecDepth 20000 in
theorem dX6_aimHere_24 : decode cX6_aimHere 24 = .ok (.return_, 1) := by decide +kernel
set_option maxRecDepth 20000 in
theorem dX6_readPlain_0 : decode cX6_readPlain 0 = .ok (.iconst 0, 1) ∧ 0 + 1 = 1 := ⟨by decide +kernel, rfl⟩
set_option maxRecDepth 20000 in
theorem dX6_readPlain_1 : decode cX6_readPlain 1 = .ok (.istore_n 2, 1) ∧ 1 + 1 = 2 := ⟨by decide +kernel, rfl⟩
set_option maxRecDepth 20000 in
theorem dX6_readPlain_2 : decode cX6_readPlain 2 = .ok (.iconst 0, 1) ∧ 2 + 1 = 3 := ⟨by decide +kernel, rfl⟩
set_option maxRecDepth 20000 in
theorem dX6_readPlain_3 : decode cX6_readPlain 3 = .ok (.istore_n 3, 1) ∧ 3 + 1 = 4 := ⟨by decide +kernel, rfl⟩
set_option maxRecDepth 20000 in
theorem dX6_readPlain_4 : decode cX6_readPlain 4 = .ok (.iload_n 3, 1) ∧ 4 + 1 = 5 := ⟨by decide +kernel, rfl⟩
set_option maxRecDepth 20000 in
theorem dX6_readPlain_5 : decode cX6_readPlain 5 = .ok (.sipush 400, 3) ∧ 5 + 3 = 8 := ⟨by decide +kernel, rfl⟩
set_option maxRecDepth 20000 in
theorem dX6_readPlain_8 : decode cX6_readPlain 8 = .ok (.if_icmp .ge 32, 3) ∧ 8 + 3 = 11 ∧ ((8 : Nat) : Int) + (32) = ((40 : Nat) : Int) := ⟨by decide +kernel, rfl, by decide⟩
set_option maxRecDepth 20000 in
theorem dX6_readPlain_11 : decode cX6_readPlain 11 = .ok (.aload_n 0, 1) ∧ 11 + 1 = 12 := ⟨by decide +kernel, rfl⟩
set_option maxRecDepth 20000 in
theorem dX6_readPlain_12 : decode cX6_readPlain 12 = .ok (.ldc 147, 2) ∧ 12 + 2 = 14 := ⟨by decide +kernel, rfl⟩
set_option maxRecDepth 20000 in
theorem dX6_readPlain_14 : decode cX6_readPlain 14 = .ok (.invokevirtual 116, 3) ∧ 14 + 3 = 17 := ⟨by decide +kernel, rfl⟩
set_option maxRecDepth 20000 in
theorem dX6_readPlain_17 : decode cX6_readPlain 17 = .ok (.ifCond .eq 23, 3) ∧ 17 + 3 = 20 ∧ ((17 : Nat) : Int) + (23) = ((40 : Nat) : Int) := ⟨by decide +kernel, rfl, by decide⟩
set_option maxRecDepth 20000 in
theorem dX6_readPlain_20 : decode cX6_readPlain 20 = .ok (.iload_n 2, 1) ∧ 20 + 1 = 21 := ⟨by decide +kernel, rfl⟩
set_option maxRecDepth 20000 in
theorem dX6_readPlain_21 : decode cX6_readPlain 21 = .ok (.ifCond .ne 7, 3) ∧ 21 + 3 = 24 ∧ ((21 : Nat) : Int) + (7) = ((28 : Nat) : Int) := ⟨by decide +kernel, rfl, by decide⟩
set_option maxRecDepth 20000 in
theorem dX6_readPlain_24 : decode cX6_readPlain 24 = .ok (.iconst 1, 1) ∧ 24 + 1 = 25 := ⟨by decide +kernel, rfl⟩
set_option maxRecDepth 20000 in
theorem dX6_readPlain_25 : decode cX6_readPlain 25 = .ok (.goto 4, 3) ∧ ((25 : Nat) : Int) + (4) = ((29 : Nat) : Int) := ⟨by decide +kernel, by decide⟩
set_option maxRecDepth 20000 in
theorem dX6_readPlain_28 : decode cX6_readPlain 28 = .ok (.iconst 0, 1) ∧ 28 + 1 = 29 := ⟨by decide +kernel, rfl⟩
set_option maxRecDepth 20000 in
theorem dX6_readPlain_29 : decode cX6_readPlain 29 = .ok (.istore_n 2, 1) ∧ 29 + 1 = 30 := ⟨by decide +kernel, rfl⟩
set_option maxRecDepth 20000 in
theorem dX6_readPlain_30 : decode cX6_readPlain 30 = .ok (.aload_n 0, 1) ∧ 30 + 1 = 31 := ⟨by decide +kernel, rfl⟩
set_option maxRecDepth 20000 in
theorem dX6_readPlain_31 : decode cX6_readPlain 31 = .ok (.invokevirtual 47, 3) ∧ 31 + 3 = 34 := ⟨by decide +kernel, rfl⟩
set_option maxRecDepth 20000 in
theorem dX6_readPlain_34 : decode cX6_readPlain 34 = .ok (.iinc 3 1, 3) ∧ 34 + 3 = 37 := ⟨by decide +kernel, rfl⟩
set_option maxRecDepth 20000 in
theorem dX6_readPlain_37 : decode cX6_readPlain 37 = .ok (.goto (-33), 3) ∧ ((37 : Nat) : Int) + (-33) = ((4 : Nat) : Int) := ⟨by decide +kernel, by decide⟩
set_option maxRecDepth 20000 in
theorem dX6_readPlain_40 : decode cX6_readPlain 40 = .ok (.aload_n 0, 1) ∧ 40 + 1 = 41 := ⟨by decide +kernel, rfl⟩
set_option maxRecDepth 20000 in
theorem dX6_readPlain_41 : decode cX6_readPlain 41 = .ok (.bipush 40, 2) ∧ 41 + 2 = 43 := ⟨by decide +kernel, rfl⟩
set_option maxRecDepth 20000 in
theorem dX6_readPlain_43 : decode cX6_readPlain 43 = .ok (.invokevirtual 54, 3) ∧ 43 + 3 = 46 := ⟨by decide +kernel, rfl⟩
set_option maxRecDepth 20000 in
theorem dX6_readPlain_46 : decode cX6_readPlain 46 = .ok (.ifCond .eq 11, 3) ∧ 46 + 3 = 49 ∧ ((46 : Nat) : Int) + (11) = ((57 : Nat) : Int) := ⟨by decide +kernel, rfl, by decide⟩
set_option maxRecDepth 20000 in
theorem dX6_readPlain_49 : decode cX6_readPlain 49 = .ok (.aload_n 0, 1) ∧ 49 + 1 = 50 := ⟨by decide +kernel, rfl⟩
set_option maxRecDepth 20000 in
theorem dX6_readPlain_50 : decode cX6_readPlain 50 = .ok (.iload_n 1, 1) ∧ 50 + 1 = 51 := ⟨by decide +kernel, rfl⟩
set_option maxRecDepth 20000 in
theorem dX6_readPlain_51 : decode cX6_readPlain 51 = .ok (.invokevirtual 149, 3) ∧ 51 + 3 = 54 := ⟨by decide +kernel, rfl⟩
set_option maxRecDepth 20000 in
theorem dX6_readPlain_54 : decode cX6_readPlain 54 = .ok (.goto 8, 3) ∧ ((54 : Nat) : Int) + (8) = ((62 : Nat) : Int) := ⟨by decide +kernel, by decide⟩
set_option maxRecDepth 20000 in
theorem dX6_readPlain_57 : decode cX6_readPlain 57 = .ok (.aload_n 0, 1) ∧ 57 + 1 = 58 := ⟨by decide +kernel, rfl⟩
set_option maxRecDepth 20000 in
theorem dX6_readPlain_58 : decode cX6_readPlain 58 = .ok (.iload_n 1, 1) ∧ 58 + 1 = 59 := ⟨by decide +kernel, rfl⟩
set_option maxRecDepth 20000 in
theorem dX6_readPlain_59 : decode cX6_readPlain 59 = .ok (.invokevirtual 152, 3) ∧ 59 + 3 = 62 := ⟨by decide +kernel, rfl⟩
set_option maxRecDepth 20000 in
theorem dX6_readPlain_62 : decode cX6_readPlain 62 = .ok (.istore_n 3, 1) ∧ 62 + 1 = 63 := ⟨by decide +kernel, rfl⟩
set_option maxRecDepth 20000 in
theorem dX6_readPlain_63 : decode cX6_readPlain 63 = .ok (.iload_n 3, 1) ∧ 63 + 1 = 64 := ⟨by decide +kernel, rfl⟩
set_option maxRecDepth 20000 in
theorem dX6_readPlain_64 : decode cX6_readPlain 64 = .ok (.ifCond .eq 14, 3) ∧ 64 + 3 = 67 ∧ ((64 : Nat) : Int) + (14) = ((78 : Nat) : Int) := ⟨by decide +kernel, rfl, by decide⟩
set_option maxRecDepth 20000 in
theorem dX6_readPlain_67 : decode cX6_readPlain 67 = .ok (.iload_n 2, 1) ∧ 67 + 1 = 68 := ⟨by decide +kernel, rfl⟩
set_option maxRecDepth 20000 in
theorem dX6_readPlain_68 : decode cX6_readPlain 68 = .ok (.ifCond .eq 10, 3) ∧ 68 + 3 = 71 ∧ ((68 : Nat) : Int) + (10) = ((78 : Nat) : Int) := ⟨by decide +kernel, rfl, by decide⟩
set_option maxRecDepth 20000 in
theorem dX6_readPlain_71 : decode cX6_readPlain 71 = .ok (.aload_n 0, 1) ∧ 71 + 1 = 72 := ⟨by decide +kernel, rfl⟩
set_option maxRecDepth 20000 in
theorem dX6_readPlain_72 : decode cX6_readPlain 72 = .ok (.bipush 9, 2) ∧ 72 + 2 = 74 := ⟨by decide +kernel, rfl⟩
set_option maxRecDepth 20000 in
theorem dX6_readPlain_74 : decode cX6_readPlain 74 = .ok (.iconst 0, 1) ∧ 74 + 1 = 75 := ⟨by decide +kernel, rfl⟩
set_option maxRecDepth 20000 in
theorem dX6_readPlain_75 : decode cX6_readPlain 75 = .ok (.invokevirtual 134, 3) ∧ 75 + 3 = 78 := ⟨by decide +kernel, rfl⟩
set_option maxRecDepth 20000 in
theorem dX6_readPlain_78 : decode cX6_readPlain 78 = .ok (.iload_n 3, 1) ∧ 78 + 1 = 79 := ⟨by decide +kernel, rfl⟩
set_option maxRecDepth 20000 in
theorem dX6_readPlain_79 : decode cX6_readPlain 79 = .ok (.ireturn, 1) := by decide +kernel
set_option maxRecDepth 20000 in
theorem dX6_readBracketedTest_0 : decode cX6_readBracketedTest 0 = .ok (.iload_n 1, 1) ∧ 0 + 1 = 1 := ⟨by decide +kernel, rfl⟩
set_option maxRecDepth 20000 in
theorem dX6_readBracketedTest_1 : decode cX6_readBracketedTest 1 = .ok (.bipush 8, 2) ∧ 1 + 2 = 3 := ⟨by decide +kernel, rfl⟩
set_option maxRecDepth 20000 in
theorem dX6_readBracketedTest_3 : decode cX6_readBracketedTest 3 = .ok (.if_icmp .lt 5, 3) ∧ 3 + 3 = 6 ∧ ((3 : Nat) : Int) + (5) = ((8 : Nat) : Int) := ⟨by decide +kernel, rfl, by decide⟩
set_option maxRecDepth 20000 in
theorem dX6_readBracketedTest_6 : decode cX6_readBracketedTest 6 = .ok (.iconst 0, 1) ∧ 6 + 1 = 7 := ⟨by decide +kernel, rfl⟩
set_option maxRecDepth 20000 in
theorem dX6_readBracketedTest_7 : decode cX6_readBracketedTest 7 = .ok (.ireturn, 1) := by decide +kernel
set_option maxRecDepth 20000 in
theorem dX6_readBracketedTest_8 : decode cX6_readBracketedTest 8 = .ok (.aload_n 0, 1) ∧ 8 + 1 = 9 := ⟨by decide +kernel, rfl⟩
set_option maxRecDepth 20000 in
theorem dX6_readBracketedTest_9 : decode cX6_readBracketedTest 9 = .ok (.invokevirtual 47, 3) ∧ 9 + 3 = 12 := ⟨by decide +kernel, rfl⟩
set_option maxRecDepth 20000 in
theorem dX6_readBracketedTest_12 : decode cX6_readBracketedTest 12 = .ok (.aload_n 0, 1) ∧ 12 + 1 = 13 := ⟨by decide +kernel, rfl⟩
set_option maxRecDepth 20000 in
theorem dX6_readBracketedTest_13 : decode cX6_readBracketedTest 13 = .ok (.iload_n 1, 1) ∧ 13 + 1 = 14 := ⟨by decide +kernel, rfl⟩
set_option maxRecDepth 20000 in
theorem dX6_readBracketedTest_14 : decode cX6_readBracketedTest 14 = .ok (.iconst 1, 1) ∧ 14 + 1 = 15 := ⟨by decide +kernel, rfl⟩
set_option maxRecDepth 20000 in
theorem dX6_readBracketedTest_15 : decode cX6_readBracketedTest 15 = .ok (.iadd, 1) ∧ 15 + 1 = 16 := ⟨by decide +kernel, rfl⟩
set_option maxRecDepth 20000 in
theorem dX6_readBracketedTest_16 : decode cX6_readBracketedTest 16 = .ok (.invokevirtual 120, 3) ∧ 16 + 3 = 19 := ⟨by decide +kernel, rfl⟩
set_option maxRecDepth 20000 in
theorem dX6_readBracketedTest_19 : decode cX6_readBracketedTest 19 = .ok (.ifCond .eq 12, 3) ∧ 19 + 3 = 22 ∧ ((19 : Nat) : Int) + (12) = ((31 : Nat) : Int) := ⟨by decide +kernel, rfl, by decide⟩
set_option maxRecDepth 20000 in
theorem dX6_readBracketedTest_22 : decode cX6_readBracketedTest 22 = .ok (.aload_n 0, 1) ∧ 22 + 1 = 23 := ⟨by decide +kernel, rfl⟩
set_option maxRecDepth 20000 in
theorem dX6_readBracketedTest_23 : decode cX6_readBracketedTest 23 = .ok (.bipush 41, 2) ∧ 23 + 2 = 25 := ⟨by decide +kernel, rfl⟩
set_option maxRecDepth 20000 in
theorem dX6_readBracketedTest_25 : decode cX6_readBracketedTest 25 = .ok (.invokevirtual 54, 3) ∧ 25 + 3 = 28 := ⟨by decide +kernel, rfl⟩
set_option maxRecDepth 20000 in
theorem dX6_readBracketedTest_28 : decode cX6_readBracketedTest 28 = .ok (.ifCond .ne 5, 3) ∧ 28 + 3 = 31 ∧ ((28 : Nat) : Int) + (5) = ((33 : Nat) : Int) := ⟨by decide +kernel, rfl, by decide⟩
set_option maxRecDepth 20000 in
theorem dX6_readBracketedTest_31 : decode cX6_readBracketedTest 31 = .ok (.iconst 0, 1) ∧ 31 + 1 = 32 := ⟨by decide +kernel, rfl⟩
set_option maxRecDepth 20000 in
theorem dX6_readBracketedTest_32 : decode cX6_readBracketedTest 32 = .ok (.ireturn, 1) := by decide +kernel
set_option maxRecDepth 20000 in
theorem dX6_readBracketedTest_33 : decode cX6_readBracketedTest 33 = .ok (.aload_n 0, 1) ∧ 33 + 1 = 34 := ⟨by decide +kernel, rfl⟩
set_option maxRecDepth 20000 in
theorem dX6_readBracketedTest_34 : decode cX6_readBracketedTest 34 = .ok (.invokevirtual 47, 3) ∧ 34 + 3 = 37 := ⟨by decide +kernel, rfl⟩
set_option maxRecDepth 20000 in
theorem dX6_readBracketedTest_37 : decode cX6_readBracketedTest 37 = .ok (.iconst 1, 1) ∧ 37 + 1 = 38 := ⟨by decide +kernel, rfl⟩
set_option maxRecDepth 20000 in
theorem dX6_readBracketedTest_38 : decode cX6_readBracketedTest 38 = .ok (.ireturn, 1) := by decide +kernel
set_option maxRecDepth 20000 in
theorem dX6_readComparison_0 : decode cX6_readComparison 0 = .ok (.aload_n 0, 1) ∧ 0 + 1 = 1 := ⟨by decide +kernel, rfl⟩
set_option maxRecDepth 20000 in
theorem dX6_readComparison_1 : decode cX6_readComparison 1 = .ok (.iload_n 1, 1) ∧ 1 + 1 = 2 := ⟨by decide +kernel, rfl⟩
set_option maxRecDepth 20000 in
theorem dX6_readComparison_2 : decode cX6_readComparison 2 = .ok (.invokevirtual 111, 3) ∧ 2 + 3 = 5 := ⟨by decide +kernel, rfl⟩
set_option maxRecDepth 20000 in
theorem dX6_readComparison_5 : decode cX6_readComparison 5 = .ok (.ifCond .ne 5, 3) ∧ 5 + 3 = 8 ∧ ((5 : Nat) : Int) + (5) = ((10 : Nat) : Int) := ⟨by decide +kernel, rfl, by decide⟩
set_option maxRecDepth 20000 in
theorem dX6_readComparison_8 : decode cX6_readComparison 8 = .ok (.iconst 0, 1) ∧ 8 + 1 = 9 := ⟨by decide +kernel, rfl⟩
set_option maxRecDepth 20000 in
theorem dX6_readComparison_9 : decode cX6_readComparison 9 = .ok (.ireturn, 1) := by decide +kernel
set_option maxRecDepth 20000 in
theorem dX6_readComparison_10 : decode cX6_readComparison 10 = .ok (.aload_n 0, 1) ∧ 10 + 1 = 11 := ⟨by decide +kernel, rfl⟩
set_option maxRecDepth 20000 in
theorem dX6_readComparison_11 : decode cX6_readComparison 11 = .ok (.bipush 60, 2) ∧ 11 + 2 = 13 := ⟨by decide +kernel, rfl⟩
set_option maxRecDepth 20000 in
theorem dX6_readComparison_13 : decode cX6_readComparison 13 = .ok (.invokevirtual 54, 3) ∧ 13 + 3 = 16 := ⟨by decide +kernel, rfl⟩
set_option maxRecDepth 20000 in
theorem dX6_readComparison_16 : decode cX6_readComparison 16 = .ok (.ifCond .eq 8, 3) ∧ 16 + 3 = 19 ∧ ((16 : Nat) : Int) + (8) = ((24 : Nat) : Int) := ⟨by decide +kernel, rfl, by decide⟩
set_option maxRecDepth 20000 in
theorem dX6_readComparison_19 : decode cX6_readComparison 19 = .ok (.bipush 6, 2) ∧ 19 + 2 = 21 := ⟨by decide +kernel, rfl⟩
set_option maxRecDepth 20000 in
theorem dX6_readComparison_21 : decode cX6_readComparison 21 = .ok (.goto 32, 3) ∧ ((21 : Nat) : Int) + (32) = ((53 : Nat) : Int) := ⟨by decide +kernel, by decide⟩
set_option maxRecDepth 20000 in
theorem dX6_readComparison_24 : decode cX6_readComparison 24 = .ok (.aload_n 0, 1) ∧ 24 + 1 = 25 := ⟨by decide +kernel, rfl⟩
set_option maxRecDepth 20000 in
theorem dX6_readComparison_25 : decode cX6_readComparison 25 = .ok (.bipush 62, 2) ∧ 25 + 2 = 27 := ⟨by decide +kernel, rfl⟩
set_option maxRecDepth 20000 in
theorem dX6_readComparison_27 : decode cX6_readComparison 27 = .ok (.invokevirtual 54, 3) ∧ 27 + 3 = 30 := ⟨by decide +kernel, rfl⟩
set_option maxRecDepth 20000 in
theorem dX6_readComparison_30 : decode cX6_readComparison 30 = .ok (.ifCond .eq 8, 3) ∧ 30 + 3 = 33 ∧ ((30 : Nat) : Int) + (8) = ((38 : Nat) : Int) := ⟨by decide +kernel, rfl, by decide⟩
set_option maxRecDepth 20000 in
theorem dX6_readComparison_33 : decode cX6_readComparison 33 = .ok (.bipush 7, 2) ∧ 33 + 2 = 35 := ⟨by decide +kernel, rfl⟩
set_option maxRecDepth 20000 in
theorem dX6_readComparison_35 : decode cX6_readComparison 35 = .ok (.goto 18, 3) ∧ ((35 : Nat) : Int) + (18) = ((53 : Nat) : Int) := ⟨by decide +kernel, by decide⟩
set_option maxRecDepth 20000 in
theorem dX6_readComparison_38 : decode cX6_readComparison 38 = .ok (.aload_n 0, 1) ∧ 38 + 1 = 39 := ⟨by decide +kernel, rfl⟩
set_option maxRecDepth 20000 in
theorem dX6_readComparison_39 : decode cX6_readComparison 39 = .ok (.bipush 61, 2) ∧ 39 + 2 = 41 := ⟨by decide +kernel, rfl⟩
set_option maxRecDepth 20000 in
theorem dX6_readComparison_41 : decode cX6_readComparison 41 = .ok (.invokevirtual 54, 3) ∧ 41 + 3 = 44 := ⟨by decide +kernel, rfl⟩
set_option maxRecDepth 20000 in
theorem dX6_readComparison_44 : decode cX6_readComparison 44 = .ok (.ifCond .eq 8, 3) ∧ 44 + 3 = 47 ∧ ((44 : Nat) : Int) + (8) = ((52 : Nat) : Int) := ⟨by decide +kernel, rfl, by decide⟩
set_option maxRecDepth 20000 in
theorem dX6_readComparison_47 : decode cX6_readComparison 47 = .ok (.bipush 8, 2) ∧ 47 + 2 = 49 := ⟨by decide +kernel, rfl⟩
set_option maxRecDepth 20000 in
theorem dX6_readComparison_49 : decode cX6_readComparison 49 = .ok (.goto 4, 3) ∧ ((49 : Nat) : Int) + (4) = ((53 : Nat) : Int) := ⟨by decide +kernel, by decide⟩
set_option maxRecDepth 20000 in
theorem dX6_readComparison_52 : decode cX6_readComparison 52 = .ok (.iconst (-1), 1) ∧ 52 + 1 = 53 := ⟨by decide +kernel, rfl⟩
set_option maxRecDepth 20000 in
theorem dX6_readComparison_53 : decode cX6_readComparison 53 = .ok (.istore_n 2, 1) ∧ 53 + 1 = 54 := ⟨by decide +kernel, rfl⟩
set_option maxRecDepth 20000 in
theorem dX6_readComparison_54 : decode cX6_readComparison 54 = .ok (.iload_n 2, 1) ∧ 54 + 1 = 55 := ⟨by decide +kernel, rfl⟩
set_option maxRecDepth 20000 in
theorem dX6_readComparison_55 : decode cX6_readComparison 55 = .ok (.iconst (-1), 1) ∧ 55 + 1 = 56 := ⟨by decide +kernel, rfl⟩
set_option maxRecDepth 20000 in
theorem dX6_readComparison_56 : decode cX6_readComparison 56 = .ok (.if_icmp .ne 5, 3) ∧ 56 + 3 = 59 ∧ ((56 : Nat) : Int) + (5) = ((61 : Nat) : Int) := ⟨by decide +kernel, rfl, by decide⟩
set_option maxRecDepth 20000 in
theorem dX6_readComparison_59 : decode cX6_readComparison 59 = .ok (.iconst 0, 1) ∧ 59 + 1 = 60 := ⟨by decide +kernel, rfl⟩
set_option maxRecDepth 20000 in
theorem dX6_readComparison_60 : decode cX6_readComparison 60 = .ok (.ireturn, 1) := by decide +kernel
set_option maxRecDepth 20000 in
theorem dX6_readComparison_61 : decode cX6_readComparison 61 = .ok (.aload_n 0, 1) ∧ 61 + 1 = 62 := ⟨by decide +kernel, rfl⟩
set_option maxRecDepth 20000 in
theorem dX6_readComparison_62 : decode cX6_readComparison 62 = .ok (.invokevirtual 47, 3) ∧ 62 + 3 = 65 := ⟨by decide +kernel, rfl⟩
set_option maxRecDepth 20000 in
theorem dX6_readComparison_65 : decode cX6_readComparison 65 = .ok (.aload_n 0, 1) ∧ 65 + 1 = 66 := ⟨by decide +kernel, rfl⟩
set_option maxRecDepth 20000 in
theorem dX6_readComparison_66 : decode cX6_readComparison 66 = .ok (.iload_n 1, 1) ∧ 66 + 1 = 67 := ⟨by decide +kernel, rfl⟩
set_option maxRecDepth 20000 in
theorem dX6_readComparison_67 : decode cX6_readComparison 67 = .ok (.invokevirtual 111, 3) ∧ 67 + 3 = 70 := ⟨by decide +kernel, rfl⟩
set_option maxRecDepth 20000 in
theorem dX6_readComparison_70 : decode cX6_readComparison 70 = .ok (.ifCond .ne 5, 3) ∧ 70 + 3 = 73 ∧ ((70 : Nat) : Int) + (5) = ((75 : Nat) : Int) := ⟨by decide +kernel, rfl, by decide⟩
set_option maxRecDepth 20000 in
theorem dX6_readComparison_73 : decode cX6_readComparison 73 = .ok (.iconst 0, 1) ∧ 73 + 1 = 74 := ⟨by decide +kernel, rfl⟩
set_option maxRecDepth 20000 in
theorem dX6_readComparison_74 : decode cX6_readComparison 74 = .ok (.ireturn, 1) := by decide +kernel
set_option maxRecDepth 20000 in
theorem dX6_readComparison_75 : decode cX6_readComparison 75 = .ok (.aload_n 0, 1) ∧ 75 + 1 = 76 := ⟨by decide +kernel, rfl⟩
set_option maxRecDepth 20000 in
theorem dX6_readComparison_76 : decode cX6_readComparison 76 = .ok (.iload_n 2, 1) ∧ 76 + 1 = 77 := ⟨by decide +kernel, rfl⟩
set_option maxRecDepth 20000 in
theorem dX6_readComparison_77 : decode cX6_readComparison 77 = .ok (.iconst 0, 1) ∧ 77 + 1 = 78 := ⟨by decide +kernel, rfl⟩
set_option maxRecDepth 20000 in
theorem dX6_readComparison_78 : decode cX6_readComparison 78 = .ok (.invokevirtual 134, 3) ∧ 78 + 3 = 81 := ⟨by decide +kernel, rfl⟩
set_option maxRecDepth 20000 in
theorem dX6_readComparison_81 : decode cX6_readComparison 81 = .ok (.iconst 1, 1) ∧ 81 + 1 = 82 := ⟨by decide +kernel, rfl⟩
set_option maxRecDepth 20000 in
theorem dX6_readComparison_82 : decode cX6_readComparison 82 = .ok (.ireturn, 1) := by decide +kernel
set_option maxRecDepth 20000 in
theorem dX6_readSum_0 : decode cX6_readSum 0 = .ok (.aload_n 0, 1) ∧ 0 + 1 = 1 := ⟨by decide +kernel, rfl⟩
set_option maxRecDepth 20000 in
theorem dX6_readSum_1 : decode cX6_readSum 1 = .ok (.iload_n 1, 1) ∧ 1 + 1 = 2 := ⟨by decide +kernel, rfl⟩
set_option maxRecDepth 20000 in
theorem dX6_readSum_2 : decode cX6_readSum 2 = .ok (.invokevirtual 155, 3) ∧ 2 + 3 = 5 := ⟨by decide +kernel, rfl⟩
set_option maxRecDepth 20000 in
theorem dX6_readSum_5 : decode cX6_readSum 5 = .ok (.istore_n 2, 1) ∧ 5 + 1 = 6 := ⟨by decide +kernel, rfl⟩
set_option maxRecDepth 20000 in
theorem dX6_readSum_6 : decode cX6_readSum 6 = .ok (.iconst 0, 1) ∧ 6 + 1 = 7 := ⟨by decide +kernel, rfl⟩
set_option maxRecDepth 20000 in
theorem dX6_readSum_7 : decode cX6_readSum 7 = .ok (.istore_n 3, 1) ∧ 7 + 1 = 8 := ⟨by decide +kernel, rfl⟩
set_option maxRecDepth 20000 in
theorem dX6_readSum_8 : decode cX6_readSum 8 = .ok (.iload_n 3, 1) ∧ 8 + 1 = 9 := ⟨by decide +kernel, rfl⟩
set_option maxRecDepth 20000 in
theorem dX6_readSum_9 : decode cX6_readSum 9 = .ok (.sipush 400, 3) ∧ 9 + 3 = 12 := ⟨by decide +kernel, rfl⟩
set_option maxRecDepth 20000 in
theorem dX6_readSum_12 : decode cX6_readSum 12 = .ok (.if_icmp .ge 64, 3) ∧ 12 + 3 = 15 ∧ ((12 : Nat) : Int) + (64) = ((76 : Nat) : Int) := ⟨by decide +kernel, rfl, by decide⟩
set_option maxRecDepth 20000 in
theorem dX6_readSum_15 : decode cX6_readSum 15 = .ok (.iload_n 2, 1) ∧ 15 + 1 = 16 := ⟨by decide +kernel, rfl⟩
set_option maxRecDepth 20000 in
theorem dX6_readSum_16 : decode cX6_readSum 16 = .ok (.ifCond .eq 60, 3) ∧ 16 + 3 = 19 ∧ ((16 : Nat) : Int) + (60) = ((76 : Nat) : Int) := ⟨by decide +kernel, rfl, by decide⟩
set_option maxRecDepth 20000 in
theorem dX6_readSum_19 : decode cX6_readSum 19 = .ok (.aload_n 0, 1) ∧ 19 + 1 = 20 := ⟨by decide +kernel, rfl⟩
set_option maxRecDepth 20000 in
theorem dX6_readSum_20 : decode cX6_readSum 20 = .ok (.bipush 43, 2) ∧ 20 + 2 = 22 := ⟨by decide +kernel, rfl⟩
set_option maxRecDepth 20000 in
theorem dX6_readSum_22 : decode cX6_readSum 22 = .ok (.invokevirtual 54, 3) ∧ 22 + 3 = 25 := ⟨by decide +kernel, rfl⟩
set_option maxRecDepth 20000 in
theorem dX6_readSum_25 : decode cX6_readSum 25 = .ok (.ifCond .ne 12, 3) ∧ 25 + 3 = 28 ∧ ((25 : Nat) : Int) + (12) = ((37 : Nat) : Int) := ⟨by decide +kernel, rfl, by decide⟩
set_option maxRecDepth 20000 in
theorem dX6_readSum_28 : decode cX6_readSum 28 = .ok (.aload_n 0, 1) ∧ 28 + 1 = 29 := ⟨by decide +kernel, rfl⟩
set_option maxRecDepth 20000 in
theorem dX6_readSum_29 : decode cX6_readSum 29 = .ok (.bipush 45, 2) ∧ 29 + 2 = 31 := ⟨by decide +kernel, rfl⟩
set_option maxRecDepth 20000 in
theorem dX6_readSum_31 : decode cX6_readSum 31 = .ok (.invokevirtual 54, 3) ∧ 31 + 3 = 34 := ⟨by decide +kernel, rfl⟩
set_option maxRecDepth 20000 in
theorem dX6_readSum_34 : decode cX6_readSum 34 = .ok (.ifCond .eq 42, 3) ∧ 34 + 3 = 37 ∧ ((34 : Nat) : Int) + (42) = ((76 : Nat) : Int) := ⟨by decide +kernel, rfl, by decide⟩
set_option maxRecDepth 20000 in
theorem dX6_readSum_37 : decode cX6_readSum 37 = .ok (.aload_n 0, 1) ∧ 37 + 1 = 38 := ⟨by decide +kernel, rfl⟩
set_option maxRecDepth 20000 in
theorem dX6_readSum_38 : decode cX6_readSum 38 = .ok (.bipush 43, 2) ∧ 38 + 2 = 40 := ⟨by decide +kernel, rfl⟩
set_option maxRecDepth 20000 in
theorem dX6_readSum_40 : decode cX6_readSum 40 = .ok (.invokevirtual 54, 3) ∧ 40 + 3 = 43 := ⟨by decide +kernel, rfl⟩
set_option maxRecDepth 20000 in
theorem dX6_readSum_43 : decode cX6_readSum 43 = .ok (.ifCond .eq 7, 3) ∧ 43 + 3 = 46 ∧ ((43 : Nat) : Int) + (7) = ((50 : Nat) : Int) := ⟨by decide +kernel, rfl, by decide⟩
set_option maxRecDepth 20000 in
theorem dX6_readSum_46 : decode cX6_readSum 46 = .ok (.iconst 2, 1) ∧ 46 + 1 = 47 := ⟨by decide +kernel, rfl⟩
set_option maxRecDepth 20000 in
theorem dX6_readSum_47 : decode cX6_readSum 47 = .ok (.goto 4, 3) ∧ ((47 : Nat) : Int) + (4) = ((51 : Nat) : Int) := ⟨by decide +kernel, by decide⟩
set_option maxRecDepth 20000 in
theorem dX6_readSum_50 : decode cX6_readSum 50 = .ok (.iconst 3, 1) ∧ 50 + 1 = 51 := ⟨by decide +kernel, rfl⟩
set_option maxRecDepth 20000 in
theorem dX6_readSum_51 : decode cX6_readSum 51 = .ok (.istore 4, 2) ∧ 51 + 2 = 53 := ⟨by decide +kernel, rfl⟩
set_option maxRecDepth 20000 in
theorem dX6_readSum_53 : decode cX6_readSum 53 = .ok (.aload_n 0, 1) ∧ 53 + 1 = 54 := ⟨by decide +kernel, rfl⟩
set_option maxRecDepth 20000 in
theorem dX6_readSum_54 : decode cX6_readSum 54 = .ok (.invokevirtual 47, 3) ∧ 54 + 3 = 57 := ⟨by decide +kernel, rfl⟩
set_option maxRecDepth 20000 in
theorem dX6_readSum_57 : decode cX6_readSum 57 = .ok (.aload_n 0, 1) ∧ 57 + 1 = 58 := ⟨by decide +kernel, rfl⟩
set_option maxRecDepth 20000 in
theorem dX6_readSum_58 : decode cX6_readSum 58 = .ok (.iload_n 1, 1) ∧ 58 + 1 = 59 := ⟨by decide +kernel, rfl⟩
set_option maxRecDepth 20000 in
theorem dX6_readSum_59 : decode cX6_readSum 59 = .ok (.invokevirtual 155, 3) ∧ 59 + 3 = 62 := ⟨by decide +kernel, rfl⟩
set_option maxRecDepth 20000 in
theorem dX6_readSum_62 : decode cX6_readSum 62 = .ok (.istore_n 2, 1) ∧ 62 + 1 = 63 := ⟨by decide +kernel, rfl⟩
set_option maxRecDepth 20000 in
theorem dX6_readSum_63 : decode cX6_readSum 63 = .ok (.aload_n 0, 1) ∧ 63 + 1 = 64 := ⟨by decide +kernel, rfl⟩
set_option maxRecDepth 20000 in
theorem dX6_readSum_64 : decode cX6_readSum 64 = .ok (.iload 4, 2) ∧ 64 + 2 = 66 := ⟨by decide +kernel, rfl⟩
set_option maxRecDepth 20000 in
theorem dX6_readSum_66 : decode cX6_readSum 66 = .ok (.iconst 0, 1) ∧ 66 + 1 = 67 := ⟨by decide +kernel, rfl⟩
set_option maxRecDepth 20000 in
theorem dX6_readSum_67 : decode cX6_readSum 67 = .ok (.invokevirtual 134, 3) ∧ 67 + 3 = 70 := ⟨by decide +kernel, rfl⟩
set_option maxRecDepth 20000 in
theorem dX6_readSum_70 : decode cX6_readSum 70 = .ok (.iinc 3 1, 3) ∧ 70 + 3 = 73 := ⟨by decide +kernel, rfl⟩
set_option maxRecDepth 20000 in
theorem dX6_readSum_73 : decode cX6_readSum 73 = .ok (.goto (-65), 3) ∧ ((73 : Nat) : Int) + (-65) = ((8 : Nat) : Int) := ⟨by decide +kernel, by decide⟩
set_option maxRecDepth 20000 in
theorem dX6_readSum_76 : decode cX6_readSum 76 = .ok (.iload_n 2, 1) ∧ 76 + 1 = 77 := ⟨by decide +kernel, rfl⟩
set_option maxRecDepth 20000 in
theorem dX6_readSum_77 : decode cX6_readSum 77 = .ok (.ireturn, 1) := by decide +kernel
set_option maxRecDepth 20000 in
theorem dX6_readTerm_0 : decode cX6_readTerm 0 = .ok (.aload_n 0, 1) ∧ 0 + 1 = 1 := ⟨by decide +kernel, rfl⟩
set_option maxRecDepth 20000 in
theorem dX6_readTerm_1 : decode cX6_readTerm 1 = .ok (.iload_n 1, 1) ∧ 1 + 1 = 2 := ⟨by decide +kernel, rfl⟩
set_option maxRecDepth 20000 in
theorem dX6_readTerm_2 : decode cX6_readTerm 2 = .ok (.invokevirtual 158, 3) ∧ 2 + 3 = 5 := ⟨by decide +kernel, rfl⟩
set_option maxRecDepth 20000 in
theorem dX6_readTerm_5 : decode cX6_readTerm 5 = .ok (.istore_n 2, 1) ∧ 5 + 1 = 6 := ⟨by decide +kernel, rfl⟩
set_option maxRecDepth 20000 in
theorem dX6_readTerm_6 : decode cX6_readTerm 6 = .ok (.iconst 0, 1) ∧ 6 + 1 = 7 := ⟨by decide +kernel, rfl⟩
set_option maxRecDepth 20000 in
theorem dX6_readTerm_7 : decode cX6_readTerm 7 = .ok (.istore_n 3, 1) ∧ 7 + 1 = 8 := ⟨by decide +kernel, rfl⟩
set_option maxRecDepth 20000 in
theorem dX6_readTerm_8 : decode cX6_readTerm 8 = .ok (.iload_n 3, 1) ∧ 8 + 1 = 9 := ⟨by decide +kernel, rfl⟩
set_option maxRecDepth 20000 in
theorem dX6_readTerm_9 : decode cX6_readTerm 9 = .ok (.sipush 400, 3) ∧ 9 + 3 = 12 := ⟨by decide +kernel, rfl⟩
set_option maxRecDepth 20000 in
theorem dX6_readTerm_12 : decode cX6_readTerm 12 = .ok (.if_icmp .ge 64, 3) ∧ 12 + 3 = 15 ∧ ((12 : Nat) : Int) + (64) = ((76 : Nat) : Int) := ⟨by decide +kernel, rfl, by decide⟩
set_option maxRecDepth 20000 in
theorem dX6_readTerm_15 : decode cX6_readTerm 15 = .ok (.iload_n 2, 1) ∧ 15 + 1 = 16 := ⟨by decide +kernel, rfl⟩
set_option maxRecDepth 20000 in
theorem dX6_readTerm_16 : decode cX6_readTerm 16 = .ok (.ifCond .eq 60, 3) ∧ 16 + 3 = 19 ∧ ((16 : Nat) : Int) + (60) = ((76 : Nat) : Int) := ⟨by decide +kernel, rfl, by decide⟩
set_option maxRecDepth 20000 in
theorem dX6_readTerm_19 : decode cX6_readTerm 19 = .ok (.aload_n 0, 1) ∧ 19 + 1 = 20 := ⟨by decide +kernel, rfl⟩
set_option maxRecDepth 20000 in
theorem dX6_readTerm_20 : decode cX6_readTerm 20 = .ok (.bipush 42, 2) ∧ 20 + 2 = 22 := ⟨by decide +kernel, rfl⟩
set_option maxRecDepth 20000 in
theorem dX6_readTerm_22 : decode cX6_readTerm 22 = .ok (.invokevirtual 54, 3) ∧ 22 + 3 = 25 := ⟨by decide +kernel, rfl⟩
set_option maxRecDepth 20000 in
theorem dX6_readTerm_25 : decode cX6_readTerm 25 = .ok (.ifCond .ne 12, 3) ∧ 25 + 3 = 28 ∧ ((25 : Nat) : Int) + (12) = ((37 : Nat) : Int) := ⟨by decide +kernel, rfl, by decide⟩
set_option maxRecDepth 20000 in
theorem dX6_readTerm_28 : decode cX6_readTerm 28 = .ok (.aload_n 0, 1) ∧ 28 + 1 = 29 := ⟨by decide +kernel, rfl⟩
set_option maxRecDepth 20000 in
theorem dX6_readTerm_29 : decode cX6_readTerm 29 = .ok (.bipush 47, 2) ∧ 29 + 2 = 31 := ⟨by decide +kernel, rfl⟩
set_option maxRecDepth 20000 in
theorem dX6_readTerm_31 : decode cX6_readTerm 31 = .ok (.invokevirtual 54, 3) ∧ 31 + 3 = 34 := ⟨by decide +kernel, rfl⟩
set_option maxRecDepth 20000 in
theorem dX6_readTerm_34 : decode cX6_readTerm 34 = .ok (.ifCond .eq 42, 3) ∧ 34 + 3 = 37 ∧ ((34 : Nat) : Int) + (42) = ((76 : Nat) : Int) := ⟨by decide +kernel, rfl, by decide⟩
set_option maxRecDepth 20000 in
theorem dX6_readTerm_37 : decode cX6_readTerm 37 = .ok (.aload_n 0, 1) ∧ 37 + 1 = 38 := ⟨by decide +kernel, rfl⟩
set_option maxRecDepth 20000 in
theorem dX6_readTerm_38 : decode cX6_readTerm 38 = .ok (.bipush 42, 2) ∧ 38 + 2 = 40 := ⟨by decide +kernel, rfl⟩
set_option maxRecDepth 20000 in
theorem dX6_readTerm_40 : decode cX6_readTerm 40 = .ok (.invokevirtual 54, 3) ∧ 40 + 3 = 43 := ⟨by decide +kernel, rfl⟩
set_option maxRecDepth 20000 in
theorem dX6_readTerm_43 : decode cX6_readTerm 43 = .ok (.ifCond .eq 7, 3) ∧ 43 + 3 = 46 ∧ ((43 : Nat) : Int) + (7) = ((50 : Nat) : Int) := ⟨by decide +kernel, rfl, by decide⟩
set_option maxRecDepth 20000 in
theorem dX6_readTerm_46 : decode cX6_readTerm 46 = .ok (.iconst 4, 1) ∧ 46 + 1 = 47 := ⟨by decide +kernel, rfl⟩
set_option maxRecDepth 20000 in
theorem dX6_readTerm_47 : decode cX6_readTerm 47 = .ok (.goto 4, 3) ∧ ((47 : Nat) : Int) + (4) = ((51 : Nat) : Int) := ⟨by decide +kernel, by decide⟩
set_option maxRecDepth 20000 in
theorem dX6_readTerm_50 : decode cX6_readTerm 50 = .ok (.iconst 5, 1) ∧ 50 + 1 = 51 := ⟨by decide +kernel, rfl⟩
set_option maxRecDepth 20000 in
theorem dX6_readTerm_51 : decode cX6_readTerm 51 = .ok (.istore 4, 2) ∧ 51 + 2 = 53 := ⟨by decide +kernel, rfl⟩
set_option maxRecDepth 20000 in
theorem dX6_readTerm_53 : decode cX6_readTerm 53 = .ok (.aload_n 0, 1) ∧ 53 + 1 = 54 := ⟨by decide +kernel, rfl⟩
set_option maxRecDepth 20000 in
theorem dX6_readTerm_54 : decode cX6_readTerm 54 = .ok (.invokevirtual 47, 3) ∧ 54 + 3 = 57 := ⟨by decide +kernel, rfl⟩
set_option maxRecDepth 20000 in
theorem dX6_readTerm_57 : decode cX6_readTerm 57 = .ok (.aload_n 0, 1) ∧ 57 + 1 = 58 := ⟨by decide +kernel, rfl⟩
set_option maxRecDepth 20000 in
theorem dX6_readTerm_58 : decode cX6_readTerm 58 = .ok (.iload_n 1, 1) ∧ 58 + 1 = 59 := ⟨by decide +kernel, rfl⟩
set_option maxRecDepth 20000 in
theorem dX6_readTerm_59 : decode cX6_readTerm 59 = .ok (.invokevirtual 158, 3) ∧ 59 + 3 = 62 := ⟨by decide +kernel, rfl⟩
set_option maxRecDepth 20000 in
theorem dX6_readTerm_62 : decode cX6_readTerm 62 = .ok (.istore_n 2, 1) ∧ 62 + 1 = 63 := ⟨by decide +kernel, rfl⟩
set_option maxRecDepth 20000 in
theorem dX6_readTerm_63 : decode cX6_readTerm 63 = .ok (.aload_n 0, 1) ∧ 63 + 1 = 64 := ⟨by decide +kernel, rfl⟩
set_option maxRecDepth 20000 in
theorem dX6_readTerm_64 : decode cX6_readTerm 64 = .ok (.iload 4, 2) ∧ 64 + 2 = 66 := ⟨by decide +kernel, rfl⟩
set_option maxRecDepth 20000 in
theorem dX6_readTerm_66 : decode cX6_readTerm 66 = .ok (.iconst 0, 1) ∧ 66 + 1 = 67 := ⟨by decide +kernel, rfl⟩
set_option maxRecDepth 20000 in
theorem dX6_readTerm_67 : decode cX6_readTerm 67 = .ok (.invokevirtual 134, 3) ∧ 67 + 3 = 70 := ⟨by decide +kernel, rfl⟩
set_option maxRecDepth 20000 in
theorem dX6_readTerm_70 : decode cX6_readTerm 70 = .ok (.iinc 3 1, 3) ∧ 70 + 3 = 73 := ⟨by decide +kernel, rfl⟩
set_option maxRecDepth 20000 in
theorem dX6_readTerm_73 : decode cX6_readTerm 73 = .ok (.goto (-65), 3) ∧ ((73 : Nat) : Int) + (-65) = ((8 : Nat) : Int) := ⟨by decide +kernel, by decide⟩
set_option maxRecDepth 20000 in
theorem dX6_readTerm_76 : decode cX6_readTerm 76 = .ok (.iload_n 2, 1) ∧ 76 + 1 = 77 := ⟨by decide +kernel, rfl⟩
set_option maxRecDepth 20000 in
theorem dX6_readTerm_77 : decode cX6_readTerm 77 = .ok (.ireturn, 1) := by decide +kernel
set_option maxRecDepth 20000 in
theorem dX6_readPart_0 : decode cX6_readPart 0 = .ok (.aload_n 0, 1) ∧ 0 + 1 = 1 := ⟨by decide +kernel, rfl⟩
set_option maxRecDepth 20000 in
theorem dX6_readPart_1 : decode cX6_readPart 1 = .ok (.bipush 91, 2) ∧ 1 + 2 = 3 := ⟨by decide +kernel, rfl⟩
set_option maxRecDepth 20000 in
theorem dX6_readPart_3 : decode cX6_readPart 3 = .ok (.invokevirtual 54, 3) ∧ 3 + 3 = 6 := ⟨by decide +kernel, rfl⟩
set_option maxRecDepth 20000 in
theorem dX6_readPart_6 : decode cX6_readPart 6 = .ok (.ifCond .eq 9, 3) ∧ 6 + 3 = 9 ∧ ((6 : Nat) : Int) + (9) = ((15 : Nat) : Int) := ⟨by decide +kernel, rfl, by decide⟩
set_option maxRecDepth 20000 in
theorem dX6_readPart_9 : decode cX6_readPart 9 = .ok (.aload_n 0, 1) ∧ 9 + 1 = 10 := ⟨by decide +kernel, rfl⟩
set_option maxRecDepth 20000 in
theorem dX6_readPart_10 : decode cX6_readPart 10 = .ok (.iload_n 1, 1) ∧ 10 + 1 = 11 := ⟨by decide +kernel, rfl⟩
set_option maxRecDepth 20000 in
theorem dX6_readPart_11 : decode cX6_readPart 11 = .ok (.invokevirtual 161, 3) ∧ 11 + 3 = 14 := ⟨by decide +kernel, rfl⟩
set_option maxRecDepth 20000 in
theorem dX6_readPart_14 : decode cX6_readPart 14 = .ok (.ireturn, 1) := by decide +kernel
set_option maxRecDepth 20000 in
theorem dX6_readPart_15 : decode cX6_readPart 15 = .ok (.aload_n 0, 1) ∧ 15 + 1 = 16 := ⟨by decide +kernel, rfl⟩
set_option maxRecDepth 20000 in
theorem dX6_readPart_16 : decode cX6_readPart 16 = .ok (.invokevirtual 164, 3) ∧ 16 + 3 = 19 := ⟨by decide +kernel, rfl⟩
set_option maxRecDepth 20000 in
theorem dX6_readPart_19 : decode cX6_readPart 19 = .ok (.istore_n 2, 1) ∧ 19 + 1 = 20 := ⟨by decide +kernel, rfl⟩
set_option maxRecDepth 20000 in
theorem dX6_readPart_20 : decode cX6_readPart 20 = .ok (.aload_n 0, 1) ∧ 20 + 1 = 21 := ⟨by decide +kernel, rfl⟩
set_option maxRecDepth 20000 in
theorem dX6_readPart_21 : decode cX6_readPart 21 = .ok (.getfield 58, 3) ∧ 21 + 3 = 24 := ⟨by decide +kernel, rfl⟩
set_option maxRecDepth 20000 in
theorem dX6_readPart_24 : decode cX6_readPart 24 = .ok (.iconst 2, 1) ∧ 24 + 1 = 25 := ⟨by decide +kernel, rfl⟩
set_option maxRecDepth 20000 in
theorem dX6_readPart_25 : decode cX6_readPart 25 = .ok (.if_icmp .ne 17, 3) ∧ 25 + 3 = 28 ∧ ((25 : Nat) : Int) + (17) = ((42 : Nat) : Int) := ⟨by decide +kernel, rfl, by decide⟩
set_option maxRecDepth 20000 in
theorem dX6_readPart_28 : decode cX6_readPart 28 = .ok (.aload_n 0, 1) ∧ 28 + 1 = 29 := ⟨by decide +kernel, rfl⟩
set_option maxRecDepth 20000 in
theorem dX6_readPart_29 : decode cX6_readPart 29 = .ok (.getfield 80, 3) ∧ 29 + 3 = 32 := ⟨by decide +kernel, rfl⟩
set_option maxRecDepth 20000 in
theorem dX6_readPart_32 : decode cX6_readPart 32 = .ok (.sipush 1000, 3) ∧ 32 + 3 = 35 := ⟨by decide +kernel, rfl⟩
set_option maxRecDepth 20000 in
theorem dX6_readPart_35 : decode cX6_readPart 35 = .ok (.if_icmp .gt 7, 3) ∧ 35 + 3 = 38 ∧ ((35 : Nat) : Int) + (7) = ((42 : Nat) : Int) := ⟨by decide +kernel, rfl, by decide⟩
set_option maxRecDepth 20000 in
theorem dX6_readPart_38 : decode cX6_readPart 38 = .ok (.iconst 1, 1) ∧ 38 + 1 = 39 := ⟨by decide +kernel, rfl⟩
set_option maxRecDepth 20000 in
theorem dX6_readPart_39 : decode cX6_readPart 39 = .ok (.goto 4, 3) ∧ ((39 : Nat) : Int) + (4) = ((43 : Nat) : Int) := ⟨by decide +kernel, by decide⟩
set_option maxRecDepth 20000 in
theorem dX6_readPart_42 : decode cX6_readPart 42 = .ok (.iconst 0, 1) ∧ 42 + 1 = 43 := ⟨by decide +kernel, rfl⟩
set_option maxRecDepth 20000 in
theorem dX6_readPart_43 : decode cX6_readPart 43 = .ok (.istore_n 3, 1) ∧ 43 + 1 = 44 := ⟨by decide +kernel, rfl⟩
set_option maxRecDepth 20000 in
theorem dX6_readPart_44 : decode cX6_readPart 44 = .ok (.iload_n 2, 1) ∧ 44 + 1 = 45 := ⟨by decide +kernel, rfl⟩
set_option maxRecDepth 20000 in
theorem dX6_readPart_45 : decode cX6_readPart 45 = .ok (.iconst (-1), 1) ∧ 45 + 1 = 46 := ⟨by decide +kernel, rfl⟩
set_option maxRecDepth 20000 in
theorem dX6_readPart_46 : decode cX6_readPart 46 = .ok (.if_icmp .ne 7, 3) ∧ 46 + 3 = 49 ∧ ((46 : Nat) : Int) + (7) = ((53 : Nat) : Int) := ⟨by decide +kernel, rfl, by decide⟩
set_option maxRecDepth 20000 in
theorem dX6_readPart_49 : decode cX6_readPart 49 = .ok (.iload_n 3, 1) ∧ 49 + 1 = 50 := ⟨by decide +kernel, rfl⟩
set_option maxRecDepth 20000 in
theorem dX6_readPart_50 : decode cX6_readPart 50 = .ok (.ifCond .eq 12, 3) ∧ 50 + 3 = 53 ∧ ((50 : Nat) : Int) + (12) = ((62 : Nat) : Int) := ⟨by decide +kernel, rfl, by decide⟩
set_option maxRecDepth 20000 in
theorem dX6_readPart_53 : decode cX6_readPart 53 = .ok (.aload_n 0, 1) ∧ 53 + 1 = 54 := ⟨by decide +kernel, rfl⟩
set_option maxRecDepth 20000 in
theorem dX6_readPart_54 : decode cX6_readPart 54 = .ok (.getfield 41, 3) ∧ 54 + 3 = 57 := ⟨by decide +kernel, rfl⟩
set_option maxRecDepth 20000 in
theorem dX6_readPart_57 : decode cX6_readPart 57 = .ok (.bipush 50, 2) ∧ 57 + 2 = 59 := ⟨by decide +kernel, rfl⟩
set_option maxRecDepth 20000 in
theorem dX6_readPart_59 : decode cX6_readPart 59 = .ok (.if_icmp .lt 5, 3) ∧ 59 + 3 = 62 ∧ ((59 : Nat) : Int) + (5) = ((64 : Nat) : Int) := ⟨by decide +kernel, rfl, by decide⟩
set_option maxRecDepth 20000 in
theorem dX6_readPart_62 : decode cX6_readPart 62 = .ok (.iconst 0, 1) ∧ 62 + 1 = 63 := ⟨by decide +kernel, rfl⟩
set_option maxRecDepth 20000 in
theorem dX6_readPart_63 : decode cX6_readPart 63 = .ok (.ireturn, 1) := by decide +kernel
set_option maxRecDepth 20000 in
theorem dX6_readPart_64 : decode cX6_readPart 64 = .ok (.aload_n 0, 1) ∧ 64 + 1 = 65 := ⟨by decide +kernel, rfl⟩
set_option maxRecDepth 20000 in
theorem dX6_readPart_65 : decode cX6_readPart 65 = .ok (.dup, 1) ∧ 65 + 1 = 66 := ⟨by decide +kernel, rfl⟩
set_option maxRecDepth 20000 in
theorem dX6_readPart_66 : decode cX6_readPart 66 = .ok (.getfield 41, 3) ∧ 66 + 3 = 69 := ⟨by decide +kernel, rfl⟩
set_option maxRecDepth 20000 in
theorem dX6_readPart_69 : decode cX6_readPart 69 = .ok (.iconst 1, 1) ∧ 69 + 1 = 70 := ⟨by decide +kernel, rfl⟩
set_option maxRecDepth 20000 in
theorem dX6_readPart_70 : decode cX6_readPart 70 = .ok (.iadd, 1) ∧ 70 + 1 = 71 := ⟨by decide +kernel, rfl⟩
set_option maxRecDepth 20000 in
theorem dX6_readPart_71 : decode cX6_readPart 71 = .ok (.putfield 41, 3) ∧ 71 + 3 = 74 := ⟨by decide +kernel, rfl⟩
set_option maxRecDepth 20000 in
theorem dX6_readPart_74 : decode cX6_readPart 74 = .ok (.aload_n 0, 1) ∧ 74 + 1 = 75 := ⟨by decide +kernel, rfl⟩
set_option maxRecDepth 20000 in
theorem dX6_readPart_75 : decode cX6_readPart 75 = .ok (.iload_n 3, 1) ∧ 75 + 1 = 76 := ⟨by decide +kernel, rfl⟩
set_option maxRecDepth 20000 in
theorem dX6_readPart_76 : decode cX6_readPart 76 = .ok (.ifCond .eq 7, 3) ∧ 76 + 3 = 79 ∧ ((76 : Nat) : Int) + (7) = ((83 : Nat) : Int) := ⟨by decide +kernel, rfl, by decide⟩
set_option maxRecDepth 20000 in
theorem dX6_readPart_79 : decode cX6_readPart 79 = .ok (.iconst 0, 1) ∧ 79 + 1 = 80 := ⟨by decide +kernel, rfl⟩
set_option maxRecDepth 20000 in
theorem dX6_readPart_80 : decode cX6_readPart 80 = .ok (.goto 4, 3) ∧ ((80 : Nat) : Int) + (4) = ((84 : Nat) : Int) := ⟨by decide +kernel, by decide⟩
set_option maxRecDepth 20000 in
theorem dX6_readPart_83 : decode cX6_readPart 83 = .ok (.iconst 1, 1) ∧ 83 + 1 = 84 := ⟨by decide +kernel, rfl⟩
set_option maxRecDepth 20000 in
theorem dX6_readPart_84 : decode cX6_readPart 84 = .ok (.iload_n 3, 1) ∧ 84 + 1 = 85 := ⟨by decide +kernel, rfl⟩
set_option maxRecDepth 20000 in
theorem dX6_readPart_85 : decode cX6_readPart 85 = .ok (.ifCond .eq 10, 3) ∧ 85 + 3 = 88 ∧ ((85 : Nat) : Int) + (10) = ((95 : Nat) : Int) := ⟨by decide +kernel, rfl, by decide⟩
set_option maxRecDepth 20000 in
theorem dX6_readPart_88 : decode cX6_readPart 88 = .ok (.aload_n 0, 1) ∧ 88 + 1 = 89 := ⟨by decide +kernel, rfl⟩
set_option maxRecDepth 20000 in
theorem dX6_readPart_89 : decode cX6_readPart 89 = .ok (.getfield 80, 3) ∧ 89 + 3 = 92 := ⟨by decide +kernel, rfl⟩
set_option maxRecDepth 20000 in
theorem dX6_readPart_92 : decode cX6_readPart 92 = .ok (.goto 4, 3) ∧ ((92 : Nat) : Int) + (4) = ((96 : Nat) : Int) := ⟨by decide +kernel, by decide⟩
set_option maxRecDepth 20000 in
theorem dX6_readPart_95 : decode cX6_readPart 95 = .ok (.iload_n 2, 1) ∧ 95 + 1 = 96 := ⟨by decide +kernel, rfl⟩
set_option maxRecDepth 20000 in
theorem dX6_readPart_96 : decode cX6_readPart 96 = .ok (.invokevirtual 134, 3) ∧ 96 + 3 = 99 := ⟨by decide +kernel, rfl⟩
set_option maxRecDepth 20000 in
theorem dX6_readPart_99 : decode cX6_readPart 99 = .ok (.aload_n 0, 1) ∧ 99 + 1 = 100 := ⟨by decide +kernel, rfl⟩
set_option maxRecDepth 20000 in
theorem dX6_readPart_100 : decode cX6_readPart 100 = .ok (.invokevirtual 47, 3) ∧ 100 + 3 = 103 := ⟨by decide +kernel, rfl⟩
set_option maxRecDepth 20000 in
theorem dX6_readPart_103 : decode cX6_readPart 103 = .ok (.iconst 1, 1) ∧ 103 + 1 = 104 := ⟨by decide +kernel, rfl⟩
set_option maxRecDepth 20000 in
theorem dX6_readPart_104 : decode cX6_readPart 104 = .ok (.ireturn, 1) := by decide +kernel
set_option maxRecDepth 20000 in
theorem dX6_readBracketedSum_0 : decode cX6_readBracketedSum 0 = .ok (.iload_n 1, 1) ∧ 0 + 1 = 1 := ⟨by decide +kernel, rfl⟩
set_option maxRecDepth 20000 in
theorem dX6_readBracketedSum_1 : decode cX6_readBracketedSum 1 = .ok (.bipush 8, 2) ∧ 1 + 2 = 3 := ⟨by decide +kernel, rfl⟩
set_option maxRecDepth 20000 in
theorem dX6_readBracketedSum_3 : decode cX6_readBracketedSum 3 = .ok (.if_icmp .lt 5, 3) ∧ 3 + 3 = 6 ∧ ((3 : Nat) : Int) + (5) = ((8 : Nat) : Int) := ⟨by decide +kernel, rfl, by decide⟩
set_option maxRecDepth 20000 in
theorem dX6_readBracketedSum_6 : decode cX6_readBracketedSum 6 = .ok (.iconst 0, 1) ∧ 6 + 1 = 7 := ⟨by decide +kernel, rfl⟩
set_option maxRecDepth 20000 in
theorem dX6_readBracketedSum_7 : decode cX6_readBracketedSum 7 = .ok (.ireturn, 1) := by decide +kernel
set_option maxRecDepth 20000 in
theorem dX6_readBracketedSum_8 : decode cX6_readBracketedSum 8 = .ok (.aload_n 0, 1) ∧ 8 + 1 = 9 := ⟨by decide +kernel, rfl⟩
set_option maxRecDepth 20000 in
theorem dX6_readBracketedSum_9 : decode cX6_readBracketedSum 9 = .ok (.invokevirtual 47, 3) ∧ 9 + 3 = 12 := ⟨by decide +kernel, rfl⟩
set_option maxRecDepth 20000 in
theorem dX6_readBracketedSum_12 : decode cX6_readBracketedSum 12 = .ok (.aload_n 0, 1) ∧ 12 + 1 = 13 := ⟨by decide +kernel, rfl⟩
set_option maxRecDepth 20000 in
theorem dX6_readBracketedSum_13 : decode cX6_readBracketedSum 13 = .ok (.iload_n 1, 1) ∧ 13 + 1 = 14 := ⟨by decide +kernel, rfl⟩
set_option maxRecDepth 20000 in
theorem dX6_readBracketedSum_14 : decode cX6_readBracketedSum 14 = .ok (.iconst 1, 1) ∧ 14 + 1 = 15 := ⟨by decide +kernel, rfl⟩
set_option maxRecDepth 20000 in
theorem dX6_readBracketedSum_15 : decode cX6_readBracketedSum 15 = .ok (.iadd, 1) ∧ 15 + 1 = 16 := ⟨by decide +kernel, rfl⟩
set_option maxRecDepth 20000 in
theorem dX6_readBracketedSum_16 : decode cX6_readBracketedSum 16 = .ok (.invokevirtual 111, 3) ∧ 16 + 3 = 19 := ⟨by decide +kernel, rfl⟩
set_option maxRecDepth 20000 in
theorem dX6_readBracketedSum_19 : decode cX6_readBracketedSum 19 = .ok (.ifCond .eq 12, 3) ∧ 19 + 3 = 22 ∧ ((19 : Nat) : Int) + (12) = ((31 : Nat) : Int) := ⟨by decide +kernel, rfl, by decide⟩
set_option maxRecDepth 20000 in
theorem dX6_readBracketedSum_22 : decode cX6_readBracketedSum 22 = .ok (.aload_n 0, 1) ∧ 22 + 1 = 23 := ⟨by decide +kernel, rfl⟩
set_option maxRecDepth 20000 in
theorem dX6_readBracketedSum_23 : decode cX6_readBracketedSum 23 = .ok (.bipush 93, 2) ∧ 23 + 2 = 25 := ⟨by decide +kernel, rfl⟩
set_option maxRecDepth 20000 in
theorem dX6_readBracketedSum_25 : decode cX6_readBracketedSum 25 = .ok (.invokevirtual 54, 3) ∧ 25 + 3 = 28 := ⟨by decide +kernel, rfl⟩
set_option maxRecDepth 20000 in
theorem dX6_readBracketedSum_28 : decode cX6_readBracketedSum 28 = .ok (.ifCond .ne 5, 3) ∧ 28 + 3 = 31 ∧ ((28 : Nat) : Int) + (5) = ((33 : Nat) : Int) := ⟨by decide +kernel, rfl, by decide⟩
set_option maxRecDepth 20000 in
theorem dX6_readBracketedSum_31 : decode cX6_readBracketedSum 31 = .ok (.iconst 0, 1) ∧ 31 + 1 = 32 := ⟨by decide +kernel, rfl⟩
set_option maxRecDepth 20000 in
theorem dX6_readBracketedSum_32 : decode cX6_readBracketedSum 32 = .ok (.ireturn, 1) := by decide +kernel
set_option maxRecDepth 20000 in
theorem dX6_readBracketedSum_33 : decode cX6_readBracketedSum 33 = .ok (.aload_n 0, 1) ∧ 33 + 1 = 34 := ⟨by decide +kernel, rfl⟩
set_option maxRecDepth 20000 in
theorem dX6_readBracketedSum_34 : decode cX6_readBracketedSum 34 = .ok (.invokevirtual 47, 3) ∧ 34 + 3 = 37 := ⟨by decide +kernel, rfl⟩
set_option maxRecDepth 20000 in
theorem dX6_readBracketedSum_37 : decode cX6_readBracketedSum 37 = .ok (.iconst 1, 1) ∧ 37 + 1 = 38 := ⟨by decide +kernel, rfl⟩
set_option maxRecDepth 20000 in
theorem dX6_readBracketedSum_38 : decode cX6_readBracketedSum 38 = .ok (.ireturn, 1) := by decide +kernel
set_option maxRecDepth 20000 in
theorem dX6_wordRead_0 : decode cX6_wordRead 0 = .ok (.aload_n 0, 1) ∧ 0 + 1 = 1 := ⟨by decide +kernel, rfl⟩
set_option maxRecDepth 20000 in
theorem dX6_wordRead_1 : decode cX6_wordRead 1 = .ok (.ldc 167, 2) ∧ 1 + 2 = 3 := ⟨by decide +kernel, rfl⟩
set_option maxRecDepth 20000 in
theorem dX6_wordRead_3 : decode cX6_wordRead 3 = .ok (.invokevirtual 116, 3) ∧ 3 + 3 = 6 := ⟨by decide +kernel, rfl⟩
set_option maxRecDepth 20000 in
theorem dX6_wordRead_6 : decode cX6_wordRead 6 = .ok (.ifCond .eq 5, 3) ∧ 6 + 3 = 9 ∧ ((6 : Nat) : Int) + (5) = ((11 : Nat) : Int) := ⟨by decide +kernel, rfl, by decide⟩
set_option maxRecDepth 20000 in
theorem dX6_wordRead_9 : decode cX6_wordRead 9 = .ok (.iconst 0, 1) ∧ 9 + 1 = 10 := ⟨by decide +kernel, rfl⟩
set_option maxRecDepth 20000 in
theorem dX6_wordRead_10 : decode cX6_wordRead 10 = .ok (.ireturn, 1) := by decide +kernel
set_option maxRecDepth 20000 in
theorem dX6_wordRead_11 : decode cX6_wordRead 11 = .ok (.aload_n 0, 1) ∧ 11 + 1 = 12 := ⟨by decide +kernel, rfl⟩
set_option maxRecDepth 20000 in
theorem dX6_wordRead_12 : decode cX6_wordRead 12 = .ok (.ldc 171, 2) ∧ 12 + 2 = 14 := ⟨by decide +kernel, rfl⟩
set_option maxRecDepth 20000 in
theorem dX6_wordRead_14 : decode cX6_wordRead 14 = .ok (.invokevirtual 116, 3) ∧ 14 + 3 = 17 := ⟨by decide +kernel, rfl⟩
set_option maxRecDepth 20000 in
theorem dX6_wordRead_17 : decode cX6_wordRead 17 = .ok (.ifCond .eq 5, 3) ∧ 17 + 3 = 20 ∧ ((17 : Nat) : Int) + (5) = ((22 : Nat) : Int) := ⟨by decide +kernel, rfl, by decide⟩
set_option maxRecDepth 20000 in
theorem dX6_wordRead_20 : decode cX6_wordRead 20 = .ok (.iconst 1, 1) ∧ 20 + 1 = 21 := ⟨by decide +kernel, rfl⟩
set_option maxRecDepth 20000 in
theorem dX6_wordRead_21 : decode cX6_wordRead 21 = .ok (.ireturn, 1) := by decide +kernel
set_option maxRecDepth 20000 in
theorem dX6_wordRead_22 : decode cX6_wordRead 22 = .ok (.aload_n 0, 1) ∧ 22 + 1 = 23 := ⟨by decide +kernel, rfl⟩
set_option maxRecDepth 20000 in
theorem dX6_wordRead_23 : decode cX6_wordRead 23 = .ok (.ldc 173, 2) ∧ 23 + 2 = 25 := ⟨by decide +kernel, rfl⟩
set_option maxRecDepth 20000 in
theorem dX6_wordRead_25 : decode cX6_wordRead 25 = .ok (.invokevirtual 116, 3) ∧ 25 + 3 = 28 := ⟨by decide +kernel, rfl⟩
set_option maxRecDepth 20000 in
theorem dX6_wordRead_28 : decode cX6_wordRead 28 = .ok (.ifCond .eq 5, 3) ∧ 28 + 3 = 31 ∧ ((28 : Nat) : Int) + (5) = ((33 : Nat) : Int) := ⟨by decide +kernel, rfl, by decide⟩
set_option maxRecDepth 20000 in
theorem dX6_wordRead_31 : decode cX6_wordRead 31 = .ok (.iconst 2, 1) ∧ 31 + 1 = 32 := ⟨by decide +kernel, rfl⟩
set_option maxRecDepth 20000 in
theorem dX6_wordRead_32 : decode cX6_wordRead 32 = .ok (.ireturn, 1) := by decide +kernel
set_option maxRecDepth 20000 in
theorem dX6_wordRead_33 : decode cX6_wordRead 33 = .ok (.aload_n 0, 1) ∧ 33 + 1 = 34 := ⟨by decide +kernel, rfl⟩
set_option maxRecDepth 20000 in
theorem dX6_wordRead_34 : decode cX6_wordRead 34 = .ok (.ldc 175, 2) ∧ 34 + 2 = 36 := ⟨by decide +kernel, rfl⟩
set_option maxRecDepth 20000 in
theorem dX6_wordRead_36 : decode cX6_wordRead 36 = .ok (.invokevirtual 116, 3) ∧ 36 + 3 = 39 := ⟨by decide +kernel, rfl⟩
set_option maxRecDepth 20000 in
theorem dX6_wordRead_39 : decode cX6_wordRead 39 = .ok (.ifCond .eq 5, 3) ∧ 39 + 3 = 42 ∧ ((39 : Nat) : Int) + (5) = ((44 : Nat) : Int) := ⟨by decide +kernel, rfl, by decide⟩
set_option maxRecDepth 20000 in
theorem dX6_wordRead_42 : decode cX6_wordRead 42 = .ok (.iconst 3, 1) ∧ 42 + 1 = 43 := ⟨by decide +kernel, rfl⟩
set_option maxRecDepth 20000 in
theorem dX6_wordRead_43 : decode cX6_wordRead 43 = .ok (.ireturn, 1) := by decide +kernel
set_option maxRecDepth 20000 in
theorem dX6_wordRead_44 : decode cX6_wordRead 44 = .ok (.aload_n 0, 1) ∧ 44 + 1 = 45 := ⟨by decide +kernel, rfl⟩
set_option maxRecDepth 20000 in
theorem dX6_wordRead_45 : decode cX6_wordRead 45 = .ok (.ldc 177, 2) ∧ 45 + 2 = 47 := ⟨by decide +kernel, rfl⟩
set_option maxRecDepth 20000 in
theorem dX6_wordRead_47 : decode cX6_wordRead 47 = .ok (.invokevirtual 116, 3) ∧ 47 + 3 = 50 := ⟨by decide +kernel, rfl⟩
set_option maxRecDepth 20000 in
theorem dX6_wordRead_50 : decode cX6_wordRead 50 = .ok (.ifCond .eq 5, 3) ∧ 50 + 3 = 53 ∧ ((50 : Nat) : Int) + (5) = ((55 : Nat) : Int) := ⟨by decide +kernel, rfl, by decide⟩
set_option maxRecDepth 20000 in
theorem dX6_wordRead_53 : decode cX6_wordRead 53 = .ok (.iconst 4, 1) ∧ 53 + 1 = 54 := ⟨by decide +kernel, rfl⟩
set_option maxRecDepth 20000 in
theorem dX6_wordRead_54 : decode cX6_wordRead 54 = .ok (.ireturn, 1) := by decide +kernel
set_option maxRecDepth 20000 in
theorem dX6_wordRead_55 : decode cX6_wordRead 55 = .ok (.aload_n 0, 1) ∧ 55 + 1 = 56 := ⟨by decide +kernel, rfl⟩
set_option maxRecDepth 20000 in
theorem dX6_wordRead_56 : decode cX6_wordRead 56 = .ok (.ldc 179, 2) ∧ 56 + 2 = 58 := ⟨by decide +kernel, rfl⟩
set_option maxRecDepth 20000 in
theorem dX6_wordRead_58 : decode cX6_wordRead 58 = .ok (.invokevirtual 116, 3) ∧ 58 + 3 = 61 := ⟨by decide +kernel, rfl⟩
set_option maxRecDepth 20000 in
theorem dX6_wordRead_61 : decode cX6_wordRead 61 = .ok (.ifCond .eq 5, 3) ∧ 61 + 3 = 64 ∧ ((61 : Nat) : Int) + (5) = ((66 : Nat) : Int) := ⟨by decide +kernel, rfl, by decide⟩
set_option maxRecDepth 20000 in
theorem dX6_wordRead_64 : decode cX6_wordRead 64 = .ok (.iconst 5, 1) ∧ 64 + 1 = 65 := ⟨by decide +kernel, rfl⟩
set_option maxRecDepth 20000 in
theorem dX6_wordRead_65 : decode cX6_wordRead 65 = .ok (.ireturn, 1) := by decide +kernel
set_option maxRecDepth 20000 in
theorem dX6_wordRead_66 : decode cX6_wordRead 66 = .ok (.aload_n 0, 1) ∧ 66 + 1 = 67 := ⟨by decide +kernel, rfl⟩
set_option maxRecDepth 20000 in
theorem dX6_wordRead_67 : decode cX6_wordRead 67 = .ok (.ldc 181, 2) ∧ 67 + 2 = 69 := ⟨by decide +kernel, rfl⟩
set_option maxRecDepth 20000 in
theorem dX6_wordRead_69 : decode cX6_wordRead 69 = .ok (.invokevirtual 116, 3) ∧ 69 + 3 = 72 := ⟨by decide +kernel, rfl⟩
set_option maxRecDepth 20000 in
theorem dX6_wordRead_72 : decode cX6_wordRead 72 = .ok (.ifCond .eq 6, 3) ∧ 72 + 3 = 75 ∧ ((72 : Nat) : Int) + (6) = ((78 : Nat) : Int) := ⟨by decide +kernel, rfl, by decide⟩
set_option maxRecDepth 20000 in
theorem dX6_wordRead_75 : decode cX6_wordRead 75 = .ok (.bipush 6, 2) ∧ 75 + 2 = 77 := ⟨by decide +kernel, rfl⟩
set_option maxRecDepth 20000 in
theorem dX6_wordRead_77 : decode cX6_wordRead 77 = .ok (.ireturn, 1) := by decide +kernel
set_option maxRecDepth 20000 in
theorem dX6_wordRead_78 : decode cX6_wordRead 78 = .ok (.aload_n 0, 1) ∧ 78 + 1 = 79 := ⟨by decide +kernel, rfl⟩
set_option maxRecDepth 20000 in
theorem dX6_wordRead_79 : decode cX6_wordRead 79 = .ok (.ldc 183, 2) ∧ 79 + 2 = 81 := ⟨by decide +kernel, rfl⟩
set_option maxRecDepth 20000 in
theorem dX6_wordRead_81 : decode cX6_wordRead 81 = .ok (.invokevirtual 116, 3) ∧ 81 + 3 = 84 := ⟨by decide +kernel, rfl⟩
set_option maxRecDepth 20000 in
theorem dX6_wordRead_84 : decode cX6_wordRead 84 = .ok (.ifCond .eq 6, 3) ∧ 84 + 3 = 87 ∧ ((84 : Nat) : Int) + (6) = ((90 : Nat) : Int) := ⟨by decide +kernel, rfl, by decide⟩
set_option maxRecDepth 20000 in
theorem dX6_wordRead_87 : decode cX6_wordRead 87 = .ok (.bipush 7, 2) ∧ 87 + 2 = 89 := ⟨by decide +kernel, rfl⟩
set_option maxRecDepth 20000 in
theorem dX6_wordRead_89 : decode cX6_wordRead 89 = .ok (.ireturn, 1) := by decide +kernel
set_option maxRecDepth 20000 in
theorem dX6_wordRead_90 : decode cX6_wordRead 90 = .ok (.aload_n 0, 1) ∧ 90 + 1 = 91 := ⟨by decide +kernel, rfl⟩
set_option maxRecDepth 20000 in
theorem dX6_wordRead_91 : decode cX6_wordRead 91 = .ok (.ldc 185, 2) ∧ 91 + 2 = 93 := ⟨by decide +kernel, rfl⟩
set_option maxRecDepth 20000 in
theorem dX6_wordRead_93 : decode cX6_wordRead 93 = .ok (.invokevirtual 116, 3) ∧ 93 + 3 = 96 := ⟨by decide +kernel, rfl⟩
set_option maxRecDepth 20000 in
theorem dX6_wordRead_96 : decode cX6_wordRead 96 = .ok (.ifCond .eq 6, 3) ∧ 96 + 3 = 99 ∧ ((96 : Nat) : Int) + (6) = ((102 : Nat) : Int) := ⟨by decide +kernel, rfl, by decide⟩
set_option maxRecDepth 20000 in
theorem dX6_wordRead_99 : decode cX6_wordRead 99 = .ok (.bipush 8, 2) ∧ 99 + 2 = 101 := ⟨by decide +kernel, rfl⟩
set_option maxRecDepth 20000 in
theorem dX6_wordRead_101 : decode cX6_wordRead 101 = .ok (.ireturn, 1) := by decide +kernel
set_option maxRecDepth 20000 in
theorem dX6_wordRead_102 : decode cX6_wordRead 102 = .ok (.aload_n 0, 1) ∧ 102 + 1 = 103 := ⟨by decide +kernel, rfl⟩
set_option maxRecDepth 20000 in
theorem dX6_wordRead_103 : decode cX6_wordRead 103 = .ok (.ldc 187, 2) ∧ 103 + 2 = 105 := ⟨by decide +kernel, rfl⟩
set_option maxRecDepth 20000 in
theorem dX6_wordRead_105 : decode cX6_wordRead 105 = .ok (.invokevirtual 116, 3) ∧ 105 + 3 = 108 := ⟨by decide +kernel, rfl⟩
set_option maxRecDepth 20000 in
theorem dX6_wordRead_108 : decode cX6_wordRead 108 = .ok (.ifCond .eq 8, 3) ∧ 108 + 3 = 111 ∧ ((108 : Nat) : Int) + (8) = ((116 : Nat) : Int) := ⟨by decide +kernel, rfl, by decide⟩
set_option maxRecDepth 20000 in
theorem dX6_wordRead_111 : decode cX6_wordRead 111 = .ok (.bipush 9, 2) ∧ 111 + 2 = 113 := ⟨by decide +kernel, rfl⟩
set_option maxRecDepth 20000 in
theorem dX6_wordRead_113 : decode cX6_wordRead 113 = .ok (.goto 4, 3) ∧ ((113 : Nat) : Int) + (4) = ((117 : Nat) : Int) := ⟨by decide +kernel, by decide⟩
set_option maxRecDepth 20000 in
theorem dX6_wordRead_116 : decode cX6_wordRead 116 = .ok (.iconst (-1), 1) ∧ 116 + 1 = 117 := ⟨by decide +kernel, rfl⟩
set_option maxRecDepth 20000 in
theorem dX6_wordRead_117 : decode cX6_wordRead 117 = .ok (.ireturn, 1) := by decide +kernel
set_option maxRecDepth 20000 in
theorem dX7_init_0 : decode cX7_init 0 = .ok (.aload_n 0, 1) ∧ 0 + 1 = 1 := ⟨by decide +kernel, rfl⟩
set_option maxRecDepth 20000 in
theorem dX7_init_1 : decode cX7_init 1 = .ok (.invokespecial 3, 3) ∧ 1 + 3 = 4 := ⟨by decide +kernel, rfl⟩
set_option maxRecDepth 20000 in
theorem dX7_init_4 : decode cX7_init 4 = .ok (.aload_n 0, 1) ∧ 4 + 1 = 5 := ⟨by decide +kernel, rfl⟩
set_option maxRecDepth 20000 in
theorem dX7_init_5 : decode cX7_init 5 = .ok (.bipush 8, 2) ∧ 5 + 2 = 7 := ⟨by decide +kernel, rfl⟩
set_option maxRecDepth 20000 in
theorem dX7_init_7 : decode cX7_init 7 = .ok (.newarray .int, 2) ∧ 7 + 2 = 9 := ⟨by decide +kernel, rfl⟩
set_option maxRecDepth 20000 in
theorem dX7_init_9 : decode cX7_init 9 = .ok (.putfield 9, 3) ∧ 9 + 3 = 12 := ⟨by decide +kernel, rfl⟩
set_option maxRecDepth 20000 in
theorem dX7_init_12 : decode cX7_init 12 = .ok (.aload_n 0, 1) ∧ 12 + 1 = 13 := ⟨by decide +kernel, rfl⟩
set_option maxRecDepth 20000 in
theorem dX7_init_13 : decode cX7_init 13 = .ok (.bipush 8, 2) ∧ 13 + 2 = 15 := ⟨by decide +kernel, rfl⟩
set_option maxRecDepth 20000 in
theorem dX7_init_15 : decode cX7_init 15 = .ok (.newarray .int, 2) ∧ 15 + 2 = 17 := ⟨by decide +kernel, rfl⟩
set_option maxRecDepth 20000 in
theorem dX7_init_17 : decode cX7_init 17 = .ok (.putfield 15, 3) ∧ 17 + 3 = 20 := ⟨by decide +kernel, rfl⟩
set_option maxRecDepth 20000 in
theorem dX7_init_20 : decode cX7_init 20 = .ok (.aload_n 0, 1) ∧ 20 + 1 = 21 := ⟨by decide +kernel, rfl⟩
set_option maxRecDepth 20000 in
theorem dX7_init_21 : decode cX7_init 21 = .ok (.iconst 2, 1) ∧ 21 + 1 = 22 := ⟨by decide +kernel, rfl⟩
set_option maxRecDepth 20000 in
theorem dX7_init_22 : decode cX7_init 22 = .ok (.newarray .int, 2) ∧ 22 + 2 = 24 := ⟨by decide +kernel, rfl⟩
set_option maxRecDepth 20000 in
theorem dX7_init_24 : decode cX7_init 24 = .ok (.putfield 18, 3) ∧ 24 + 3 = 27 := ⟨by decide +kernel, rfl⟩
set_option maxRecDepth 20000 in
theorem dX7_init_27 : decode cX7_init 27 = .ok (.return_, 1) := by decide +kernel
set_option maxRecDepth 20000 in
theorem dX7_hold_0 : decode cX7_hold 0 = .ok (.aload_n 0, 1) ∧ 0 + 1 = 1 := ⟨by decide +kernel, rfl⟩
set_option maxRecDepth 20000 in
theorem dX7_hold_1 : decode cX7_hold 1 = .ok (.iconst 1, 1) ∧ 1 + 1 = 2 := ⟨by decide +kernel, rfl⟩
set_option maxRecDepth 20000 in
theorem dX7_hold_2 : decode cX7_hold 2 = .ok (.putfield 21, 3) ∧ 2 + 3 = 5 := ⟨by decide +kernel, rfl⟩
set_option maxRecDepth 20000 in
theorem dX7_hold_5 : decode cX7_hold 5 = .ok (.aload_n 0, 1) ∧ 5 + 1 = 6 := ⟨by decide +kernel, rfl⟩
set_option maxRecDepth 20000 in
theorem dX7_hold_6 : decode cX7_hold 6 = .ok (.iload_n 3, 1) ∧ 6 + 1 = 7 := ⟨by decide +kernel, rfl⟩
set_option maxRecDepth 20000 in
theorem dX7_hold_7 : decode cX7_hold 7 = .ok (.putfield 25, 3) ∧ 7 + 3 = 10 := ⟨by decide +kernel, rfl⟩
set_option maxRecDepth 20000 in
theorem dX7_hold_10 : decode cX7_hold 10 = .ok (.aload_n 0, 1) ∧ 10 + 1 = 11 := ⟨by decide +kernel, rfl⟩
set_option maxRecDepth 20000 in
theorem dX7_hold_11 : decode cX7_hold 11 = .ok (.getfield 9, 3) ∧ 11 + 3 = 14 := ⟨by decide +kernel, rfl⟩
set_option maxRecDepth 20000 in
theorem dX7_hold_14 : decode cX7_hold 14 = .ok (.iconst (-1), 1) ∧ 14 + 1 = 15 := ⟨by decide +kernel, rfl⟩
set_option maxRecDepth 20000 in
theorem dX7_hold_15 : decode cX7_hold 15 = .ok (.invokestatic 29, 3) ∧ 15 + 3 = 18 := ⟨by decide +kernel, rfl⟩
set_option maxRecDepth 20000 in
theorem dX7_hold_18 : decode cX7_hold 18 = .ok (.aload_n 0, 1) ∧ 18 + 1 = 19 := ⟨by decide +kernel, rfl⟩
set_option maxRecDepth 20000 in
theorem dX7_hold_19 : decode cX7_hold 19 = .ok (.getfield 18, 3) ∧ 19 + 3 = 22 := ⟨by decide +kernel, rfl⟩
set_option maxRecDepth 20000 in
theorem dX7_hold_22 : decode cX7_hold 22 = .ok (.iconst 0, 1) ∧ 22 + 1 = 23 := ⟨by decide +kernel, rfl⟩
set_option maxRecDepth 20000 in
theorem dX7_hold_23 : decode cX7_hold 23 = .ok (.invokestatic 29, 3) ∧ 23 + 3 = 26 := ⟨by decide +kernel, rfl⟩
set_option maxRecDepth 20000 in
theorem dX7_hold_26 : decode cX7_hold 26 = .ok (.aload_n 1, 1) ∧ 26 + 1 = 27 := ⟨by decide +kernel, rfl⟩
set_option maxRecDepth 20000 in
theorem dX7_hold_27 : decode cX7_hold 27 = .ok (.getfield 35, 3) ∧ 27 + 3 = 30 := ⟨by decide +kernel, rfl⟩
set_option maxRecDepth 20000 in
theorem dX7_hold_30 : decode cX7_hold 30 = .ok (.invokestatic 40, 3) ∧ 30 + 3 = 33 := ⟨by decide +kernel, rfl⟩
set_option maxRecDepth 20000 in
theorem dX7_hold_33 : decode cX7_hold 33 = .ok (.istore 4, 2) ∧ 33 + 2 = 35 := ⟨by decide +kernel, rfl⟩
set_option maxRecDepth 20000 in
theorem dX7_hold_35 : decode cX7_hold 35 = .ok (.iconst 0, 1) ∧ 35 + 1 = 36 := ⟨by decide +kernel, rfl⟩
set_option maxRecDepth 20000 in
theorem dX7_hold_36 : decode cX7_hold 36 = .ok (.istore 5, 2) ∧ 36 + 2 = 38 := ⟨by decide +kernel, rfl⟩
set_option maxRecDepth 20000 in
theorem dX7_hold_38 : decode cX7_hold 38 = .ok (.iload 5, 2) ∧ 38 + 2 = 40 := ⟨by decide +kernel, rfl⟩
set_option maxRecDepth 20000 in
theorem dX7_hold_40 : decode cX7_hold 40 = .ok (.bipush 60, 2) ∧ 40 + 2 = 42 := ⟨by decide +kernel, rfl⟩
set_option maxRecDepth 20000 in
theorem dX7_hold_42 : decode cX7_hold 42 = .ok (.if_icmp .ge 60, 3) ∧ 42 + 3 = 45 ∧ ((42 : Nat) : Int) + (60) = ((102 : Nat) : Int) := ⟨by decide +kernel, rfl, by decide⟩
set_option maxRecDepth 20000 in
theorem dX7_hold_45 : decode cX7_hold 45 = .ok (.aload_n 0, 1) ∧ 45 + 1 = 46 := ⟨by decide +kernel, rfl⟩
set_option maxRecDepth 20000 in
theorem dX7_hold_46 : decode cX7_hold 46 = .ok (.iload 5, 2) ∧ 46 + 2 = 48 := ⟨by decide +kernel, rfl⟩
set_option maxRecDepth 20000 in
theorem dX7_hold_48 : decode cX7_hold 48 = .ok (.putfield 46, 3) ∧ 48 + 3 = 51 := ⟨by decide +kernel, rfl⟩
set_option maxRecDepth 20000 in
theorem dX7_hold_51 : decode cX7_hold 51 = .ok (.aload_n 0, 1) ∧ 51 + 1 = 52 := ⟨by decide +kernel, rfl⟩
set_option maxRecDepth 20000 in
theorem dX7_hold_52 : decode cX7_hold 52 = .ok (.aload_n 1, 1) ∧ 52 + 1 = 53 := ⟨by decide +kernel, rfl⟩
set_option maxRecDepth 20000 in
theorem dX7_hold_53 : decode cX7_hold 53 = .ok (.aload_n 2, 1) ∧ 53 + 1 = 54 := ⟨by decide +kernel, rfl⟩
set_option maxRecDepth 20000 in
theorem dX7_hold_54 : decode cX7_hold 54 = .ok (.iload 5, 2) ∧ 54 + 2 = 56 := ⟨by decide +kernel, rfl⟩
set_option maxRecDepth 20000 in
theorem dX7_hold_56 : decode cX7_hold 56 = .ok (.invokevirtual 49, 3) ∧ 56 + 3 = 59 := ⟨by decide +kernel, rfl⟩
set_option maxRecDepth 20000 in
theorem dX7_hold_59 : decode cX7_hold 59 = .ok (.aload_n 0, 1) ∧ 59 + 1 = 60 := ⟨by decide +kernel, rfl⟩
set_option maxRecDepth 20000 in
theorem dX7_hold_60 : decode cX7_hold 60 = .ok (.getfield 18, 3) ∧ 60 + 3 = 63 := ⟨by decide +kernel, rfl⟩
set_option maxRecDepth 20000 in
theorem dX7_hold_63 : decode cX7_hold 63 = .ok (.iconst 0, 1) ∧ 63 + 1 = 64 := ⟨by decide +kernel, rfl⟩
set_option maxRecDepth 20000 in
theorem dX7_hold_64 : decode cX7_hold 64 = .ok (.iaload, 1) ∧ 64 + 1 = 65 := ⟨by decide +kernel, rfl⟩
set_option maxRecDepth 20000 in
theorem dX7_hold_65 : decode cX7_hold 65 = .ok (.aload_n 1, 1) ∧ 65 + 1 = 66 := ⟨by decide +kernel, rfl⟩
set_option maxRecDepth 20000 in
theorem dX7_hold_66 : decode cX7_hold 66 = .ok (.getfield 53, 3) ∧ 66 + 3 = 69 := ⟨by decide +kernel, rfl⟩
set_option maxRecDepth 20000 in
theorem dX7_hold_69 : decode cX7_hold 69 = .ok (.iconst 0, 1) ∧ 69 + 1 = 70 := ⟨by decide +kernel, rfl⟩
set_option maxRecDepth 20000 in
theorem dX7_hold_70 : decode cX7_hold 70 = .ok (.iaload, 1) ∧ 70 + 1 = 71 := ⟨by decide +kernel, rfl⟩
set_option maxRecDepth 20000 in
theorem dX7_hold_71 : decode cX7_hold 71 = .ok (.if_icmp .lt 5, 3) ∧ 71 + 3 = 74 ∧ ((71 : Nat) : Int) + (5) = ((76 : Nat) : Int) := ⟨by decide +kernel, rfl, by decide⟩
set_option maxRecDepth 20000 in
theorem dX7_hold_74 : decode cX7_hold 74 = .ok (.iconst 0, 1) ∧ 74 + 1 = 75 := ⟨by decide +kernel, rfl⟩
set_option maxRecDepth 20000 in
theorem dX7_hold_75 : decode cX7_hold 75 = .ok (.ireturn, 1) := by decide +kernel
set_option maxRecDepth 20000 in
theorem dX7_hold_76 : decode cX7_hold 76 = .ok (.iload 4, 2) ∧ 76 + 2 = 78 := ⟨by decide +kernel, rfl⟩
set_option maxRecDepth 20000 in
theorem dX7_hold_78 : decode cX7_hold 78 = .ok (.aload_n 0, 1) ∧ 78 + 1 = 79 := ⟨by decide +kernel, rfl⟩
set_option maxRecDepth 20000 in
theorem dX7_hold_79 : decode cX7_hold 79 = .ok (.getfield 18, 3) ∧ 79 + 3 = 82 := ⟨by decide +kernel, rfl⟩
set_option maxRecDepth 20000 in
theorem dX7_hold_82 : decode cX7_hold 82 = .ok (.iconst 1, 1) ∧ 82 + 1 = 83 := ⟨by decide +kernel, rfl⟩
set_option maxRecDepth 20000 in
theorem dX7_hold_83 : decode cX7_hold 83 = .ok (.iaload, 1) ∧ 83 + 1 = 84 := ⟨by decide +kernel, rfl⟩
set_option maxRecDepth 20000 in
theorem dX7_hold_84 : decode cX7_hold 84 = .ok (.isub, 1) ∧ 84 + 1 = 85 := ⟨by decide +kernel, rfl⟩
set_option maxRecDepth 20000 in
theorem dX7_hold_85 : decode cX7_hold 85 = .ok (.aload_n 1, 1) ∧ 85 + 1 = 86 := ⟨by decide +kernel, rfl⟩
set_option maxRecDepth 20000 in
theorem dX7_hold_86 : decode cX7_hold 86 = .ok (.getfield 53, 3) ∧ 86 + 3 = 89 := ⟨by decide +kernel, rfl⟩
set_option maxRecDepth 20000 in
theorem dX7_hold_89 : decode cX7_hold 89 = .ok (.iconst 0, 1) ∧ 89 + 1 = 90 := ⟨by decide +kernel, rfl⟩
set_option maxRecDepth 20000 in
theorem dX7_hold_90 : decode cX7_hold 90 = .ok (.iaload, 1) ∧ 90 + 1 = 91 := ⟨by decide +kernel, rfl⟩
set_option maxRecDepth 20000 in
theorem dX7_hold_91 : decode cX7_hold 91 = .ok (.if_icmp .ge 5, 3) ∧ 91 + 3 = 94 ∧ ((91 : Nat) : Int) + (5) = ((96 : Nat) : Int) := ⟨by decide +kernel, rfl, by decide⟩
set_option maxRecDepth 20000 in
theorem dX7_hold_94 : decode cX7_hold 94 = .ok (.iconst 1, 1) ∧ 94 + 1 = 95 := ⟨by decide +kernel, rfl⟩
set_option maxRecDepth 20000 in
theorem dX7_hold_95 : decode cX7_hold 95 = .ok (.ireturn, 1) := by decide +kernel
set_option maxRecDepth 20000 in
theorem dX7_hold_96 : decode cX7_hold 96 = .ok (.iinc 5 1, 3) ∧ 96 + 3 = 99 := ⟨by decide +kernel, rfl⟩
set_option maxRecDepth 20000 in
theorem dX7_hold_99 : decode cX7_hold 99 = .ok (.goto (-61), 3) ∧ ((99 : Nat) : Int) + (-61) = ((38 : Nat) : Int) := ⟨by decide +kernel, by decide⟩
set_option maxRecDepth 20000 in
theorem dX7_hold_102 : decode cX7_hold 102 = .ok (.iconst 2, 1) ∧ 102 + 1 = 103 := ⟨by decide +kernel, rfl⟩
set_option maxRecDepth 20000 in
theorem dX7_hold_103 : decode cX7_hold 103 = .ok (.ireturn, 1) := by decide +kernel
set_option maxRecDepth 20000 in
theorem dX7_pass_0 : decode cX7_pass 0 = .ok (.iconst 0, 1) ∧ 0 + 1 = 1 := ⟨by decide +kernel, rfl⟩
set_option maxRecDepth 20000 in
theorem dX7_pass_1 : decode cX7_pass 1 = .ok (.istore 4, 2) ∧ 1 + 2 = 3 := ⟨by decide +kernel, rfl⟩
set_option maxRecDepth 20000 in
theorem dX7_pass_3 : decode cX7_pass 3 = .ok (.iload 4, 2) ∧ 3 + 2 = 5 := ⟨by decide +kernel, rfl⟩
set_option maxRecDepth 20000 in
theorem dX7_pass_5 : decode cX7_pass 5 = .ok (.aload_n 1, 1) ∧ 5 + 1 = 6 := ⟨by decide +kernel, rfl⟩
set_option maxRecDepth 20000 in
theorem dX7_pass_6 : decode cX7_pass 6 = .ok (.getfield 56, 3) ∧ 6 + 3 = 9 := ⟨by decide +kernel, rfl⟩
set_option maxRecDepth 20000 in
theorem dX7_pass_9 : decode cX7_pass 9 = .ok (.if_icmp .ge 112, 3) ∧ 9 + 3 = 12 ∧ ((9 : Nat) : Int) + (112) = ((121 : Nat) : Int) := ⟨by decide +kernel, rfl, by decide⟩
set_option maxRecDepth 20000 in
theorem dX7_pass_12 : decode cX7_pass 12 = .ok (.aload_n 1, 1) ∧ 12 + 1 = 13 := ⟨by decide +kernel, rfl⟩
set_option maxRecDepth 20000 in
theorem dX7_pass_13 : decode cX7_pass 13 = .ok (.iload 4, 2) ∧ 13 + 2 = 15 := ⟨by decide +kernel, rfl⟩
set_option maxRecDepth 20000 in
theorem dX7_pass_15 : decode cX7_pass 15 = .ok (.invokevirtual 59, 3) ∧ 15 + 3 = 18 := ⟨by decide +kernel, rfl⟩
set_option maxRecDepth 20000 in
theorem dX7_pass_18 : decode cX7_pass 18 = .ok (.ifCond .eq 97, 3) ∧ 18 + 3 = 21 ∧ ((18 : Nat) : Int) + (97) = ((115 : Nat) : Int) := ⟨by decide +kernel, rfl, by decide⟩
set_option maxRecDepth 20000 in
theorem dX7_pass_21 : decode cX7_pass 21 = .ok (.aload_n 0, 1) ∧ 21 + 1 = 22 := ⟨by decide +kernel, rfl⟩
set_option maxRecDepth 20000 in
theorem dX7_pass_22 : decode cX7_pass 22 = .ok (.getfield 9, 3) ∧ 22 + 3 = 25 := ⟨by decide +kernel, rfl⟩
set_option maxRecDepth 20000 in
theorem dX7_pass_25 : decode cX7_pass 25 = .ok (.iload 4, 2) ∧ 25 + 2 = 27 := ⟨by decide +kernel, rfl⟩
set_option maxRecDepth 20000 in
theorem dX7_pass_27 : decode cX7_pass 27 = .ok (.iaload, 1) ∧ 27 + 1 = 28 := ⟨by decide +kernel, rfl⟩
set_option maxRecDepth 20000 in
theorem dX7_pass_28 : decode cX7_pass 28 = .ok (.iconst (-1), 1) ∧ 28 + 1 = 29 := ⟨by decide +kernel, rfl⟩
set_option maxRecDepth 20000 in
theorem dX7_pass_29 : decode cX7_pass 29 = .ok (.if_icmp .ne 86, 3) ∧ 29 + 3 = 32 ∧ ((29 : Nat) : Int) + (86) = ((115 : Nat) : Int) := ⟨by decide +kernel, rfl, by decide⟩
set_option maxRecDepth 20000 in
theorem dX7_pass_32 : decode cX7_pass 32 = .ok (.aload_n 0, 1) ∧ 32 + 1 = 33 := ⟨by decide +kernel, rfl⟩
set_option maxRecDepth 20000 in
theorem dX7_pass_33 : decode cX7_pass 33 = .ok (.invokevirtual 63, 3) ∧ 33 + 3 = 36 := ⟨by decide +kernel, rfl⟩
set_option maxRecDepth 20000 in
theorem dX7_pass_36 : decode cX7_pass 36 = .ok (.aload_n 2, 1) ∧ 36 + 1 = 37 := ⟨by decide +kernel, rfl⟩
set_option maxRecDepth 20000 in
theorem dX7_pass_37 : decode cX7_pass 37 = .ok (.aload_n 1, 1) ∧ 37 + 1 = 38 := ⟨by decide +kernel, rfl⟩
set_option maxRecDepth 20000 in
theorem dX7_pass_38 : decode cX7_pass 38 = .ok (.iload 4, 2) ∧ 38 + 2 = 40 := ⟨by decide +kernel, rfl⟩
set_option maxRecDepth 20000 in
theorem dX7_pass_40 : decode cX7_pass 40 = .ok (.iload_n 3, 1) ∧ 40 + 1 = 41 := ⟨by decide +kernel, rfl⟩
set_option maxRecDepth 20000 in
theorem dX7_pass_41 : decode cX7_pass 41 = .ok (.invokevirtual 67, 3) ∧ 41 + 3 = 44 := ⟨by decide +kernel, rfl⟩
set_option maxRecDepth 20000 in
theorem dX7_pass_44 : decode cX7_pass 44 = .ok (.if_icmp .ge 71, 3) ∧ 44 + 3 = 47 ∧ ((44 : Nat) : Int) + (71) = ((115 : Nat) : Int) := ⟨by decide +kernel, rfl, by decide⟩
set_option maxRecDepth 20000 in
theorem dX7_pass_47 : decode cX7_pass 47 = .ok (.aload_n 2, 1) ∧ 47 + 1 = 48 := ⟨by decide +kernel, rfl⟩
set_option maxRecDepth 20000 in
theorem dX7_pass_48 : decode cX7_pass 48 = .ok (.aload_n 1, 1) ∧ 48 + 1 = 49 := ⟨by decide +kernel, rfl⟩
set_option maxRecDepth 20000 in
theorem dX7_pass_49 : decode cX7_pass 49 = .ok (.iload 4, 2) ∧ 49 + 2 = 51 := ⟨by decide +kernel, rfl⟩
set_option maxRecDepth 20000 in
theorem dX7_pass_51 : decode cX7_pass 51 = .ok (.aload_n 1, 1) ∧ 51 + 1 = 52 := ⟨by decide +kernel, rfl⟩
set_option maxRecDepth 20000 in
theorem dX7_pass_52 : decode cX7_pass 52 = .ok (.getfield 53, 3) ∧ 52 + 3 = 55 := ⟨by decide +kernel, rfl⟩
set_option maxRecDepth 20000 in
theorem dX7_pass_55 : decode cX7_pass 55 = .ok (.iconst 1, 1) ∧ 55 + 1 = 56 := ⟨by decide +kernel, rfl⟩
set_option maxRecDepth 20000 in
theorem dX7_pass_56 : decode cX7_pass 56 = .ok (.iaload, 1) ∧ 56 + 1 = 57 := ⟨by decide +kernel, rfl⟩
set_option maxRecDepth 20000 in
theorem dX7_pass_57 : decode cX7_pass 57 = .ok (.aload_n 1, 1) ∧ 57 + 1 = 58 := ⟨by decide +kernel, rfl⟩
set_option maxRecDepth 20000 in
theorem dX7_pass_58 : decode cX7_pass 58 = .ok (.iload 4, 2) ∧ 58 + 2 = 60 := ⟨by decide +kernel, rfl⟩
set_option maxRecDepth 20000 in
theorem dX7_pass_60 : decode cX7_pass 60 = .ok (.iconst 5, 1) ∧ 60 + 1 = 61 := ⟨by decide +kernel, rfl⟩
set_option maxRecDepth 20000 in
theorem dX7_pass_61 : decode cX7_pass 61 = .ok (.invokevirtual 73, 3) ∧ 61 + 3 = 64 := ⟨by decide +kernel, rfl⟩
set_option maxRecDepth 20000 in
theorem dX7_pass_64 : decode cX7_pass 64 = .ok (.iload_n 3, 1) ∧ 64 + 1 = 65 := ⟨by decide +kernel, rfl⟩
set_option maxRecDepth 20000 in
theorem dX7_pass_65 : decode cX7_pass 65 = .ok (.invokevirtual 77, 3) ∧ 65 + 3 = 68 := ⟨by decide +kernel, rfl⟩
set_option maxRecDepth 20000 in
theorem dX7_pass_68 : decode cX7_pass 68 = .ok (.istore 5, 2) ∧ 68 + 2 = 70 := ⟨by decide +kernel, rfl⟩
set_option maxRecDepth 20000 in
theorem dX7_pass_70 : decode cX7_pass 70 = .ok (.aload_n 0, 1) ∧ 70 + 1 = 71 := ⟨by decide +kernel, rfl⟩
set_option maxRecDepth 20000 in
theorem dX7_pass_71 : decode cX7_pass 71 = .ok (.getfield 9, 3) ∧ 71 + 3 = 74 := ⟨by decide +kernel, rfl⟩
set_option maxRecDepth 20000 in
theorem dX7_pass_74 : decode cX7_pass 74 = .ok (.iload 4, 2) ∧ 74 + 2 = 76 := ⟨by decide +kernel, rfl⟩
set_option maxRecDepth 20000 in
theorem dX7_pass_76 : decode cX7_pass 76 = .ok (.aload_n 0, 1) ∧ 76 + 1 = 77 := ⟨by decide +kernel, rfl⟩
set_option maxRecDepth 20000 in
theorem dX7_pass_77 : decode cX7_pass 77 = .ok (.invokevirtual 63, 3) ∧ 77 + 3 = 80 := ⟨by decide +kernel, rfl⟩
set_option maxRecDepth 20000 in
theorem dX7_pass_80 : decode cX7_pass 80 = .ok (.iload 5, 2) ∧ 80 + 2 = 82 := ⟨by decide +kernel, rfl⟩
set_option maxRecDepth 20000 in
theorem dX7_pass_82 : decode cX7_pass 82 = .ok (.if_icmp .ge 7, 3) ∧ 82 + 3 = 85 ∧ ((82 : Nat) : Int) + (7) = ((89 : Nat) : Int) := ⟨by decide +kernel, rfl, by decide⟩
set_option maxRecDepth 20000 in
theorem dX7_pass_85 : decode cX7_pass 85 = .ok (.iconst 0, 1) ∧ 85 + 1 = 86 := ⟨by decide +kernel, rfl⟩
set_option maxRecDepth 20000 in
theorem dX7_pass_86 : decode cX7_pass 86 = .ok (.goto 4, 3) ∧ ((86 : Nat) : Int) + (4) = ((90 : Nat) : Int) := ⟨by decide +kernel, by decide⟩
set_option maxRecDepth 20000 in
theorem dX7_pass_89 : decode cX7_pass 89 = .ok (.iconst 1, 1) ∧ 89 + 1 = 90 := ⟨by decide +kernel, rfl⟩
set_option maxRecDepth 20000 in
theorem dX7_pass_90 : decode cX7_pass 90 = .ok (.iastore, 1) ∧ 90 + 1 = 91 := ⟨by decide +kernel, rfl⟩
set_option maxRecDepth 20000 in
theorem dX7_pass_91 : decode cX7_pass 91 = .ok (.aload_n 0, 1) ∧ 91 + 1 = 92 := ⟨by decide +kernel, rfl⟩
set_option maxRecDepth 20000 in
theorem dX7_pass_92 : decode cX7_pass 92 = .ok (.getfield 15, 3) ∧ 92 + 3 = 95 := ⟨by decide +kernel, rfl⟩
set_option maxRecDepth 20000 in
theorem dX7_pass_95 : decode cX7_pass 95 = .ok (.iload 4, 2) ∧ 95 + 2 = 97 := ⟨by decide +kernel, rfl⟩
set_option maxRecDepth 20000 in
theorem dX7_pass_97 : decode cX7_pass 97 = .ok (.iload_n 3, 1) ∧ 97 + 1 = 98 := ⟨by decide +kernel, rfl⟩
set_option maxRecDepth 20000 in
theorem dX7_pass_98 : decode cX7_pass 98 = .ok (.iastore, 1) ∧ 98 + 1 = 99 := ⟨by decide +kernel, rfl⟩
set_option maxRecDepth 20000 in
theorem dX7_pass_99 : decode cX7_pass 99 = .ok (.aload_n 0, 1) ∧ 99 + 1 = 100 := ⟨by decide +kernel, rfl⟩
set_option maxRecDepth 20000 in
theorem dX7_pass_100 : decode cX7_pass 100 = .ok (.getfield 18, 3) ∧ 100 + 3 = 103 := ⟨by decide +kernel, rfl⟩
set_option maxRecDepth 20000 in
theorem dX7_pass_103 : decode cX7_pass 103 = .ok (.aload_n 0, 1) ∧ 103 + 1 = 104 := ⟨by decide +kernel, rfl⟩
set_option maxRecDepth 20000 in
theorem dX7_pass_104 : decode cX7_pass 104 = .ok (.getfield 9, 3) ∧ 104 + 3 = 107 := ⟨by decide +kernel, rfl⟩
set_option maxRecDepth 20000 in
theorem dX7_pass_107 : decode cX7_pass 107 = .ok (.iload 4, 2) ∧ 107 + 2 = 109 := ⟨by decide +kernel, rfl⟩
set_option maxRecDepth 20000 in
theorem dX7_pass_109 : decode cX7_pass 109 = .ok (.iaload, 1) ∧ 109 + 1 = 110 := ⟨by decide +kernel, rfl⟩
set_option maxRecDepth 20000 in
theorem dX7_pass_110 : decode cX7_pass 110 = .ok (.dup2, 1) ∧ 110 + 1 = 111 := ⟨by decide +kernel, rfl⟩
set_option maxRecDepth 20000 in
theorem dX7_pass_111 : decode cX7_pass 111 = .ok (.iaload, 1) ∧ 111 + 1 = 112 := ⟨by decide +kernel, rfl⟩
set_option maxRecDepth 20000 in
theorem dX7_pass_112 : decode cX7_pass 112 = .ok (.iconst 1, 1) ∧ 112 + 1 = 113 := ⟨by decide +kernel, rfl⟩
set_option maxRecDepth 20000 in
theorem dX7_pass_113 : decode cX7_pass 113 = .ok (.iadd, 1) ∧ 113 + 1 = 114 := ⟨by decide +kernel, rfl⟩
set_option maxRecDepth 20000 in
theorem dX7_pass_114 : decode cX7_pass 114 = .ok (.iastore, 1) ∧ 114 + 1 = 115 := ⟨by decide +kernel, rfl⟩
set_option maxRecDepth 20000 in
theorem dX7_pass_115 : decode cX7_pass 115 = .ok (.iinc 4 1, 3) ∧ 115 + 3 = 118 := ⟨by decide +kernel, rfl⟩
set_option maxRecDepth 20000 in
theorem dX7_pass_118 : decode cX7_pass 118 = .ok (.goto (-115), 3) ∧ ((118 : Nat) : Int) + (-115) = ((3 : Nat) : Int) := ⟨by decide +kernel, by decide⟩
set_option maxRecDepth 20000 in
theorem dX7_pass_121 : decode cX7_pass 121 = .ok (.return_, 1) := by decide +kernel
set_option maxRecDepth 20000 in
theorem dX7_draw_0 : decode cX7_draw 0 = .ok (.aload_n 0, 1) ∧ 0 + 1 = 1 := ⟨by decide +kernel, rfl⟩
set_option maxRecDepth 20000 in
theorem dX7_draw_1 : decode cX7_draw 1 = .ok (.aload_n 0, 1) ∧ 1 + 1 = 2 := ⟨by decide +kernel, rfl⟩
set_option maxRecDepth 20000 in
theorem dX7_draw_2 : decode cX7_draw 2 = .ok (.getfield 25, 3) ∧ 2 + 3 = 5 := ⟨by decide +kernel, rfl⟩
set_option maxRecDepth 20000 in
theorem dX7_draw_5 : decode cX7_draw 5 = .ok (.sipush 1103, 3) ∧ 5 + 3 = 8 := ⟨by decide +kernel, rfl⟩
set_option maxRecDepth 20000 in
theorem dX7_draw_8 : decode cX7_draw 8 = .ok (.imul, 1) ∧ 8 + 1 = 9 := ⟨by decide +kernel, rfl⟩
set_option maxRecDepth 20000 in
theorem dX7_draw_9 : decode cX7_draw 9 = .ok (.sipush 12345, 3) ∧ 9 + 3 = 12 := ⟨by decide +kernel, rfl⟩
set_option maxRecDepth 20000 in
theorem dX7_draw_12 : decode cX7_draw 12 = .ok (.iadd, 1) ∧ 12 + 1 = 13 := ⟨by decide +kernel, rfl⟩
set_option maxRecDepth 20000 in
theorem dX7_draw_13 : decode cX7_draw 13 = .ok (.ldc 81, 2) ∧ 13 + 2 = 15 := ⟨by decide +kernel, rfl⟩
set_option maxRecDepth 20000 in
theorem dX7_draw_15 : decode cX7_draw 15 = .ok (.irem, 1) ∧ 15 + 1 = 16 := ⟨by decide +kernel, rfl⟩
set_option maxRecDepth 20000 in
theorem dX7_draw_16 : decode cX7_draw 16 = .ok (.putfield 25, 3) ∧ 16 + 3 = 19 := ⟨by decide +kernel, rfl⟩
set_option maxRecDepth 20000 in
theorem dX7_draw_19 : decode cX7_draw 19 = .ok (.aload_n 0, 1) ∧ 19 + 1 = 20 := ⟨by decide +kernel, rfl⟩
set_option maxRecDepth 20000 in
theorem dX7_draw_20 : decode cX7_draw 20 = .ok (.getfield 25, 3) ∧ 20 + 3 = 23 := ⟨by decide +kernel, rfl⟩
set_option maxRecDepth 20000 in
theorem dX7_draw_23 : decode cX7_draw 23 = .ok (.bipush 100, 2) ∧ 23 + 2 = 25 := ⟨by decide +kernel, rfl⟩
set_option maxRecDepth 20000 in
theorem dX7_draw_25 : decode cX7_draw 25 = .ok (.irem, 1) ∧ 25 + 1 = 26 := ⟨by decide +kernel, rfl⟩
set_option maxRecDepth 20000 in
theorem dX7_draw_26 : decode cX7_draw 26 = .ok (.ireturn, 1) := by decide +kernel
set_option maxRecDepth 20000 in
theorem dX8_init_0 : decode cX8_init 0 = .ok (.aload_n 0, 1) ∧ 0 + 1 = 1 := ⟨by decide +kernel, rfl⟩
set_option maxRecDepth 20000 in
theorem dX8_init_1 : decode cX8_init 1 = .ok (.invokespecial 3, 3) ∧ 1 + 3 = 4 := ⟨by decide +kernel, rfl⟩
set_option maxRecDepth 20000 in
theorem dX8_init_4 : decode cX8_init 4 = .ok (.aload_n 0, 1) ∧ 4 + 1 = 5 := ⟨by decide +kernel, rfl⟩
set_option maxRecDepth 20000 in
theorem dX8_init_5 : decode cX8_init 5 = .ok (.bipush 9, 2) ∧ 5 + 2 = 7 := ⟨by decide +kernel, rfl⟩
set_option maxRecDepth 20000 in
theorem dX8_init_7 : decode cX8_init 7 = .ok (.newarray .long, 2) ∧ 7 + 2 = 9 := ⟨by decide +kernel, rfl⟩
set_option maxRecDepth 20000 in
theorem dX8_init_9 : decode cX8_init 9 = .ok (.putfield 9, 3) ∧ 9 + 3 = 12 := ⟨by decide +kernel, rfl⟩
set_option maxRecDepth 20000 in
theorem dX8_init_12 : decode cX8_init 12 = .ok (.aload_n 0, 1) ∧ 12 + 1 = 13 := ⟨by decide +kernel, rfl⟩
set_option maxRecDepth 20000 in
theorem dX8_init_13 : decode cX8_init 13 = .ok (.getfield 9, 3) ∧ 13 + 3 = 16 := ⟨by decide +kernel, rfl⟩
set_option maxRecDepth 20000 in
theorem dX8_init_16 : decode cX8_init 16 = .ok (.iconst 0, 1) ∧ 16 + 1 = 17 := ⟨by decide +kernel, rfl⟩
set_option maxRecDepth 20000 in
theorem dX8_init_17 : decode cX8_init 17 = .ok (.lconst 1, 1) ∧ 17 + 1 = 18 := ⟨by decide +kernel, rfl⟩
set_option maxRecDepth 20000 in
theorem dX8_init_18 : decode cX8_init 18 = .ok (.lastore, 1) ∧ 18 + 1 = 19 := ⟨by decide +kernel, rfl⟩
set_option maxRecDepth 20000 in
theorem dX8_init_19 : decode cX8_init 19 = .ok (.return_, 1) := by decide +kernel
set_option maxRecDepth 20000 in
theorem dX8_clear_0 : decode cX8_clear 0 = .ok (.aload_n 0, 1) ∧ 0 + 1 = 1 := ⟨by decide +kernel, rfl⟩
set_option maxRecDepth 20000 in
theorem dX8_clear_1 : decode cX8_clear 1 = .ok (.getfield 9, 3) ∧ 1 + 3 = 4 := ⟨by decide +kernel, rfl⟩
set_option maxRecDepth 20000 in
theorem dX8_clear_4 : decode cX8_clear 4 = .ok (.lconst 0, 1) ∧ 4 + 1 = 5 := ⟨by decide +kernel, rfl⟩
set_option maxRecDepth 20000 in
theorem dX8_clear_5 : decode cX8_clear 5 = .ok (.invokestatic 15, 3) ∧ 5 + 3 = 8 := ⟨by decide +kernel, rfl⟩
set_option maxRecDepth 20000 in
theorem dX8_clear_8 : decode cX8_clear 8 = .ok (.aload_n 0, 1) ∧ 8 + 1 = 9 := ⟨by decide +kernel, rfl⟩
set_option maxRecDepth 20000 in
theorem dX8_clear_9 : decode cX8_clear 9 = .ok (.getfield 9, 3) ∧ 9 + 3 = 12 := ⟨by decide +kernel, rfl⟩
set_option maxRecDepth 20000 in
theorem dX8_clear_12 : decode cX8_clear 12 = .ok (.iconst 0, 1) ∧ 12 + 1 = 13 := ⟨by decide +kernel, rfl⟩
set_option maxRecDepth 20000 in
theorem dX8_clear_13 : decode cX8_clear 13 = .ok (.lconst 1, 1) ∧ 13 + 1 = 14 := ⟨by decide +kernel, rfl⟩
set_option maxRecDepth 20000 in
theorem dX8_clear_14 : decode cX8_clear 14 = .ok (.lastore, 1) ∧ 14 + 1 = 15 := ⟨by decide +kernel, rfl⟩
set_option maxRecDepth 20000 in
theorem dX8_clear_15 : decode cX8_clear 15 = .ok (.aload_n 0, 1) ∧ 15 + 1 = 16 := ⟨by decide +kernel, rfl⟩
set_option maxRecDepth 20000 in
theorem dX8_clear_16 : decode cX8_clear 16 = .ok (.iconst 0, 1) ∧ 16 + 1 = 17 := ⟨by decide +kernel, rfl⟩
set_option maxRecDepth 20000 in
theorem dX8_clear_17 : decode cX8_clear 17 = .ok (.putfield 21, 3) ∧ 17 + 3 = 20 := ⟨by decide +kernel, rfl⟩
set_option maxRecDepth 20000 in
theorem dX8_clear_20 : decode cX8_clear 20 = .ok (.return_, 1) := by decide +kernel
set_option maxRecDepth 20000 in
theorem dX8_vote_0 : decode cX8_vote 0 = .ok (.aload_n 0, 1) ∧ 0 + 1 = 1 := ⟨by decide +kernel, rfl⟩
set_option maxRecDepth 20000 in
theorem dX8_vote_1 : decode cX8_vote 1 = .ok (.getfield 21, 3) ∧ 1 + 3 = 4 := ⟨by decide +kernel, rfl⟩
set_option maxRecDepth 20000 in
theorem dX8_vote_4 : decode cX8_vote 4 = .ok (.bipush 8, 2) ∧ 4 + 2 = 6 := ⟨by decide +kernel, rfl⟩
set_option maxRecDepth 20000 in
theorem dX8_vote_6 : decode cX8_vote 6 = .ok (.if_icmp .lt 4, 3) ∧ 6 + 3 = 9 ∧ ((6 : Nat) : Int) + (4) = ((10 : Nat) : Int) := ⟨by decide +kernel, rfl, by decide⟩
set_option maxRecDepth 20000 in
theorem dX8_vote_9 : decode cX8_vote 9 = .ok (.return_, 1) := by decide +kernel
set_option maxRecDepth 20000 in
theorem dX8_vote_10 : decode cX8_vote 10 = .ok (.aload_n 0, 1) ∧ 10 + 1 = 11 := ⟨by decide +kernel, rfl⟩
set_option maxRecDepth 20000 in
theorem dX8_vote_11 : decode cX8_vote 11 = .ok (.dup, 1) ∧ 11 + 1 = 12 := ⟨by decide +kernel, rfl⟩
set_option maxRecDepth 20000 in
theorem dX8_vote_12 : decode cX8_vote 12 = .ok (.getfield 21, 3) ∧ 12 + 3 = 15 := ⟨by decide +kernel, rfl⟩
set_option maxRecDepth 20000 in
theorem dX8_vote_15 : decode cX8_vote 15 = .ok (.iconst 1, 1) ∧ 15 + 1 = 16 := ⟨by decide +kernel, rfl⟩
set_option maxRecDepth 20000 in
theorem dX8_vote_16 : decode cX8_vote 16 = .ok (.iadd, 1) ∧ 16 + 1 = 17 := ⟨by decide +kernel, rfl⟩
set_option maxRecDepth 20000 in
theorem dX8_vote_17 : decode cX8_vote 17 = .ok (.putfield 21, 3) ∧ 17 + 3 = 20 := ⟨by decide +kernel, rfl⟩
set_option maxRecDepth 20000 in
theorem dX8_vote_20 : decode cX8_vote 20 = .ok (.aload_n 0, 1) ∧ 20 + 1 = 21 := ⟨by decide +kernel, rfl⟩
set_option maxRecDepth 20000 in
theorem dX8_vote_21 : decode cX8_vote 21 = .ok (.getfield 21, 3) ∧ 21 + 3 = 24 := ⟨by decide +kernel, rfl⟩
set_option maxRecDepth 20000 in
theorem dX8_vote_24 : decode cX8_vote 24 = .ok (.istore_n 2, 1) ∧ 24 + 1 = 25 := ⟨by decide +kernel, rfl⟩
set_option maxRecDepth 20000 in
theorem dX8_vote_25 : decode cX8_vote 25 = .ok (.iload_n 2, 1) ∧ 25 + 1 = 26 := ⟨by decide +kernel, rfl⟩
set_option maxRecDepth 20000 in
theorem dX8_vote_26 : decode cX8_vote 26 = .ok (.ifCond .le 39, 3) ∧ 26 + 3 = 29 ∧ ((26 : Nat) : Int) + (39) = ((65 : Nat) : Int) := ⟨by decide +kernel, rfl, by decide⟩
set_option maxRecDepth 20000 in
theorem dX8_vote_29 : decode cX8_vote 29 = .ok (.aload_n 0, 1) ∧ 29 + 1 = 30 := ⟨by decide +kernel, rfl⟩
set_option maxRecDepth 20000 in
theorem dX8_vote_30 : decode cX8_vote 30 = .ok (.getfield 9, 3) ∧ 30 + 3 = 33 := ⟨by decide +kernel, rfl⟩
set_option maxRecDepth 20000 in
theorem dX8_vote_33 : decode cX8_vote 33 = .ok (.iload_n 2, 1) ∧ 33 + 1 = 34 := ⟨by decide +kernel, rfl⟩
set_option maxRecDepth 20000 in
theorem dX8_vote_34 : decode cX8_vote 34 = .ok (.aload_n 0, 1) ∧ 34 + 1 = 35 := ⟨by decide +kernel, rfl⟩
set_option maxRecDepth 20000 in
theorem dX8_vote_35 : decode cX8_vote 35 = .ok (.getfield 9, 3) ∧ 35 + 3 = 38 := ⟨by decide +kernel, rfl⟩
set_option maxRecDepth 20000 in
theorem dX8_vote_38 : decode cX8_vote 38 = .ok (.iload_n 2, 1) ∧ 38 + 1 = 39 := ⟨by decide +kernel, rfl⟩
set_option maxRecDepth 20000 in
theorem dX8_vote_39 : decode cX8_vote 39 = .ok (.laload, 1) ∧ 39 + 1 = 40 := ⟨by decide +kernel, rfl⟩
set_option maxRecDepth 20000 in
theorem dX8_vote_40 : decode cX8_vote 40 = .ok (.bipush 100, 2) ∧ 40 + 2 = 42 := ⟨by decide +kernel, rfl⟩
set_option maxRecDepth 20000 in
theorem dX8_vote_42 : decode cX8_vote 42 = .ok (.iload_n 1, 1) ∧ 42 + 1 = 43 := ⟨by decide +kernel, rfl⟩
set_option maxRecDepth 20000 in
theorem dX8_vote_43 : decode cX8_vote 43 = .ok (.isub, 1) ∧ 43 + 1 = 44 := ⟨by decide +kernel, rfl⟩
set_option maxRecDepth 20000 in
theorem dX8_vote_44 : decode cX8_vote 44 = .ok (.i2l, 1) ∧ 44 + 1 = 45 := ⟨by decide +kernel, rfl⟩
set_option maxRecDepth 20000 in
theorem dX8_vote_45 : decode cX8_vote 45 = .ok (.lmul, 1) ∧ 45 + 1 = 46 := ⟨by decide +kernel, rfl⟩
set_option maxRecDepth 20000 in
theorem dX8_vote_46 : decode cX8_vote 46 = .ok (.aload_n 0, 1) ∧ 46 + 1 = 47 := ⟨by decide +kernel, rfl⟩
set_option maxRecDepth 20000 in
theorem dX8_vote_47 : decode cX8_vote 47 = .ok (.getfield 9, 3) ∧ 47 + 3 = 50 := ⟨by decide +kernel, rfl⟩
set_option maxRecDepth 20000 in
theorem dX8_vote_50 : decode cX8_vote 50 = .ok (.iload_n 2, 1) ∧ 50 + 1 = 51 := ⟨by decide +kernel, rfl⟩
set_option maxRecDepth 20000 in
theorem dX8_vote_51 : decode cX8_vote 51 = .ok (.iconst 1, 1) ∧ 51 + 1 = 52 := ⟨by decide +kernel, rfl⟩
set_option maxRecDepth 20000 in
theorem dX8_vote_52 : decode cX8_vote 52 = .ok (.isub, 1) ∧ 52 + 1 = 53 := ⟨by decide +kernel, rfl⟩
set_option maxRecDepth 20000 in
theorem dX8_vote_53 : decode cX8_vote 53 = .ok (.laload, 1) ∧ 53 + 1 = 54 := ⟨by decide +kernel, rfl⟩
set_option maxRecDepth 20000 in
theorem dX8_vote_54 : decode cX8_vote 54 = .ok (.iload_n 1, 1) ∧ 54 + 1 = 55 := ⟨by decide +kernel, rfl⟩
set_option maxRecDepth 20000 in
theorem dX8_vote_55 : decode cX8_vote 55 = .ok (.i2l, 1) ∧ 55 + 1 = 56 := ⟨by decide +kernel, rfl⟩
set_option maxRecDepth 20000 in
theorem dX8_vote_56 : decode cX8_vote 56 = .ok (.lmul, 1) ∧ 56 + 1 = 57 := ⟨by decide +kernel, rfl⟩
set_option maxRecDepth 20000 in
theorem dX8_vote_57 : decode cX8_vote 57 = .ok (.ladd, 1) ∧ 57 + 1 = 58 := ⟨by decide +kernel, rfl⟩
set_option maxRecDepth 20000 in
theorem dX8_vote_58 : decode cX8_vote 58 = .ok (.lastore, 1) ∧ 58 + 1 = 59 := ⟨by decide +kernel, rfl⟩
set_option maxRecDepth 20000 in
theorem dX8_vote_59 : decode cX8_vote 59 = .ok (.iinc 2 (-1), 3) ∧ 59 + 3 = 62 := ⟨by decide +kernel, rfl⟩
set_option maxRecDepth 20000 in
theorem dX8_vote_62 : decode cX8_vote 62 = .ok (.goto (-37), 3) ∧ ((62 : Nat) : Int) + (-37) = ((25 : Nat) : Int) := ⟨by decide +kernel, by decide⟩
set_option maxRecDepth 20000 in
theorem dX8_vote_65 : decode cX8_vote 65 = .ok (.aload_n 0, 1) ∧ 65 + 1 = 66 := ⟨by decide +kernel, rfl⟩
set_option maxRecDepth 20000 in
theorem dX8_vote_66 : decode cX8_vote 66 = .ok (.getfield 9, 3) ∧ 66 + 3 = 69 := ⟨by decide +kernel, rfl⟩
set_option maxRecDepth 20000 in
theorem dX8_vote_69 : decode cX8_vote 69 = .ok (.iconst 0, 1) ∧ 69 + 1 = 70 := ⟨by decide +kernel, rfl⟩
set_option maxRecDepth 20000 in
theorem dX8_vote_70 : decode cX8_vote 70 = .ok (.dup2, 1) ∧ 70 + 1 = 71 := ⟨by decide +kernel, rfl⟩
set_option maxRecDepth 20000 in
theorem dX8_vote_71 : decode cX8_vote 71 = .ok (.laload, 1) ∧ 71 + 1 = 72 := ⟨by decide +kernel, rfl⟩
set_option maxRecDepth 20000 in
theorem dX8_vote_72 : decode cX8_vote 72 = .ok (.bipush 100, 2) ∧ 72 + 2 = 74 := ⟨by decide +kernel, rfl⟩
set_option maxRecDepth 20000 in
theorem dX8_vote_74 : decode cX8_vote 74 = .ok (.iload_n 1, 1) ∧ 74 + 1 = 75 := ⟨by decide +kernel, rfl⟩
set_option maxRecDepth 20000 in
theorem dX8_vote_75 : decode cX8_vote 75 = .ok (.isub, 1) ∧ 75 + 1 = 76 := ⟨by decide +kernel, rfl⟩
set_option maxRecDepth 20000 in
theorem dX8_vote_76 : decode cX8_vote 76 = .ok (.i2l, 1) ∧ 76 + 1 = 77 := ⟨by decide +kernel, rfl⟩
set_option maxRecDepth 20000 in
theorem dX8_vote_77 : decode cX8_vote 77 = .ok (.lmul, 1) ∧ 77 + 1 = 78 := ⟨by decide +kernel, rfl⟩
set_option maxRecDepth 20000 in
theorem dX8_vote_78 : decode cX8_vote 78 = .ok (.lastore, 1) ∧ 78 + 1 = 79 := ⟨by decide +kernel, rfl⟩
set_option maxRecDepth 20000 in
theorem dX8_vote_79 : decode cX8_vote 79 = .ok (.return_, 1) := by decide +kernel
set_option maxRecDepth 20000 in
theorem dX8_voteAfter_0 : decode cX8_voteAfter 0 = .ok (.aload_n 1, 1) ∧ 0 + 1 = 1 := ⟨by decide +kernel, rfl⟩
set_option maxRecDepth 20000 in
theorem dX8_voteAfter_1 : decode cX8_voteAfter 1 = .ok (.getfield 9, 3) ∧ 1 + 3 = 4 := ⟨by decide +kernel, rfl⟩
set_option maxRecDepth 20000 in
theorem dX8_voteAfter_4 : decode cX8_voteAfter 4 = .ok (.iconst 0, 1) ∧ 4 + 1 = 5 := ⟨by decide +kernel, rfl⟩
set_option maxRecDepth 20000 in
theorem dX8_voteAfter_5 : decode cX8_voteAfter 5 = .ok (.aload_n 0, 1) ∧ 5 + 1 = 6 := ⟨by decide +kernel, rfl⟩
set_option maxRecDepth 20000 in
theorem dX8_voteAfter_6 : decode cX8_voteAfter 6 = .ok (.getfield 9, 3) ∧ 6 + 3 = 9 := ⟨by decide +kernel, rfl⟩
set_option maxRecDepth 20000 in
theorem dX8_voteAfter_9 : decode cX8_voteAfter 9 = .ok (.iconst 0, 1) ∧ 9 + 1 = 10 := ⟨by decide +kernel, rfl⟩
set_option maxRecDepth 20000 in
theorem dX8_voteAfter_10 : decode cX8_voteAfter 10 = .ok (.aload_n 0, 1) ∧ 10 + 1 = 11 := ⟨by decide +kernel, rfl⟩
set_option maxRecDepth 20000 in
theorem dX8_voteAfter_11 : decode cX8_voteAfter 11 = .ok (.getfield 9, 3) ∧ 11 + 3 = 14 := ⟨by decide +kernel, rfl⟩
set_option maxRecDepth 20000 in
theorem dX8_voteAfter_14 : decode cX8_voteAfter 14 = .ok (.arraylength, 1) ∧ 14 + 1 = 15 := ⟨by decide +kernel, rfl⟩
set_option maxRecDepth 20000 in
theorem dX8_voteAfter_15 : decode cX8_voteAfter 15 = .ok (.invokestatic 25, 3) ∧ 15 + 3 = 18 := ⟨by decide +kernel, rfl⟩
set_option maxRecDepth 20000 in
theorem dX8_voteAfter_18 : decode cX8_voteAfter 18 = .ok (.aload_n 0, 1) ∧ 18 + 1 = 19 := ⟨by decide +kernel, rfl⟩
set_option maxRecDepth 20000 in
theorem dX8_voteAfter_19 : decode cX8_voteAfter 19 = .ok (.aload_n 1, 1) ∧ 19 + 1 = 20 := ⟨by decide +kernel, rfl⟩
set_option maxRecDepth 20000 in
theorem dX8_voteAfter_20 : decode cX8_voteAfter 20 = .ok (.getfield 21, 3) ∧ 20 + 3 = 23 := ⟨by decide +kernel, rfl⟩
set_option maxRecDepth 20000 in
theorem dX8_voteAfter_23 : decode cX8_voteAfter 23 = .ok (.putfield 21, 3) ∧ 23 + 3 = 26 := ⟨by decide +kernel, rfl⟩
set_option maxRecDepth 20000 in
theorem dX8_voteAfter_26 : decode cX8_voteAfter 26 = .ok (.aload_n 0, 1) ∧ 26 + 1 = 27 := ⟨by decide +kernel, rfl⟩
set_option maxRecDepth 20000 in
theorem dX8_voteAfter_27 : decode cX8_voteAfter 27 = .ok (.iload_n 2, 1) ∧ 27 + 1 = 28 := ⟨by decide +kernel, rfl⟩
set_option maxRecDepth 20000 in
theorem dX8_voteAfter_28 : decode cX8_voteAfter 28 = .ok (.invokevirtual 31, 3) ∧ 28 + 3 = 31 := ⟨by decide +kernel, rfl⟩
set_option maxRecDepth 20000 in
theorem dX8_voteAfter_31 : decode cX8_voteAfter 31 = .ok (.return_, 1) := by decide +kernel
set_option maxRecDepth 20000 in
theorem dX8_just_0 : decode cX8_just 0 = .ok (.iload_n 1, 1) ∧ 0 + 1 = 1 := ⟨by decide +kernel, rfl⟩
set_option maxRecDepth 20000 in
theorem dX8_just_1 : decode cX8_just 1 = .ok (.ifCond .lt 20, 3) ∧ 1 + 3 = 4 ∧ ((1 : Nat) : Int) + (20) = ((21 : Nat) : Int) := ⟨by decide +kernel, rfl, by decide⟩
set_option maxRecDepth 20000 in
theorem dX8_just_4 : decode cX8_just 4 = .ok (.iload_n 1, 1) ∧ 4 + 1 = 5 := ⟨by decide +kernel, rfl⟩
set_option maxRecDepth 20000 in
theorem dX8_just_5 : decode cX8_just 5 = .ok (.aload_n 0, 1) ∧ 5 + 1 = 6 := ⟨by decide +kernel, rfl⟩
set_option maxRecDepth 20000 in
theorem dX8_just_6 : decode cX8_just 6 = .ok (.getfield 21, 3) ∧ 6 + 3 = 9 := ⟨by decide +kernel, rfl⟩
set_option maxRecDepth 20000 in
theorem dX8_just_9 : decode cX8_just 9 = .ok (.if_icmp .gt 12, 3) ∧ 9 + 3 = 12 ∧ ((9 : Nat) : Int) + (12) = ((21 : Nat) : Int) := ⟨by decide +kernel, rfl, by decide⟩
set_option maxRecDepth 20000 in
theorem dX8_just_12 : decode cX8_just 12 = .ok (.aload_n 0, 1) ∧ 12 + 1 = 13 := ⟨by decide +kernel, rfl⟩
set_option maxRecDepth 20000 in
theorem dX8_just_13 : decode cX8_just 13 = .ok (.getfield 9, 3) ∧ 13 + 3 = 16 := ⟨by decide +kernel, rfl⟩
set_option maxRecDepth 20000 in
theorem dX8_just_16 : decode cX8_just 16 = .ok (.iload_n 1, 1) ∧ 16 + 1 = 17 := ⟨by decide +kernel, rfl⟩
set_option maxRecDepth 20000 in
theorem dX8_just_17 : decode cX8_just 17 = .ok (.laload, 1) ∧ 17 + 1 = 18 := ⟨by decide +kernel, rfl⟩
set_option maxRecDepth 20000 in
theorem dX8_just_18 : decode cX8_just 18 = .ok (.goto 4, 3) ∧ ((18 : Nat) : Int) + (4) = ((22 : Nat) : Int) := ⟨by decide +kernel, by decide⟩
set_option maxRecDepth 20000 in
theorem dX8_just_21 : decode cX8_just 21 = .ok (.lconst 0, 1) ∧ 21 + 1 = 22 := ⟨by decide +kernel, rfl⟩
set_option maxRecDepth 20000 in
theorem dX8_just_22 : decode cX8_just 22 = .ok (.lreturn, 1) := by decide +kernel
set_option maxRecDepth 20000 in
theorem dX8_atLeast_0 : decode cX8_atLeast 0 = .ok (.lconst 0, 1) ∧ 0 + 1 = 1 := ⟨by decide +kernel, rfl⟩
set_option maxRecDepth 20000 in
theorem dX8_atLeast_1 : decode cX8_atLeast 1 = .ok (.lstore_n 2, 1) ∧ 1 + 1 = 2 := ⟨by decide +kernel, rfl⟩
set_option maxRecDepth 20000 in
theorem dX8_atLeast_2 : decode cX8_atLeast 2 = .ok (.iconst 0, 1) ∧ 2 + 1 = 3 := ⟨by decide +kernel, rfl⟩
set_option maxRecDepth 20000 in
theorem dX8_atLeast_3 : decode cX8_atLeast 3 = .ok (.iload_n 1, 1) ∧ 3 + 1 = 4 := ⟨by decide +kernel, rfl⟩
set_option maxRecDepth 20000 in
theorem dX8_atLeast_4 : decode cX8_atLeast 4 = .ok (.invokestatic 35, 3) ∧ 4 + 3 = 7 := ⟨by decide +kernel, rfl⟩
set_option maxRecDepth 20000 in
theorem dX8_atLeast_7 : decode cX8_atLeast 7 = .ok (.istore 4, 2) ∧ 7 + 2 = 9 := ⟨by decide +kernel, rfl⟩
set_option maxRecDepth 20000 in
theorem dX8_atLeast_9 : decode cX8_atLeast 9 = .ok (.iload 4, 2) ∧ 9 + 2 = 11 := ⟨by decide +kernel, rfl⟩
set_option maxRecDepth 20000 in
theorem dX8_atLeast_11 : decode cX8_atLeast 11 = .ok (.aload_n 0, 1) ∧ 11 + 1 = 12 := ⟨by decide +kernel, rfl⟩
set_option maxRecDepth 20000 in
theorem dX8_atLeast_12 : decode cX8_atLeast 12 = .ok (.getfield 21, 3) ∧ 12 + 3 = 15 := ⟨by decide +kernel, rfl⟩
set_option maxRecDepth 20000 in
theorem dX8_atLeast_15 : decode cX8_atLeast 15 = .ok (.if_icmp .gt 19, 3) ∧ 15 + 3 = 18 ∧ ((15 : Nat) : Int) + (19) = ((34 : Nat) : Int) := ⟨by decide +kernel, rfl, by decide⟩
set_option maxRecDepth 20000 in
theorem dX8_atLeast_18 : decode cX8_atLeast 18 = .ok (.lload_n 2, 1) ∧ 18 + 1 = 19 := ⟨by decide +kernel, rfl⟩
set_option maxRecDepth 20000 in
theorem dX8_atLeast_19 : decode cX8_atLeast 19 = .ok (.aload_n 0, 1) ∧ 19 + 1 = 20 := ⟨by decide +kernel, rfl⟩
set_option maxRecDepth 20000 in
theorem dX8_atLeast_20 : decode cX8_atLeast 20 = .ok (.getfield 9, 3) ∧ 20 + 3 = 23 := ⟨by decide +kernel, rfl⟩
set_option maxRecDepth 20000 in
theorem dX8_atLeast_23 : decode cX8_atLeast 23 = .ok (.iload 4, 2) ∧ 23 + 2 = 25 := ⟨by decide +kernel, rfl⟩
set_option maxRecDepth 20000 in
theorem dX8_atLeast_25 : decode cX8_atLeast 25 = .ok (.laload, 1) ∧ 25 + 1 = 26 := ⟨by decide +kernel, rfl⟩
set_option maxRecDepth 20000 in
theorem dX8_atLeast_26 : decode cX8_atLeast 26 = .ok (.ladd, 1) ∧ 26 + 1 = 27 := ⟨by decide +kernel, rfl⟩
set_option maxRecDepth 20000 in
theorem dX8_atLeast_27 : decode cX8_atLeast 27 = .ok (.lstore_n 2, 1) ∧ 27 + 1 = 28 := ⟨by decide +kernel, rfl⟩
set_option maxRecDepth 20000 in
theorem dX8_atLeast_28 : decode cX8_atLeast 28 = .ok (.iinc 4 1, 3) ∧ 28 + 3 = 31 := ⟨by decide +kernel, rfl⟩
set_option maxRecDepth 20000 in
theorem dX8_atLeast_31 : decode cX8_atLeast 31 = .ok (.goto (-22), 3) ∧ ((31 : Nat) : Int) + (-22) = ((9 : Nat) : Int) := ⟨by decide +kernel, by decide⟩
set_option maxRecDepth 20000 in
theorem dX8_atLeast_34 : decode cX8_atLeast 34 = .ok (.lload_n 2, 1) ∧ 34 + 1 = 35 := ⟨by decide +kernel, rfl⟩
set_option maxRecDepth 20000 in
theorem dX8_atLeast_35 : decode cX8_atLeast 35 = .ok (.lreturn, 1) := by decide +kernel
set_option maxRecDepth 20000 in
theorem dX9_init_0 : decode cX9_init 0 = .ok (.aload_n 0, 1) ∧ 0 + 1 = 1 := ⟨by decide +kernel, rfl⟩
set_option maxRecDepth 20000 in
theorem dX9_init_1 : decode cX9_init 1 = .ok (.invokespecial 3, 3) ∧ 1 + 3 = 4 := ⟨by decide +kernel, rfl⟩
set_option maxRecDepth 20000 in
theorem dX9_init_4 : decode cX9_init 4 = .ok (.aload_n 0, 1) ∧ 4 + 1 = 5 := ⟨by decide +kernel, rfl⟩
set_option maxRecDepth 20000 in
theorem dX9_init_5 : decode cX9_init 5 = .ok (.sipush 400, 3) ∧ 5 + 3 = 8 := ⟨by decide +kernel, rfl⟩
set_option maxRecDepth 20000 in
theorem dX9_init_8 : decode cX9_init 8 = .ok (.newarray .int, 2) ∧ 8 + 2 = 10 := ⟨by decide +kernel, rfl⟩
set_option maxRecDepth 20000 in
theorem dX9_init_10 : decode cX9_init 10 = .ok (.putfield 9, 3) ∧ 10 + 3 = 13 := ⟨by decide +kernel, rfl⟩
set_option maxRecDepth 20000 in
theorem dX9_init_13 : decode cX9_init 13 = .ok (.return_, 1) := by decide +kernel
set_option maxRecDepth 20000 in
theorem dX9_append_0 : decode cX9_append 0 = .ok (.bipush 24, 2) ∧ 0 + 2 = 2 := ⟨by decide +kernel, rfl⟩
set_option maxRecDepth 20000 in
theorem dX9_append_2 : decode cX9_append 2 = .ok (.istore_n 2, 1) ∧ 2 + 1 = 3 := ⟨by decide +kernel, rfl⟩
set_option maxRecDepth 20000 in
theorem dX9_append_3 : decode cX9_append 3 = .ok (.iload_n 2, 1) ∧ 3 + 1 = 4 := ⟨by decide +kernel, rfl⟩
set_option maxRecDepth 20000 in
theorem dX9_append_4 : decode cX9_append 4 = .ok (.ifCond .lt 45, 3) ∧ 4 + 3 = 7 ∧ ((4 : Nat) : Int) + (45) = ((49 : Nat) : Int) := ⟨by decide +kernel, rfl, by decide⟩
set_option maxRecDepth 20000 in
theorem dX9_append_7 : decode cX9_append 7 = .ok (.aload_n 0, 1) ∧ 7 + 1 = 8 := ⟨by decide +kernel, rfl⟩
set_option maxRecDepth 20000 in
theorem dX9_append_8 : decode cX9_append 8 = .ok (.getfield 15, 3) ∧ 8 + 3 = 11 := ⟨by decide +kernel, rfl⟩
set_option maxRecDepth 20000 in
theorem dX9_append_11 : decode cX9_append 11 = .ok (.sipush 400, 3) ∧ 11 + 3 = 14 := ⟨by decide +kernel, rfl⟩
set_option maxRecDepth 20000 in
theorem dX9_append_14 : decode cX9_append 14 = .ok (.if_icmp .ge 35, 3) ∧ 14 + 3 = 17 ∧ ((14 : Nat) : Int) + (35) = ((49 : Nat) : Int) := ⟨by decide +kernel, rfl, by decide⟩
set_option maxRecDepth 20000 in
theorem dX9_append_17 : decode cX9_append 17 = .ok (.aload_n 0, 1) ∧ 17 + 1 = 18 := ⟨by decide +kernel, rfl⟩
set_option maxRecDepth 20000 in
theorem dX9_append_18 : decode cX9_append 18 = .ok (.getfield 9, 3) ∧ 18 + 3 = 21 := ⟨by decide +kernel, rfl⟩
set_option maxRecDepth 20000 in
theorem dX9_append_21 : decode cX9_append 21 = .ok (.aload_n 0, 1) ∧ 21 + 1 = 22 := ⟨by decide +kernel, rfl⟩
set_option maxRecDepth 20000 in
theorem dX9_append_22 : decode cX9_append 22 = .ok (.getfield 15, 3) ∧ 22 + 3 = 25 := ⟨by decide +kernel, rfl⟩
set_option maxRecDepth 20000 in
theorem dX9_append_25 : decode cX9_append 25 = .ok (.iload_n 1, 1) ∧ 25 + 1 = 26 := ⟨by decide +kernel, rfl⟩
set_option maxRecDepth 20000 in
theorem dX9_append_26 : decode cX9_append 26 = .ok (.iload_n 2, 1) ∧ 26 + 1 = 27 := ⟨by decide +kernel, rfl⟩
set_option maxRecDepth 20000 in
theorem dX9_append_27 : decode cX9_append 27 = .ok (.ishr, 1) ∧ 27 + 1 = 28 := ⟨by decide +kernel, rfl⟩
set_option maxRecDepth 20000 in
theorem dX9_append_28 : decode cX9_append 28 = .ok (.sipush 255, 3) ∧ 28 + 3 = 31 := ⟨by decide +kernel, rfl⟩
set_option maxRecDepth 20000 in
theorem dX9_append_31 : decode cX9_append 31 = .ok (.iand, 1) ∧ 31 + 1 = 32 := ⟨by decide +kernel, rfl⟩
set_option maxRecDepth 20000 in
theorem dX9_append_32 : decode cX9_append 32 = .ok (.iastore, 1) ∧ 32 + 1 = 33 := ⟨by decide +kernel, rfl⟩
set_option maxRecDepth 20000 in
theorem dX9_append_33 : decode cX9_append 33 = .ok (.aload_n 0, 1) ∧ 33 + 1 = 34 := ⟨by decide +kernel, rfl⟩
set_option maxRecDepth 20000 in
theorem dX9_append_34 : decode cX9_append 34 = .ok (.dup, 1) ∧ 34 + 1 = 35 := ⟨by decide +kernel, rfl⟩
set_option maxRecDepth 20000 in
theorem dX9_append_35 : decode cX9_append 35 = .ok (.getfield 15, 3) ∧ 35 + 3 = 38 := ⟨by decide +kernel, rfl⟩
set_option maxRecDepth 20000 in
theorem dX9_append_38 : decode cX9_append 38 = .ok (.iconst 1, 1) ∧ 38 + 1 = 39 := ⟨by decide +kernel, rfl⟩
set_option maxRecDepth 20000 in
theorem dX9_append_39 : decode cX9_append 39 = .ok (.iadd, 1) ∧ 39 + 1 = 40 := ⟨by decide +kernel, rfl⟩
set_option maxRecDepth 20000 in
theorem dX9_append_40 : decode cX9_append 40 = .ok (.putfield 15, 3) ∧ 40 + 3 = 43 := ⟨by decide +kernel, rfl⟩
set_option maxRecDepth 20000 in
theorem dX9_append_43 : decode cX9_append 43 = .ok (.iinc 2 (-8), 3) ∧ 43 + 3 = 46 := ⟨by decide +kernel, rfl⟩
set_option maxRecDepth 20000 in
theorem dX9_append_46 : decode cX9_append 46 = .ok (.goto (-43), 3) ∧ ((46 : Nat) : Int) + (-43) = ((3 : Nat) : Int) := ⟨by decide +kernel, by decide⟩
set_option maxRecDepth 20000 in
theorem dX9_append_49 : decode cX9_append 49 = .ok (.return_, 1) := by decide +kernel
set_option maxRecDepth 20000 in
theorem dX9_at_0 : decode cX9_at 0 = .ok (.iload_n 1, 1) ∧ 0 + 1 = 1 := ⟨by decide +kernel, rfl⟩
set_option maxRecDepth 20000 in
theorem dX9_at_1 : decode cX9_at 1 = .ok (.ifCond .lt 20, 3) ∧ 1 + 3 = 4 ∧ ((1 : Nat) : Int) + (20) = ((21 : Nat) : Int) := ⟨by decide +kernel, rfl, by decide⟩
set_option maxRecDepth 20000 in
theorem dX9_at_4 : decode cX9_at 4 = .ok (.iload_n 1, 1) ∧ 4 + 1 = 5 := ⟨by decide +kernel, rfl⟩
set_option maxRecDepth 20000 in
theorem dX9_at_5 : decode cX9_at 5 = .ok (.aload_n 0, 1) ∧ 5 + 1 = 6 := ⟨by decide +kernel, rfl⟩
set_option maxRecDepth 20000 in
theorem dX9_at_6 : decode cX9_at 6 = .ok (.getfield 15, 3) ∧ 6 + 3 = 9 := ⟨by decide +kernel, rfl⟩
set_option maxRecDepth 20000 in
theorem dX9_at_9 : decode cX9_at 9 = .ok (.if_icmp .ge 12, 3) ∧ 9 + 3 = 12 ∧ ((9 : Nat) : Int) + (12) = ((21 : Nat) : Int) := ⟨by decide +kernel, rfl, by decide⟩
set_option maxRecDepth 20000 in
theorem dX9_at_12 : decode cX9_at 12 = .ok (.aload_n 0, 1) ∧ 12 + 1 = 13 := ⟨by decide +kernel, rfl⟩
set_option maxRecDepth 20000 in
theorem dX9_at_13 : decode cX9_at 13 = .ok (.getfield 9, 3) ∧ 13 + 3 = 16 := ⟨by decide +kernel, rfl⟩
set_option maxRecDepth 20000 in
theorem dX9_at_16 : decode cX9_at 16 = .ok (.iload_n 1, 1) ∧ 16 + 1 = 17 := ⟨by decide +kernel, rfl⟩
set_option maxRecDepth 20000 in
theorem dX9_at_17 : decode cX9_at 17 = .ok (.iaload, 1) ∧ 17 + 1 = 18 := ⟨by decide +kernel, rfl⟩
set_option maxRecDepth 20000 in
theorem dX9_at_18 : decode cX9_at 18 = .ok (.goto 4, 3) ∧ ((18 : Nat) : Int) + (4) = ((22 : Nat) : Int) := ⟨by decide +kernel, by decide⟩
set_option maxRecDepth 20000 in
theorem dX9_at_21 : decode cX9_at 21 = .ok (.iconst (-1), 1) ∧ 21 + 1 = 22 := ⟨by decide +kernel, rfl⟩
set_option maxRecDepth 20000 in
theorem dX9_at_22 : decode cX9_at 22 = .ok (.ireturn, 1) := by decide +kernel
set_option maxRecDepth 20000 in
theorem dX10_init_0 : decode cX10_init 0 = .ok (.aload_n 0, 1) ∧ 0 + 1 = 1 := ⟨by decide +kernel, rfl⟩
set_option maxRecDepth 20000 in
theorem dX10_init_1 : decode cX10_init 1 = .ok (.invokespecial 3, 3) ∧ 1 + 3 = 4 := ⟨by decide +kernel, rfl⟩
set_option maxRecDepth 20000 in
theorem dX10_init_4 : decode cX10_init 4 = .ok (.aload_n 0, 1) ∧ 4 + 1 = 5 := ⟨by decide +kernel, rfl⟩
set_option maxRecDepth 20000 in
theorem dX10_init_5 : decode cX10_init 5 = .ok (.bipush 48, 2) ∧ 5 + 2 = 7 := ⟨by decide +kernel, rfl⟩
set_option maxRecDepth 20000 in
theorem dX10_init_7 : decode cX10_init 7 = .ok (.newarray .int, 2) ∧ 7 + 2 = 9 := ⟨by decide +kernel, rfl⟩
set_option maxRecDepth 20000 in
theorem dX10_init_9 : decode cX10_init 9 = .ok (.putfield 9, 3) ∧ 9 + 3 = 12 := ⟨by decide +kernel, rfl⟩
set_option maxRecDepth 20000 in
theorem dX10_init_12 : decode cX10_init 12 = .ok (.aload_n 0, 1) ∧ 12 + 1 = 13 := ⟨by decide +kernel, rfl⟩
set_option maxRecDepth 20000 in
theorem dX10_init_13 : decode cX10_init 13 = .ok (.bipush 8, 2) ∧ 13 + 2 = 15 := ⟨by decide +kernel, rfl⟩
set_option maxRecDepth 20000 in
theorem dX10_init_15 : decode cX10_init 15 = .ok (.newarray .int, 2) ∧ 15 + 2 = 17 := ⟨by decide +kernel, rfl⟩
set_option maxRecDepth 20000 in
theorem dX10_init_17 : decode cX10_init 17 = .ok (.putfield 15, 3) ∧ 17 + 3 = 20 := ⟨by decide +kernel, rfl⟩
set_option maxRecDepth 20000 in
theorem dX10_init_20 : decode cX10_init 20 = .ok (.aload_n 0, 1) ∧ 20 + 1 = 21 := ⟨by decide +kernel, rfl⟩
set_option maxRecDepth 20000 in
theorem dX10_init_21 : decode cX10_init 21 = .ok (.getstatic 18, 3) ∧ 21 + 3 = 24 := ⟨by decide +kernel, rfl⟩
set_option maxRecDepth 20000 in
theorem dX10_init_24 : decode cX10_init 24 = .ok (.invokevirtual 21, 3) ∧ 24 + 3 = 27 := ⟨by decide +kernel, rfl⟩
set_option maxRecDepth 20000 in
theorem dX10_init_27 : decode cX10_init 27 = .ok (.checkcast 22, 3) ∧ 27 + 3 = 30 := ⟨by decide +kernel, rfl⟩
set_option maxRecDepth 20000 in
theorem dX10_init_30 : decode cX10_init 30 = .ok (.putfield 26, 3) ∧ 30 + 3 = 33 := ⟨by decide +kernel, rfl⟩
set_option maxRecDepth 20000 in
theorem dX10_init_33 : decode cX10_init 33 = .ok (.aload_n 0, 1) ∧ 33 + 1 = 34 := ⟨by decide +kernel, rfl⟩
set_option maxRecDepth 20000 in
theorem dX10_init_34 : decode cX10_init 34 = .ok (.bipush 6, 2) ∧ 34 + 2 = 36 := ⟨by decide +kernel, rfl⟩
set_option maxRecDepth 20000 in
theorem dX10_init_36 : decode cX10_init 36 = .ok (.anewarray 29, 3) ∧ 36 + 3 = 39 := ⟨by decide +kernel, rfl⟩
set_option maxRecDepth 20000 in
theorem dX10_init_39 : decode cX10_init 39 = .ok (.putfield 31, 3) ∧ 39 + 3 = 42 := ⟨by decide +kernel, rfl⟩
set_option maxRecDepth 20000 in
theorem dX10_init_42 : decode cX10_init 42 = .ok (.aload_n 0, 1) ∧ 42 + 1 = 43 := ⟨by decide +kernel, rfl⟩
set_option maxRecDepth 20000 in
theorem dX10_init_43 : decode cX10_init 43 = .ok (.new 35, 3) ∧ 43 + 3 = 46 := ⟨by decide +kernel, rfl⟩
set_option maxRecDepth 20000 in
theorem dX10_init_46 : decode cX10_init 46 = .ok (.dup, 1) ∧ 46 + 1 = 47 := ⟨by decide +kernel, rfl⟩
set_option maxRecDepth 20000 in
theorem dX10_init_47 : decode cX10_init 47 = .ok (.invokespecial 37, 3) ∧ 47 + 3 = 50 := ⟨by decide +kernel, rfl⟩
set_option maxRecDepth 20000 in
theorem dX10_init_50 : decode cX10_init 50 = .ok (.putfield 38, 3) ∧ 50 + 3 = 53 := ⟨by decide +kernel, rfl⟩
set_option maxRecDepth 20000 in
theorem dX10_init_53 : decode cX10_init 53 = .ok (.aload_n 0, 1) ∧ 53 + 1 = 54 := ⟨by decide +kernel, rfl⟩
set_option maxRecDepth 20000 in
theorem dX10_init_54 : decode cX10_init 54 = .ok (.iconst (-1), 1) ∧ 54 + 1 = 55 := ⟨by decide +kernel, rfl⟩
set_option maxRecDepth 20000 in
theorem dX10_init_55 : decode cX10_init 55 = .ok (.putfield 42, 3) ∧ 55 + 3 = 58 := ⟨by decide +kernel, rfl⟩
set_option maxRecDepth 20000 in
theorem dX10_init_58 : decode cX10_init 58 = .ok (.return_, 1) := by decide +kernel
set_option maxRecDepth 20000 in
theorem dX10_become_0 : decode cX10_become 0 = .ok (.aload_n 1, 1) ∧ 0 + 1 = 1 := ⟨by decide +kernel, rfl⟩
set_option maxRecDepth 20000 in
theorem dX10_become_1 : decode cX10_become 1 = .ok (.getfield 9, 3) ∧ 1 + 3 = 4 := ⟨by decide +kernel, rfl⟩
set_option maxRecDepth 20000 in
theorem dX10_become_4 : decode cX10_become 4 = .ok (.iconst 0, 1) ∧ 4 + 1 = 5 := ⟨by decide +kernel, rfl⟩
set_option maxRecDepth 20000 in
theorem dX10_become_5 : decode cX10_become 5 = .ok (.aload_n 0, 1) ∧ 5 + 1 = 6 := ⟨by decide +kernel, rfl⟩
set_option maxRecDepth 20000 in
theorem dX10_become_6 : decode cX10_become 6 = .ok (.getfield 9, 3) ∧ 6 + 3 = 9 := ⟨by decide +kernel, rfl⟩
set_option maxRecDepth 20000 in
theorem dX10_become_9 : decode cX10_become 9 = .ok (.iconst 0, 1) ∧ 9 + 1 = 10 := ⟨by decide +kernel, rfl⟩
set_option maxRecDepth 20000 in
theorem dX10_become_10 : decode cX10_become 10 = .ok (.aload_n 0, 1) ∧ 10 + 1 = 11 := ⟨by decide +kernel, rfl⟩
set_option maxRecDepth 20000 in
theorem dX10_become_11 : decode cX10_become 11 = .ok (.getfield 9, 3) ∧ 11 + 3 = 14 := ⟨by decide +kernel, rfl⟩
set_option maxRecDepth 20000 in
theorem dX10_become_14 : decode cX10_become 14 = .ok (.arraylength, 1) ∧ 14 + 1 = 15 := ⟨by decide +kernel, rfl⟩
set_option maxRecDepth 20000 in
theorem dX10_become_15 : decode cX10_become 15 = .ok (.invokestatic 46, 3) ∧ 15 + 3 = 18 := ⟨by decide +kernel, rfl⟩
set_option maxRecDepth 20000 in
theorem dX10_become_18 : decode cX10_become 18 = .ok (.aload_n 1, 1) ∧ 18 + 1 = 19 := ⟨by decide +kernel, rfl⟩
set_option maxRecDepth 20000 in
theorem dX10_become_19 : decode cX10_become 19 = .ok (.getfield 15, 3) ∧ 19 + 3 = 22 := ⟨by decide +kernel, rfl⟩
set_option maxRecDepth 20000 in
theorem dX10_become_22 : decode cX10_become 22 = .ok (.iconst 0, 1) ∧ 22 + 1 = 23 := ⟨by decide +kernel, rfl⟩
set_option maxRecDepth 20000 in
theorem dX10_become_23 : decode cX10_become 23 = .ok (.aload_n 0, 1) ∧ 23 + 1 = 24 := ⟨by decide +kernel, rfl⟩
set_option maxRecDepth 20000 in
theorem dX10_become_24 : decode cX10_become 24 = .ok (.getfield 15, 3) ∧ 24 + 3 = 27 := ⟨by decide +kernel, rfl⟩
set_option maxRecDepth 20000 in
theorem dX10_become_27 : decode cX10_become 27 = .ok (.iconst 0, 1) ∧ 27 + 1 = 28 := ⟨by decide +kernel, rfl⟩
set_option maxRecDepth 20000 in
theorem dX10_become_28 : decode cX10_become 28 = .ok (.aload_n 0, 1) ∧ 28 + 1 = 29 := ⟨by decide +kernel, rfl⟩
set_option maxRecDepth 20000 in
theorem dX10_become_29 : decode cX10_become 29 = .ok (.getfield 15, 3) ∧ 29 + 3 = 32 := ⟨by decide +kernel, rfl⟩
set_option maxRecDepth 20000 in
theorem dX10_become_32 : decode cX10_become 32 = .ok (.arraylength, 1) ∧ 32 + 1 = 33 := ⟨by decide +kernel, rfl⟩
set_option maxRecDepth 20000 in
theorem dX10_become_33 : decode cX10_become 33 = .ok (.invokestatic 46, 3) ∧ 33 + 3 = 36 := ⟨by decide +kernel, rfl⟩
set_option maxRecDepth 20000 in
theorem dX10_become_36 : decode cX10_become 36 = .ok (.aload_n 1, 1) ∧ 36 + 1 = 37 := ⟨by decide +kernel, rfl⟩
set_option maxRecDepth 20000 in
theorem dX10_become_37 : decode cX10_become 37 = .ok (.getfield 26, 3) ∧ 37 + 3 = 40 := ⟨by decide +kernel, rfl⟩
set_option maxRecDepth 20000 in
theorem dX10_become_40 : decode cX10_become 40 = .ok (.iconst 0, 1) ∧ 40 + 1 = 41 := ⟨by decide +kernel, rfl⟩
set_option maxRecDepth 20000 in
theorem dX10_become_41 : decode cX10_become 41 = .ok (.aload_n 0, 1) ∧ 41 + 1 = 42 := ⟨by decide +kernel, rfl⟩
set_option maxRecDepth 20000 in
theorem dX10_become_42 : decode cX10_become 42 = .ok (.getfield 26, 3) ∧ 42 + 3 = 45 := ⟨by decide +kernel, rfl⟩
set_option maxRecDepth 20000 in
theorem dX10_become_45 : decode cX10_become 45 = .ok (.iconst 0, 1) ∧ 45 + 1 = 46 := ⟨by decide +kernel, rfl⟩
set_option maxRecDepth 20000 in
theorem dX10_become_46 : decode cX10_become 46 = .ok (.aload_n 0, 1) ∧ 46 + 1 = 47 := ⟨by decide +kernel, rfl⟩
set_option maxRecDepth 20000 in
theorem dX10_become_47 : decode cX10_become 47 = .ok (.getfield 26, 3) ∧ 47 + 3 = 50 := ⟨by decide +kernel, rfl⟩
set_option maxRecDepth 20000 in
theorem dX10_become_50 : decode cX10_become 50 = .ok (.arraylength, 1) ∧ 50 + 1 = 51 := ⟨by decide +kernel, rfl⟩
set_option maxRecDepth 20000 in
theorem dX10_become_51 : decode cX10_become 51 = .ok (.invokestatic 46, 3) ∧ 51 + 3 = 54 := ⟨by decide +kernel, rfl⟩
set_option maxRecDepth 20000 in
theorem dX10_become_54 : decode cX10_become 54 = .ok (.iconst 0, 1) ∧ 54 + 1 = 55 := ⟨by decide +kernel, rfl⟩
set_option maxRecDepth 20000 in
theorem dX10_become_55 : decode cX10_become 55 = .ok (.istore_n 2, 1) ∧ 55 + 1 = 56 := ⟨by decide +kernel, rfl⟩
set_option maxRecDepth 20000 in
theorem dX10_become_56 : decode cX10_become 56 = .ok (.iload_n 2, 1) ∧ 56 + 1 = 57 := ⟨by decide +kernel, rfl⟩
set_option maxRecDepth 20000 in
theorem dX10_become_57 : decode cX10_become 57 = .ok (.bipush 6, 2) ∧ 57 + 2 = 59 := ⟨by decide +kernel, rfl⟩
set_option maxRecDepth 20000 in
theorem dX10_become_59 : decode cX10_become 59 = .ok (.if_icmp .ge 21, 3) ∧ 59 + 3 = 62 ∧ ((59 : Nat) : Int) + (21) = ((80 : Nat) : Int) := ⟨by decide +kernel, rfl, by decide⟩
set_option maxRecDepth 20000 in
theorem dX10_become_62 : decode cX10_become 62 = .ok (.aload_n 0, 1) ∧ 62 + 1 = 63 := ⟨by decide +kernel, rfl⟩
set_option maxRecDepth 20000 in
theorem dX10_become_63 : decode cX10_become 63 = .ok (.getfield 31, 3) ∧ 63 + 3 = 66 := ⟨by decide +kernel, rfl⟩
set_option maxRecDepth 20000 in
theorem dX10_become_66 : decode cX10_become 66 = .ok (.iload_n 2, 1) ∧ 66 + 1 = 67 := ⟨by decide +kernel, rfl⟩
set_option maxRecDepth 20000 in
theorem dX10_become_67 : decode cX10_become 67 = .ok (.aload_n 1, 1) ∧ 67 + 1 = 68 := ⟨by decide +kernel, rfl⟩
set_option maxRecDepth 20000 in
theorem dX10_become_68 : decode cX10_become 68 = .ok (.getfield 31, 3) ∧ 68 + 3 = 71 := ⟨by decide +kernel, rfl⟩
set_option maxRecDepth 20000 in
theorem dX10_become_71 : decode cX10_become 71 = .ok (.iload_n 2, 1) ∧ 71 + 1 = 72 := ⟨by decide +kernel, rfl⟩
set_option maxRecDepth 20000 in
theorem dX10_become_72 : decode cX10_become 72 = .ok (.aaload, 1) ∧ 72 + 1 = 73 := ⟨by decide +kernel, rfl⟩
set_option maxRecDepth 20000 in
theorem dX10_become_73 : decode cX10_become 73 = .ok (.aastore, 1) ∧ 73 + 1 = 74 := ⟨by decide +kernel, rfl⟩
set_option maxRecDepth 20000 in
theorem dX10_become_74 : decode cX10_become 74 = .ok (.iinc 2 1, 3) ∧ 74 + 3 = 77 := ⟨by decide +kernel, rfl⟩
set_option maxRecDepth 20000 in
theorem dX10_become_77 : decode cX10_become 77 = .ok (.goto (-21), 3) ∧ ((77 : Nat) : Int) + (-21) = ((56 : Nat) : Int) := ⟨by decide +kernel, by decide⟩
set_option maxRecDepth 20000 in
theorem dX10_become_80 : decode cX10_become 80 = .ok (.aload_n 0, 1) ∧ 80 + 1 = 81 := ⟨by decide +kernel, rfl⟩
set_option maxRecDepth 20000 in
theorem dX10_become_81 : decode cX10_become 81 = .ok (.getfield 38, 3) ∧ 81 + 3 = 84 := ⟨by decide +kernel, rfl⟩
set_option maxRecDepth 20000 in
theorem dX10_become_84 : decode cX10_become 84 = .ok (.aload_n 1, 1) ∧ 84 + 1 = 85 := ⟨by decide +kernel, rfl⟩
set_option maxRecDepth 20000 in
theorem dX10_become_85 : decode cX10_become 85 = .ok (.getfield 38, 3) ∧ 85 + 3 = 88 := ⟨by decide +kernel, rfl⟩
set_option maxRecDepth 20000 in
theorem dX10_become_88 : decode cX10_become 88 = .ok (.invokevirtual 52, 3) ∧ 88 + 3 = 91 := ⟨by decide +kernel, rfl⟩
set_option maxRecDepth 20000 in
theorem dX10_become_91 : decode cX10_become 91 = .ok (.aload_n 0, 1) ∧ 91 + 1 = 92 := ⟨by decide +kernel, rfl⟩
set_option maxRecDepth 20000 in
theorem dX10_become_92 : decode cX10_become 92 = .ok (.aload_n 1, 1) ∧ 92 + 1 = 93 := ⟨by decide +kernel, rfl⟩
set_option maxRecDepth 20000 in
theorem dX10_become_93 : decode cX10_become 93 = .ok (.getfield 56, 3) ∧ 93 + 3 = 96 := ⟨by decide +kernel, rfl⟩
set_option maxRecDepth 20000 in
theorem dX10_become_96 : decode cX10_become 96 = .ok (.putfield 56, 3) ∧ 96 + 3 = 99 := ⟨by decide +kernel, rfl⟩
set_option maxRecDepth 20000 in
theorem dX10_become_99 : decode cX10_become 99 = .ok (.aload_n 0, 1) ∧ 99 + 1 = 100 := ⟨by decide +kernel, rfl⟩
set_option maxRecDepth 20000 in
theorem dX10_become_100 : decode cX10_become 100 = .ok (.aload_n 1, 1) ∧ 100 + 1 = 101 := ⟨by decide +kernel, rfl⟩
set_option maxRecDepth 20000 in
theorem dX10_become_101 : decode cX10_become 101 = .ok (.getfield 59, 3) ∧ 101 + 3 = 104 := ⟨by decide +kernel, rfl⟩
set_option maxRecDepth 20000 in
theorem dX10_become_104 : decode cX10_become 104 = .ok (.putfield 59, 3) ∧ 104 + 3 = 107 := ⟨by decide +kernel, rfl⟩
set_option maxRecDepth 20000 in
theorem dX10_become_107 : decode cX10_become 107 = .ok (.aload_n 0, 1) ∧ 107 + 1 = 108 := ⟨by decide +kernel, rfl⟩
set_option maxRecDepth 20000 in
theorem dX10_become_108 : decode cX10_become 108 = .ok (.aload_n 1, 1) ∧ 108 + 1 = 109 := ⟨by decide +kernel, rfl⟩
set_option maxRecDepth 20000 in
theorem dX10_become_109 : decode cX10_become 109 = .ok (.getfield 62, 3) ∧ 109 + 3 = 112 := ⟨by decide +kernel, rfl⟩
set_option maxRecDepth 20000 in
theorem dX10_become_112 : decode cX10_become 112 = .ok (.putfield 62, 3) ∧ 112 + 3 = 115 := ⟨by decide +kernel, rfl⟩
set_option maxRecDepth 20000 in
theorem dX10_become_115 : decode cX10_become 115 = .ok (.aload_n 0, 1) ∧ 115 + 1 = 116 := ⟨by decide +kernel, rfl⟩
set_option maxRecDepth 20000 in
theorem dX10_become_116 : decode cX10_become 116 = .ok (.aload_n 1, 1) ∧ 116 + 1 = 117 := ⟨by decide +kernel, rfl⟩
set_option maxRecDepth 20000 in
theorem dX10_become_117 : decode cX10_become 117 = .ok (.getfield 65, 3) ∧ 117 + 3 = 120 := ⟨by decide +kernel, rfl⟩
set_option maxRecDepth 20000 in
theorem dX10_become_120 : decode cX10_become 120 = .ok (.putfield 65, 3) ∧ 120 + 3 = 123 := ⟨by decide +kernel, rfl⟩
set_option maxRecDepth 20000 in
theorem dX10_become_123 : decode cX10_become 123 = .ok (.aload_n 0, 1) ∧ 123 + 1 = 124 := ⟨by decide +kernel, rfl⟩
set_option maxRecDepth 20000 in
theorem dX10_become_124 : decode cX10_become 124 = .ok (.aload_n 1, 1) ∧ 124 + 1 = 125 := ⟨by decide +kernel, rfl⟩
set_option maxRecDepth 20000 in
theorem dX10_become_125 : decode cX10_become 125 = .ok (.getfield 42, 3) ∧ 125 + 3 = 128 := ⟨by decide +kernel, rfl⟩
set_option maxRecDepth 20000 in
theorem dX10_become_128 : decode cX10_become 128 = .ok (.putfield 42, 3) ∧ 128 + 3 = 131 := ⟨by decide +kernel, rfl⟩
set_option maxRecDepth 20000 in
theorem dX10_become_131 : decode cX10_become 131 = .ok (.return_, 1) := by decide +kernel
set_option maxRecDepth 20000 in
theorem dX10_hasBeast_0 : decode cX10_hasBeast 0 = .ok (.iload_n 1, 1) ∧ 0 + 1 = 1 := ⟨by decide +kernel, rfl⟩
set_option maxRecDepth 20000 in
theorem dX10_hasBeast_1 : decode cX10_hasBeast 1 = .ok (.ifCond .lt 15, 3) ∧ 1 + 3 = 4 ∧ ((1 : Nat) : Int) + (15) = ((16 : Nat) : Int) := ⟨by decide +kernel, rfl, by decide⟩
set_option maxRecDepth 20000 in
theorem dX10_hasBeast_4 : decode cX10_hasBeast 4 = .ok (.iload_n 1, 1) ∧ 4 + 1 = 5 := ⟨by decide +kernel, rfl⟩
set_option maxRecDepth 20000 in
theorem dX10_hasBeast_5 : decode cX10_hasBeast 5 = .ok (.aload_n 0, 1) ∧ 5 + 1 = 6 := ⟨by decide +kernel, rfl⟩
set_option maxRecDepth 20000 in
theorem dX10_hasBeast_6 : decode cX10_hasBeast 6 = .ok (.getfield 56, 3) ∧ 6 + 3 = 9 := ⟨by decide +kernel, rfl⟩
set_option maxRecDepth 20000 in
theorem dX10_hasBeast_9 : decode cX10_hasBeast 9 = .ok (.if_icmp .ge 7, 3) ∧ 9 + 3 = 12 ∧ ((9 : Nat) : Int) + (7) = ((16 : Nat) : Int) := ⟨by decide +kernel, rfl, by decide⟩
set_option maxRecDepth 20000 in
theorem dX10_hasBeast_12 : decode cX10_hasBeast 12 = .ok (.iconst 1, 1) ∧ 12 + 1 = 13 := ⟨by decide +kernel, rfl⟩
set_option maxRecDepth 20000 in
theorem dX10_hasBeast_13 : decode cX10_hasBeast 13 = .ok (.goto 4, 3) ∧ ((13 : Nat) : Int) + (4) = ((17 : Nat) : Int) := ⟨by decide +kernel, by decide⟩
set_option maxRecDepth 20000 in
theorem dX10_hasBeast_16 : decode cX10_hasBeast 16 = .ok (.iconst 0, 1) ∧ 16 + 1 = 17 := ⟨by decide +kernel, rfl⟩
set_option maxRecDepth 20000 in
theorem dX10_hasBeast_17 : decode cX10_hasBeast 17 = .ok (.ireturn, 1) := by decide +kernel
set_option maxRecDepth 20000 in
theorem dX10_isSeated_0 : decode cX10_isSeated 0 = .ok (.aload_n 0, 1) ∧ 0 + 1 = 1 := ⟨by decide +kernel, rfl⟩
set_option maxRecDepth 20000 in
theorem dX10_isSeated_1 : decode cX10_isSeated 1 = .ok (.iload_n 1, 1) ∧ 1 + 1 = 2 := ⟨by decide +kernel, rfl⟩
set_option maxRecDepth 20000 in
theorem dX10_isSeated_2 : decode cX10_isSeated 2 = .ok (.invokevirtual 68, 3) ∧ 2 + 3 = 5 := ⟨by decide +kernel, rfl⟩
set_option maxRecDepth 20000 in
theorem dX10_isSeated_5 : decode cX10_isSeated 5 = .ok (.ifCond .eq 19, 3) ∧ 5 + 3 = 8 ∧ ((5 : Nat) : Int) + (19) = ((24 : Nat) : Int) := ⟨by decide +kernel, rfl, by decide⟩
set_option maxRecDepth 20000 in
theorem dX10_isSeated_8 : decode cX10_isSeated 8 = .ok (.aload_n 0, 1) ∧ 8 + 1 = 9 := ⟨by decide +kernel, rfl⟩
set_option maxRecDepth 20000 in
theorem dX10_isSeated_9 : decode cX10_isSeated 9 = .ok (.getfield 62, 3) ∧ 9 + 3 = 12 := ⟨by decide +kernel, rfl⟩
set_option maxRecDepth 20000 in
theorem dX10_isSeated_12 : decode cX10_isSeated 12 = .ok (.iload_n 1, 1) ∧ 12 + 1 = 13 := ⟨by decide +kernel, rfl⟩
set_option maxRecDepth 20000 in
theorem dX10_isSeated_13 : decode cX10_isSeated 13 = .ok (.ishr, 1) ∧ 13 + 1 = 14 := ⟨by decide +kernel, rfl⟩
set_option maxRecDepth 20000 in
theorem dX10_isSeated_14 : decode cX10_isSeated 14 = .ok (.iconst 1, 1) ∧ 14 + 1 = 15 := ⟨by decide +kernel, rfl⟩
set_option maxRecDepth 20000 in
theorem dX10_isSeated_15 : decode cX10_isSeated 15 = .ok (.iand, 1) ∧ 15 + 1 = 16 := ⟨by decide +kernel, rfl⟩
set_option maxRecDepth 20000 in
theorem dX10_isSeated_16 : decode cX10_isSeated 16 = .ok (.iconst 1, 1) ∧ 16 + 1 = 17 := ⟨by decide +kernel, rfl⟩
set_option maxRecDepth 20000 in
theorem dX10_isSeated_17 : decode cX10_isSeated 17 = .ok (.if_icmp .ne 7, 3) ∧ 17 + 3 = 20 ∧ ((17 : Nat) : Int) + (7) = ((24 : Nat) : Int) := ⟨by decide +kernel, rfl, by decide⟩
set_option maxRecDepth 20000 in
theorem dX10_isSeated_20 : decode cX10_isSeated 20 = .ok (.iconst 1, 1) ∧ 20 + 1 = 21 := ⟨by decide +kernel, rfl⟩
set_option maxRecDepth 20000 in
theorem dX10_isSeated_21 : decode cX10_isSeated 21 = .ok (.goto 4, 3) ∧ ((21 : Nat) : Int) + (4) = ((25 : Nat) : Int) := ⟨by decide +kernel, by decide⟩
set_option maxRecDepth 20000 in
theorem dX10_isSeated_24 : decode cX10_isSeated 24 = .ok (.iconst 0, 1) ∧ 24 + 1 = 25 := ⟨by decide +kernel, rfl⟩
set_option maxRecDepth 20000 in
theorem dX10_isSeated_25 : decode cX10_isSeated 25 = .ok (.ireturn, 1) := by decide +kernel
set_option maxRecDepth 20000 in
theorem dX10_trait_0 : decode cX10_trait 0 = .ok (.aload_n 0, 1) ∧ 0 + 1 = 1 := ⟨by decide +kernel, rfl⟩
set_option maxRecDepth 20000 in
theorem dX10_trait_1 : decode cX10_trait 1 = .ok (.getfield 9, 3) ∧ 1 + 3 = 4 := ⟨by decide +kernel, rfl⟩
set_option maxRecDepth 20000 in
theorem dX10_trait_4 : decode cX10_trait 4 = .ok (.iload_n 1, 1) ∧ 4 + 1 = 5 := ⟨by decide +kernel, rfl⟩
set_option maxRecDepth 20000 in
theorem dX10_trait_5 : decode cX10_trait 5 = .ok (.bipush 6, 2) ∧ 5 + 2 = 7 := ⟨by decide +kernel, rfl⟩
set_option maxRecDepth 20000 in
theorem dX10_trait_7 : decode cX10_trait 7 = .ok (.imul, 1) ∧ 7 + 1 = 8 := ⟨by decide +kernel, rfl⟩
set_option maxRecDepth 20000 in
theorem dX10_trait_8 : decode cX10_trait 8 = .ok (.iload_n 2, 1) ∧ 8 + 1 = 9 := ⟨by decide +kernel, rfl⟩
set_option maxRecDepth 20000 in
theorem dX10_trait_9 : decode cX10_trait 9 = .ok (.iadd, 1) ∧ 9 + 1 = 10 := ⟨by decide +kernel, rfl⟩
set_option maxRecDepth 20000 in
theorem dX10_trait_10 : decode cX10_trait 10 = .ok (.iaload, 1) ∧ 10 + 1 = 11 := ⟨by decide +kernel, rfl⟩
set_option maxRecDepth 20000 in
theorem dX10_trait_11 : decode cX10_trait 11 = .ok (.ireturn, 1) := by decide +kernel
set_option maxRecDepth 20000 in
theorem dX10_setTrait_0 : decode cX10_setTrait 0 = .ok (.aload_n 0, 1) ∧ 0 + 1 = 1 := ⟨by decide +kernel, rfl⟩
set_option maxRecDepth 20000 in
theorem dX10_setTrait_1 : decode cX10_setTrait 1 = .ok (.getfield 9, 3) ∧ 1 + 3 = 4 := ⟨by decide +kernel, rfl⟩
set_option maxRecDepth 20000 in
theorem dX10_setTrait_4 : decode cX10_setTrait 4 = .ok (.iload_n 1, 1) ∧ 4 + 1 = 5 := ⟨by decide +kernel, rfl⟩
set_option maxRecDepth 20000 in
theorem dX10_setTrait_5 : decode cX10_setTrait 5 = .ok (.bipush 6, 2) ∧ 5 + 2 = 7 := ⟨by decide +kernel, rfl⟩
set_option maxRecDepth 20000 in
theorem dX10_setTrait_7 : decode cX10_setTrait 7 = .ok (.imul, 1) ∧ 7 + 1 = 8 := ⟨by decide +kernel, rfl⟩
set_option maxRecDepth 20000 in
theorem dX10_setTrait_8 : decode cX10_setTrait 8 = .ok (.iload_n 2, 1) ∧ 8 + 1 = 9 := ⟨by decide +kernel, rfl⟩
set_option maxRecDepth 20000 in
theorem dX10_setTrait_9 : decode cX10_setTrait 9 = .ok (.iadd, 1) ∧ 9 + 1 = 10 := ⟨by decide +kernel, rfl⟩
set_option maxRecDepth 20000 in
theorem dX10_setTrait_10 : decode cX10_setTrait 10 = .ok (.iload_n 3, 1) ∧ 10 + 1 = 11 := ⟨by decide +kernel, rfl⟩
set_option maxRecDepth 20000 in
theorem dX10_setTrait_11 : decode cX10_setTrait 11 = .ok (.iastore, 1) ∧ 11 + 1 = 12 := ⟨by decide +kernel, rfl⟩
set_option maxRecDepth 20000 in
theorem dX10_setTrait_12 : decode cX10_setTrait 12 = .ok (.return_, 1) := by decide +kernel
set_option maxRecDepth 20000 in
theorem dX10_hungerIn_0 : decode cX10_hungerIn 0 = .ok (.aload_n 0, 1) ∧ 0 + 1 = 1 := ⟨by decide +kernel, rfl⟩
set_option maxRecDepth 20000 in
theorem dX10_hungerIn_1 : decode cX10_hungerIn 1 = .ok (.iload_n 1, 1) ∧ 1 + 1 = 2 := ⟨by decide +kernel, rfl⟩
set_option maxRecDepth 20000 in
theorem dX10_hungerIn_2 : decode cX10_hungerIn 2 = .ok (.iconst 2, 1) ∧ 2 + 1 = 3 := ⟨by decide +kernel, rfl⟩
set_option maxRecDepth 20000 in
theorem dX10_hungerIn_3 : decode cX10_hungerIn 3 = .ok (.invokevirtual 72, 3) ∧ 3 + 3 = 6 := ⟨by decide +kernel, rfl⟩
set_option maxRecDepth 20000 in
theorem dX10_hungerIn_6 : decode cX10_hungerIn 6 = .ok (.istore_n 3, 1) ∧ 6 + 1 = 7 := ⟨by decide +kernel, rfl⟩
set_option maxRecDepth 20000 in
theorem dX10_hungerIn_7 : decode cX10_hungerIn 7 = .ok (.aload_n 0, 1) ∧ 7 + 1 = 8 := ⟨by decide +kernel, rfl⟩
set_option maxRecDepth 20000 in
theorem dX10_hungerIn_8 : decode cX10_hungerIn 8 = .ok (.getfield 15, 3) ∧ 8 + 3 = 11 := ⟨by decide +kernel, rfl⟩
set_option maxRecDepth 20000 in
theorem dX10_hungerIn_11 : decode cX10_hungerIn 11 = .ok (.iload_n 1, 1) ∧ 11 + 1 = 12 := ⟨by decide +kernel, rfl⟩
set_option maxRecDepth 20000 in
theorem dX10_hungerIn_12 : decode cX10_hungerIn 12 = .ok (.iaload, 1) ∧ 12 + 1 = 13 := ⟨by decide +kernel, rfl⟩
set_option maxRecDepth 20000 in
theorem dX10_hungerIn_13 : decode cX10_hungerIn 13 = .ok (.iconst 2, 1) ∧ 13 + 1 = 14 := ⟨by decide +kernel, rfl⟩
set_option maxRecDepth 20000 in
theorem dX10_hungerIn_14 : decode cX10_hungerIn 14 = .ok (.iload_n 2, 1) ∧ 14 + 1 = 15 := ⟨by decide +kernel, rfl⟩
set_option maxRecDepth 20000 in
theorem dX10_hungerIn_15 : decode cX10_hungerIn 15 = .ok (.ishl, 1) ∧ 15 + 1 = 16 := ⟨by decide +kernel, rfl⟩
set_option maxRecDepth 20000 in
theorem dX10_hungerIn_16 : decode cX10_hungerIn 16 = .ok (.iconst 1, 1) ∧ 16 + 1 = 17 := ⟨by decide +kernel, rfl⟩
set_option maxRecDepth 20000 in
theorem dX10_hungerIn_17 : decode cX10_hungerIn 17 = .ok (.isub, 1) ∧ 17 + 1 = 18 := ⟨by decide +kernel, rfl⟩
set_option maxRecDepth 20000 in
theorem dX10_hungerIn_18 : decode cX10_hungerIn 18 = .ok (.iand, 1) ∧ 18 + 1 = 19 := ⟨by decide +kernel, rfl⟩
set_option maxRecDepth 20000 in
theorem dX10_hungerIn_19 : decode cX10_hungerIn 19 = .ok (.istore 4, 2) ∧ 19 + 2 = 21 := ⟨by decide +kernel, rfl⟩
set_option maxRecDepth 20000 in
theorem dX10_hungerIn_21 : decode cX10_hungerIn 21 = .ok (.iload 4, 2) ∧ 21 + 2 = 23 := ⟨by decide +kernel, rfl⟩
set_option maxRecDepth 20000 in
theorem dX10_hungerIn_23 : decode cX10_hungerIn 23 = .ok (.ifCond .ne 19, 3) ∧ 23 + 3 = 26 ∧ ((23 : Nat) : Int) + (19) = ((42 : Nat) : Int) := ⟨by decide +kernel, rfl, by decide⟩
set_option maxRecDepth 20000 in
theorem dX10_hungerIn_26 : decode cX10_hungerIn 26 = .ok (.bipush 99, 2) ∧ 26 + 2 = 28 := ⟨by decide +kernel, rfl⟩
set_option maxRecDepth 20000 in
theorem dX10_hungerIn_28 : decode cX10_hungerIn 28 = .ok (.aload_n 0, 1) ∧ 28 + 1 = 29 := ⟨by decide +kernel, rfl⟩
set_option maxRecDepth 20000 in
theorem dX10_hungerIn_29 : decode cX10_hungerIn 29 = .ok (.iload_n 1, 1) ∧ 29 + 1 = 30 := ⟨by decide +kernel, rfl⟩
set_option maxRecDepth 20000 in
theorem dX10_hungerIn_30 : decode cX10_hungerIn 30 = .ok (.iconst 1, 1) ∧ 30 + 1 = 31 := ⟨by decide +kernel, rfl⟩
set_option maxRecDepth 20000 in
theorem dX10_hungerIn_31 : decode cX10_hungerIn 31 = .ok (.invokevirtual 72, 3) ∧ 31 + 3 = 34 := ⟨by decide +kernel, rfl⟩
set_option maxRecDepth 20000 in
theorem dX10_hungerIn_34 : decode cX10_hungerIn 34 = .ok (.iload_n 3, 1) ∧ 34 + 1 = 35 := ⟨by decide +kernel, rfl⟩
set_option maxRecDepth 20000 in
theorem dX10_hungerIn_35 : decode cX10_hungerIn 35 = .ok (.iload_n 2, 1) ∧ 35 + 1 = 36 := ⟨by decide +kernel, rfl⟩
set_option maxRecDepth 20000 in
theorem dX10_hungerIn_36 : decode cX10_hungerIn 36 = .ok (.imul, 1) ∧ 36 + 1 = 37 := ⟨by decide +kernel, rfl⟩
set_option maxRecDepth 20000 in
theorem dX10_hungerIn_37 : decode cX10_hungerIn 37 = .ok (.iadd, 1) ∧ 37 + 1 = 38 := ⟨by decide +kernel, rfl⟩
set_option maxRecDepth 20000 in
theorem dX10_hungerIn_38 : decode cX10_hungerIn 38 = .ok (.invokestatic 76, 3) ∧ 38 + 3 = 41 := ⟨by decide +kernel, rfl⟩
set_option maxRecDepth 20000 in
theorem dX10_hungerIn_41 : decode cX10_hungerIn 41 = .ok (.ireturn, 1) := by decide +kernel
set_option maxRecDepth 20000 in
theorem dX10_hungerIn_42 : decode cX10_hungerIn 42 = .ok (.bipush 31, 2) ∧ 42 + 2 = 44 := ⟨by decide +kernel, rfl⟩
set_option maxRecDepth 20000 in
theorem dX10_hungerIn_44 : decode cX10_hungerIn 44 = .ok (.iload 4, 2) ∧ 44 + 2 = 46 := ⟨by decide +kernel, rfl⟩
set_option maxRecDepth 20000 in
theorem dX10_hungerIn_46 : decode cX10_hungerIn 46 = .ok (.invokestatic 81, 3) ∧ 46 + 3 = 49 := ⟨by decide +kernel, rfl⟩
set_option maxRecDepth 20000 in
theorem dX10_hungerIn_49 : decode cX10_hungerIn 49 = .ok (.isub, 1) ∧ 49 + 1 = 50 := ⟨by decide +kernel, rfl⟩
set_option maxRecDepth 20000 in
theorem dX10_hungerIn_50 : decode cX10_hungerIn 50 = .ok (.istore 5, 2) ∧ 50 + 2 = 52 := ⟨by decide +kernel, rfl⟩
set_option maxRecDepth 20000 in
theorem dX10_hungerIn_52 : decode cX10_hungerIn 52 = .ok (.bipush 99, 2) ∧ 52 + 2 = 54 := ⟨by decide +kernel, rfl⟩
set_option maxRecDepth 20000 in
theorem dX10_hungerIn_54 : decode cX10_hungerIn 54 = .ok (.iload_n 3, 1) ∧ 54 + 1 = 55 := ⟨by decide +kernel, rfl⟩
set_option maxRecDepth 20000 in
theorem dX10_hungerIn_55 : decode cX10_hungerIn 55 = .ok (.iload_n 2, 1) ∧ 55 + 1 = 56 := ⟨by decide +kernel, rfl⟩
set_option maxRecDepth 20000 in
theorem dX10_hungerIn_56 : decode cX10_hungerIn 56 = .ok (.iload 5, 2) ∧ 56 + 2 = 58 := ⟨by decide +kernel, rfl⟩
set_option maxRecDepth 20000 in
theorem dX10_hungerIn_58 : decode cX10_hungerIn 58 = .ok (.isub, 1) ∧ 58 + 1 = 59 := ⟨by decide +kernel, rfl⟩
set_option maxRecDepth 20000 in
theorem dX10_hungerIn_59 : decode cX10_hungerIn 59 = .ok (.imul, 1) ∧ 59 + 1 = 60 := ⟨by decide +kernel, rfl⟩
set_option maxRecDepth 20000 in
theorem dX10_hungerIn_60 : decode cX10_hungerIn 60 = .ok (.invokestatic 76, 3) ∧ 60 + 3 = 63 := ⟨by decide +kernel, rfl⟩
set_option maxRecDepth 20000 in
theorem dX10_hungerIn_63 : decode cX10_hungerIn 63 = .ok (.ireturn, 1) := by decide +kernel
set_option maxRecDepth 20000 in
theorem dX10_ruling_0 : decode cX10_ruling 0 = .ok (.aload_n 0, 1) ∧ 0 + 1 = 1 := ⟨by decide +kernel, rfl⟩
set_option maxRecDepth 20000 in
theorem dX10_ruling_1 : decode cX10_ruling 1 = .ok (.getfield 42, 3) ∧ 1 + 3 = 4 := ⟨by decide +kernel, rfl⟩
set_option maxRecDepth 20000 in
theorem dX10_ruling_4 : decode cX10_ruling 4 = .ok (.ifCond .lt 26, 3) ∧ 4 + 3 = 7 ∧ ((4 : Nat) : Int) + (26) = ((30 : Nat) : Int) := ⟨by decide +kernel, rfl, by decide⟩
set_option maxRecDepth 20000 in
theorem dX10_ruling_7 : decode cX10_ruling 7 = .ok (.aload_n 0, 1) ∧ 7 + 1 = 8 := ⟨by decide +kernel, rfl⟩
set_option maxRecDepth 20000 in
theorem dX10_ruling_8 : decode cX10_ruling 8 = .ok (.getfield 42, 3) ∧ 8 + 3 = 11 := ⟨by decide +kernel, rfl⟩
set_option maxRecDepth 20000 in
theorem dX10_ruling_11 : decode cX10_ruling 11 = .ok (.aload_n 0, 1) ∧ 11 + 1 = 12 := ⟨by decide +kernel, rfl⟩
set_option maxRecDepth 20000 in
theorem dX10_ruling_12 : decode cX10_ruling 12 = .ok (.getfield 65, 3) ∧ 12 + 3 = 15 := ⟨by decide +kernel, rfl⟩
set_option maxRecDepth 20000 in
theorem dX10_ruling_15 : decode cX10_ruling 15 = .ok (.if_icmp .ge 15, 3) ∧ 15 + 3 = 18 ∧ ((15 : Nat) : Int) + (15) = ((30 : Nat) : Int) := ⟨by decide +kernel, rfl, by decide⟩
set_option maxRecDepth 20000 in
theorem dX10_ruling_18 : decode cX10_ruling 18 = .ok (.aload_n 0, 1) ∧ 18 + 1 = 19 := ⟨by decide +kernel, rfl⟩
set_option maxRecDepth 20000 in
theorem dX10_ruling_19 : decode cX10_ruling 19 = .ok (.getfield 31, 3) ∧ 19 + 3 = 22 := ⟨by decide +kernel, rfl⟩
set_option maxRecDepth 20000 in
theorem dX10_ruling_22 : decode cX10_ruling 22 = .ok (.aload_n 0, 1) ∧ 22 + 1 = 23 := ⟨by decide +kernel, rfl⟩
set_option maxRecDepth 20000 in
theorem dX10_ruling_23 : decode cX10_ruling 23 = .ok (.getfield 42, 3) ∧ 23 + 3 = 26 := ⟨by decide +kernel, rfl⟩
set_option maxRecDepth 20000 in
theorem dX10_ruling_26 : decode cX10_ruling 26 = .ok (.aaload, 1) ∧ 26 + 1 = 27 := ⟨by decide +kernel, rfl⟩
set_option maxRecDepth 20000 in
theorem dX10_ruling_27 : decode cX10_ruling 27 = .ok (.goto 4, 3) ∧ ((27 : Nat) : Int) + (4) = ((31 : Nat) : Int) := ⟨by decide +kernel, by decide⟩
set_option maxRecDepth 20000 in
theorem dX10_ruling_30 : decode cX10_ruling 30 = .ok (.aconst_null, 1) ∧ 30 + 1 = 31 := ⟨by decide +kernel, rfl⟩
set_option maxRecDepth 20000 in
theorem dX10_ruling_31 : decode cX10_ruling 31 = .ok (.areturn, 1) := by decide +kernel
set_option maxRecDepth 20000 in
theorem dX11_init_0 : decode cX11_init 0 = .ok (.aload_n 0, 1) ∧ 0 + 1 = 1 := ⟨by decide +kernel, rfl⟩
set_option maxRecDepth 20000 in
theorem dX11_init_1 : decode cX11_init 1 = .ok (.invokespecial 1, 3) ∧ 1 + 3 = 4 := ⟨by decide +kernel, rfl⟩
set_option maxRecDepth 20000 in
theorem dX11_init_4 : decode cX11_init 4 = .ok (.aload_n 0, 1) ∧ 4 + 1 = 5 := ⟨by decide +kernel, rfl⟩
set_option maxRecDepth 20000 in
theorem dX11_init_5 : decode cX11_init 5 = .ok (.new 7, 3) ∧ 5 + 3 = 8 := ⟨by decide +kernel, rfl⟩
set_option maxRecDepth 20000 in
theorem dX11_init_8 : decode cX11_init 8 = .ok (.dup, 1) ∧ 8 + 1 = 9 := ⟨by decide +kernel, rfl⟩
set_option maxRecDepth 20000 in
theorem dX11_init_9 : decode cX11_init 9 = .ok (.invokespecial 9, 3) ∧ 9 + 3 = 12 := ⟨by decide +kernel, rfl⟩
set_option maxRecDepth 20000 in
theorem dX11_init_12 : decode cX11_init 12 = .ok (.putfield 10, 3) ∧ 12 + 3 = 15 := ⟨by decide +kernel, rfl⟩
set_option maxRecDepth 20000 in
theorem dX11_init_15 : decode cX11_init 15 = .ok (.aload_n 0, 1) ∧ 15 + 1 = 16 := ⟨by decide +kernel, rfl⟩
set_option maxRecDepth 20000 in
theorem dX11_init_16 : decode cX11_init 16 = .ok (.iconst 2, 1) ∧ 16 + 1 = 17 := ⟨by decide +kernel, rfl⟩
set_option maxRecDepth 20000 in
theorem dX11_init_17 : decode cX11_init 17 = .ok (.anewarray 7, 3) ∧ 17 + 3 = 20 := ⟨by decide +kernel, rfl⟩
set_option maxRecDepth 20000 in
theorem dX11_init_20 : decode cX11_init 20 = .ok (.dup, 1) ∧ 20 + 1 = 21 := ⟨by decide +kernel, rfl⟩
set_option maxRecDepth 20000 in
theorem dX11_init_21 : decode cX11_init 21 = .ok (.iconst 0, 1) ∧ 21 + 1 = 22 := ⟨by decide +kernel, rfl⟩
set_option maxRecDepth 20000 in
theorem dX11_init_22 : decode cX11_init 22 = .ok (.new 7, 3) ∧ 22 + 3 = 25 := ⟨by decide +kernel, rfl⟩
set_option maxRecDepth 20000 in
theorem dX11_init_25 : decode cX11_init 25 = .ok (.dup, 1) ∧ 25 + 1 = 26 := ⟨by decide +kernel, rfl⟩
set_option maxRecDepth 20000 in
theorem dX11_init_26 : decode cX11_init 26 = .ok (.invokespecial 9, 3) ∧ 26 + 3 = 29 := ⟨by decide +kernel, rfl⟩
set_option maxRecDepth 20000 in
theorem dX11_init_29 : decode cX11_init 29 = .ok (.aastore, 1) ∧ 29 + 1 = 30 := ⟨by decide +kernel, rfl⟩
set_option maxRecDepth 20000 in
theorem dX11_init_30 : decode cX11_init 30 = .ok (.dup, 1) ∧ 30 + 1 = 31 := ⟨by decide +kernel, rfl⟩
set_option maxRecDepth 20000 in
theorem dX11_init_31 : decode cX11_init 31 = .ok (.iconst 1, 1) ∧ 31 + 1 = 32 := ⟨by decide +kernel, rfl⟩
set_option maxRecDepth 20000 in
theorem dX11_init_32 : decode cX11_init 32 = .ok (.new 7, 3) ∧ 32 + 3 = 35 := ⟨by decide +kernel, rfl⟩
set_option maxRecDepth 20000 in
theorem dX11_init_35 : decode cX11_init 35 = .ok (.dup, 1) ∧ 35 + 1 = 36 := ⟨by decide +kernel, rfl⟩
set_option maxRecDepth 20000 in
theorem dX11_init_36 : decode cX11_init 36 = .ok (.invokespecial 9, 3) ∧ 36 + 3 = 39 := ⟨by decide +kernel, rfl⟩
set_option maxRecDepth 20000 in
theorem dX11_init_39 : decode cX11_init 39 = .ok (.aastore, 1) ∧ 39 + 1 = 40 := ⟨by decide +kernel, rfl⟩
set_option maxRecDepth 20000 in
theorem dX11_init_40 : decode cX11_init 40 = .ok (.putfield 16, 3) ∧ 40 + 3 = 43 := ⟨by decide +kernel, rfl⟩
set_option maxRecDepth 20000 in
theorem dX11_init_43 : decode cX11_init 43 = .ok (.aload_n 0, 1) ∧ 43 + 1 = 44 := ⟨by decide +kernel, rfl⟩
set_option maxRecDepth 20000 in
theorem dX11_init_44 : decode cX11_init 44 = .ok (.iconst 2, 1) ∧ 44 + 1 = 45 := ⟨by decide +kernel, rfl⟩
set_option maxRecDepth 20000 in
theorem dX11_init_45 : decode cX11_init 45 = .ok (.newarray .boolean, 2) ∧ 45 + 2 = 47 := ⟨by decide +kernel, rfl⟩
set_option maxRecDepth 20000 in
theorem dX11_init_47 : decode cX11_init 47 = .ok (.putfield 20, 3) ∧ 47 + 3 = 50 := ⟨by decide +kernel, rfl⟩
set_option maxRecDepth 20000 in
theorem dX11_init_50 : decode cX11_init 50 = .ok (.aload_n 0, 1) ∧ 50 + 1 = 51 := ⟨by decide +kernel, rfl⟩
set_option maxRecDepth 20000 in
theorem dX11_init_51 : decode cX11_init 51 = .ok (.new 24, 3) ∧ 51 + 3 = 54 := ⟨by decide +kernel, rfl⟩
set_option maxRecDepth 20000 in
theorem dX11_init_54 : decode cX11_init 54 = .ok (.dup, 1) ∧ 54 + 1 = 55 := ⟨by decide +kernel, rfl⟩
set_option maxRecDepth 20000 in
theorem dX11_init_55 : decode cX11_init 55 = .ok (.invokespecial 26, 3) ∧ 55 + 3 = 58 := ⟨by decide +kernel, rfl⟩
set_option maxRecDepth 20000 in
theorem dX11_init_58 : decode cX11_init 58 = .ok (.putfield 27, 3) ∧ 58 + 3 = 61 := ⟨by decide +kernel, rfl⟩
set_option maxRecDepth 20000 in
theorem dX11_init_61 : decode cX11_init 61 = .ok (.aload_n 0, 1) ∧ 61 + 1 = 62 := ⟨by decide +kernel, rfl⟩
set_option maxRecDepth 20000 in
theorem dX11_init_62 : decode cX11_init 62 = .ok (.new 31, 3) ∧ 62 + 3 = 65 := ⟨by decide +kernel, rfl⟩
set_option maxRecDepth 20000 in
theorem dX11_init_65 : decode cX11_init 65 = .ok (.dup, 1) ∧ 65 + 1 = 66 := ⟨by decide +kernel, rfl⟩
set_option maxRecDepth 20000 in
theorem dX11_init_66 : decode cX11_init 66 = .ok (.aload_n 0, 1) ∧ 66 + 1 = 67 := ⟨by decide +kernel, rfl⟩
set_option maxRecDepth 20000 in
theorem dX11_init_67 : decode cX11_init 67 = .ok (.getfield 27, 3) ∧ 67 + 3 = 70 := ⟨by decide +kernel, rfl⟩
set_option maxRecDepth 20000 in
theorem dX11_init_70 : decode cX11_init 70 = .ok (.invokespecial 33, 3) ∧ 70 + 3 = 73 := ⟨by decide +kernel, rfl⟩
set_option maxRecDepth 20000 in
theorem dX11_init_73 : decode cX11_init 73 = .ok (.putfield 36, 3) ∧ 73 + 3 = 76 := ⟨by decide +kernel, rfl⟩
set_option maxRecDepth 20000 in
theorem dX11_init_76 : decode cX11_init 76 = .ok (.aload_n 0, 1) ∧ 76 + 1 = 77 := ⟨by decide +kernel, rfl⟩
set_option maxRecDepth 20000 in
theorem dX11_init_77 : decode cX11_init 77 = .ok (.new 40, 3) ∧ 77 + 3 = 80 := ⟨by decide +kernel, rfl⟩
set_option maxRecDepth 20000 in
theorem dX11_init_80 : decode cX11_init 80 = .ok (.dup, 1) ∧ 80 + 1 = 81 := ⟨by decide +kernel, rfl⟩
set_option maxRecDepth 20000 in
theorem dX11_init_81 : decode cX11_init 81 = .ok (.invokespecial 42, 3) ∧ 81 + 3 = 84 := ⟨by decide +kernel, rfl⟩
set_option maxRecDepth 20000 in
theorem dX11_init_84 : decode cX11_init 84 = .ok (.putfield 43, 3) ∧ 84 + 3 = 87 := ⟨by decide +kernel, rfl⟩
set_option maxRecDepth 20000 in
theorem dX11_init_87 : decode cX11_init 87 = .ok (.aload_n 0, 1) ∧ 87 + 1 = 88 := ⟨by decide +kernel, rfl⟩
set_option maxRecDepth 20000 in
theorem dX11_init_88 : decode cX11_init 88 = .ok (.new 47, 3) ∧ 88 + 3 = 91 := ⟨by decide +kernel, rfl⟩
set_option maxRecDepth 20000 in
theorem dX11_init_91 : decode cX11_init 91 = .ok (.dup, 1) ∧ 91 + 1 = 92 := ⟨by decide +kernel, rfl⟩
set_option maxRecDepth 20000 in
theorem dX11_init_92 : decode cX11_init 92 = .ok (.invokespecial 49, 3) ∧ 92 + 3 = 95 := ⟨by decide +kernel, rfl⟩
set_option maxRecDepth 20000 in
theorem dX11_init_95 : decode cX11_init 95 = .ok (.putfield 50, 3) ∧ 95 + 3 = 98 := ⟨by decide +kernel, rfl⟩
set_option maxRecDepth 20000 in
theorem dX11_init_98 : decode cX11_init 98 = .ok (.aload_n 0, 1) ∧ 98 + 1 = 99 := ⟨by decide +kernel, rfl⟩
set_option maxRecDepth 20000 in
theorem dX11_init_99 : decode cX11_init 99 = .ok (.new 54, 3) ∧ 99 + 3 = 102 := ⟨by decide +kernel, rfl⟩
set_option maxRecDepth 20000 in
theorem dX11_init_102 : decode cX11_init 102 = .ok (.dup, 1) ∧ 102 + 1 = 103 := ⟨by decide +kernel, rfl⟩
set_option maxRecDepth 20000 in
theorem dX11_init_103 : decode cX11_init 103 = .ok (.invokespecial 56, 3) ∧ 103 + 3 = 106 := ⟨by decide +kernel, rfl⟩
set_option maxRecDepth 20000 in
theorem dX11_init_106 : decode cX11_init 106 = .ok (.putfield 57, 3) ∧ 106 + 3 = 109 := ⟨by decide +kernel, rfl⟩
set_option maxRecDepth 20000 in
theorem dX11_init_109 : decode cX11_init 109 = .ok (.aload_n 0, 1) ∧ 109 + 1 = 110 := ⟨by decide +kernel, rfl⟩
set_option maxRecDepth 20000 in
theorem dX11_init_110 : decode cX11_init 110 = .ok (.new 61, 3) ∧ 110 + 3 = 113 := ⟨by decide +kernel, rfl⟩
set_option maxRecDepth 20000 in
theorem dX11_init_113 : decode cX11_init 113 = .ok (.dup, 1) ∧ 113 + 1 = 114 := ⟨by decide +kernel, rfl⟩
set_option maxRecDepth 20000 in
theorem dX11_init_114 : decode cX11_init 114 = .ok (.invokespecial 63, 3) ∧ 114 + 3 = 117 := ⟨by decide +kernel, rfl⟩
set_option maxRecDepth 20000 in
theorem dX11_init_117 : decode cX11_init 117 = .ok (.putfield 64, 3) ∧ 117 + 3 = 120 := ⟨by decide +kernel, rfl⟩
set_option maxRecDepth 20000 in
theorem dX11_init_120 : decode cX11_init 120 = .ok (.aload_n 0, 1) ∧ 120 + 1 = 121 := ⟨by decide +kernel, rfl⟩
set_option maxRecDepth 20000 in
theorem dX11_init_121 : decode cX11_init 121 = .ok (.new 68, 3) ∧ 121 + 3 = 124 := ⟨by decide +kernel, rfl⟩
set_option maxRecDepth 20000 in
theorem dX11_init_124 : decode cX11_init 124 = .ok (.dup, 1) ∧ 124 + 1 = 125 := ⟨by decide +kernel, rfl⟩
set_option maxRecDepth 20000 in
theorem dX11_init_125 : decode cX11_init 125 = .ok (.invokespecial 70, 3) ∧ 125 + 3 = 128 := ⟨by decide +kernel, rfl⟩
set_option maxRecDepth 20000 in
theorem dX11_init_128 : decode cX11_init 128 = .ok (.putfield 71, 3) ∧ 128 + 3 = 131 := ⟨by decide +kernel, rfl⟩
set_option maxRecDepth 20000 in
theorem dX11_init_131 : decode cX11_init 131 = .ok (.aload_n 0, 1) ∧ 131 + 1 = 132 := ⟨by decide +kernel, rfl⟩
set_option maxRecDepth 20000 in
theorem dX11_init_132 : decode cX11_init 132 = .ok (.new 75, 3) ∧ 132 + 3 = 135 := ⟨by decide +kernel, rfl⟩
set_option maxRecDepth 20000 in
theorem dX11_init_135 : decode cX11_init 135 = .ok (.dup, 1) ∧ 135 + 1 = 136 := ⟨by decide +kernel, rfl⟩
set_option maxRecDepth 20000 in
theorem dX11_init_136 : decode cX11_init 136 = .ok (.invokespecial 77, 3) ∧ 136 + 3 = 139 := ⟨by decide +kernel, rfl⟩
set_option maxRecDepth 20000 in
theorem dX11_init_139 : decode cX11_init 139 = .ok (.putfield 78, 3) ∧ 139 + 3 = 142 := ⟨by decide +kernel, rfl⟩
set_option maxRecDepth 20000 in
theorem dX11_init_142 : decode cX11_init 142 = .ok (.aload_n 0, 1) ∧ 142 + 1 = 143 := ⟨by decide +kernel, rfl⟩
set_option maxRecDepth 20000 in
theorem dX11_init_143 : decode cX11_init 143 = .ok (.new 75, 3) ∧ 143 + 3 = 146 := ⟨by decide +kernel, rfl⟩
set_option maxRecDepth 20000 in
theorem dX11_init_146 : decode cX11_init 146 = .ok (.dup, 1) ∧ 146 + 1 = 147 := ⟨by decide +kernel, rfl⟩
set_option maxRecDepth 20000 in
theorem dX11_init_147 : decode cX11_init 147 = .ok (.invokespecial 77, 3) ∧ 147 + 3 = 150 := ⟨by decide +kernel, rfl⟩
set_option maxRecDepth 20000 in
theorem dX11_init_150 : decode cX11_init 150 = .ok (.putfield 82, 3) ∧ 150 + 3 = 153 := ⟨by decide +kernel, rfl⟩
set_option maxRecDepth 20000 in
theorem dX11_init_153 : decode cX11_init 153 = .ok (.aload_n 0, 1) ∧ 153 + 1 = 154 := ⟨by decide +kernel, rfl⟩
set_option maxRecDepth 20000 in
theorem dX11_init_154 : decode cX11_init 154 = .ok (.bipush 7, 2) ∧ 154 + 2 = 156 := ⟨by decide +kernel, rfl⟩
set_option maxRecDepth 20000 in
theorem dX11_init_156 : decode cX11_init 156 = .ok (.newarray .int, 2) ∧ 156 + 2 = 158 := ⟨by decide +kernel, rfl⟩
set_option maxRecDepth 20000 in
theorem dX11_init_158 : decode cX11_init 158 = .ok (.putfield 85, 3) ∧ 158 + 3 = 161 := ⟨by decide +kernel, rfl⟩
set_option maxRecDepth 20000 in
theorem dX11_init_161 : decode cX11_init 161 = .ok (.aload_n 0, 1) ∧ 161 + 1 = 162 := ⟨by decide +kernel, rfl⟩
set_option maxRecDepth 20000 in
theorem dX11_init_162 : decode cX11_init 162 = .ok (.iconst (-1), 1) ∧ 162 + 1 = 163 := ⟨by decide +kernel, rfl⟩
set_option maxRecDepth 20000 in
theorem dX11_init_163 : decode cX11_init 163 = .ok (.putfield 89, 3) ∧ 163 + 3 = 166 := ⟨by decide +kernel, rfl⟩
set_option maxRecDepth 20000 in
theorem dX11_init_166 : decode cX11_init 166 = .ok (.return_, 1) := by decide +kernel
set_option maxRecDepth 20000 in
theorem dX11_beast_0 : decode cX11_beast 0 = .ok (.iconst 0, 1) ∧ 0 + 1 = 1 := ⟨by decide +kernel, rfl⟩
set_option maxRecDepth 20000 in
theorem dX11_beast_1 : decode cX11_beast 1 = .ok (.iload_n 1, 1) ∧ 1 + 1 = 2 := ⟨by decide +kernel, rfl⟩
set_option maxRecDepth 20000 in
theorem dX11_beast_2 : decode cX11_beast 2 = .ok (.invokestatic 93, 3) ∧ 2 + 3 = 5 := ⟨by decide +kernel, rfl⟩
set_option maxRecDepth 20000 in
theorem dX11_beast_5 : decode cX11_beast 5 = .ok (.ifCond .eq 23, 3) ∧ 5 + 3 = 8 ∧ ((5 : Nat) : Int) + (23) = ((28 : Nat) : Int) := ⟨by decide +kernel, rfl, by decide⟩
set_option maxRecDepth 20000 in
theorem dX11_beast_8 : decode cX11_beast 8 = .ok (.iconst 1, 1) ∧ 8 + 1 = 9 := ⟨by decide +kernel, rfl⟩
set_option maxRecDepth 20000 in
theorem dX11_beast_9 : decode cX11_beast 9 = .ok (.iload_n 2, 1) ∧ 9 + 1 = 10 := ⟨by decide +kernel, rfl⟩
set_option maxRecDepth 20000 in
theorem dX11_beast_10 : decode cX11_beast 10 = .ok (.invokestatic 93, 3) ∧ 10 + 3 = 13 := ⟨by decide +kernel, rfl⟩
set_option maxRecDepth 20000 in
theorem dX11_beast_13 : decode cX11_beast 13 = .ok (.ifCond .eq 15, 3) ∧ 13 + 3 = 16 ∧ ((13 : Nat) : Int) + (15) = ((28 : Nat) : Int) := ⟨by decide +kernel, rfl, by decide⟩
set_option maxRecDepth 20000 in
theorem dX11_beast_16 : decode cX11_beast 16 = .ok (.iconst 2, 1) ∧ 16 + 1 = 17 := ⟨by decide +kernel, rfl⟩
set_option maxRecDepth 20000 in
theorem dX11_beast_17 : decode cX11_beast 17 = .ok (.iload_n 3, 1) ∧ 17 + 1 = 18 := ⟨by decide +kernel, rfl⟩
set_option maxRecDepth 20000 in
theorem dX11_beast_18 : decode cX11_beast 18 = .ok (.invokestatic 93, 3) ∧ 18 + 3 = 21 := ⟨by decide +kernel, rfl⟩
set_option maxRecDepth 20000 in
theorem dX11_beast_21 : decode cX11_beast 21 = .ok (.ifCond .eq 7, 3) ∧ 21 + 3 = 24 ∧ ((21 : Nat) : Int) + (7) = ((28 : Nat) : Int) := ⟨by decide +kernel, rfl, by decide⟩
set_option maxRecDepth 20000 in
theorem dX11_beast_24 : decode cX11_beast 24 = .ok (.iconst 1, 1) ∧ 24 + 1 = 25 := ⟨by decide +kernel, rfl⟩
set_option maxRecDepth 20000 in
theorem dX11_beast_25 : decode cX11_beast 25 = .ok (.goto 4, 3) ∧ ((25 : Nat) : Int) + (4) = ((29 : Nat) : Int) := ⟨by decide +kernel, by decide⟩
set_option maxRecDepth 20000 in
theorem dX11_beast_28 : decode cX11_beast 28 = .ok (.iconst 0, 1) ∧ 28 + 1 = 29 := ⟨by decide +kernel, rfl⟩
set_option maxRecDepth 20000 in
theorem dX11_beast_29 : decode cX11_beast 29 = .ok (.istore 6, 2) ∧ 29 + 2 = 31 := ⟨by decide +kernel, rfl⟩
set_option maxRecDepth 20000 in
theorem dX11_beast_31 : decode cX11_beast 31 = .ok (.iload 6, 2) ∧ 31 + 2 = 33 := ⟨by decide +kernel, rfl⟩
set_option maxRecDepth 20000 in
theorem dX11_beast_33 : decode cX11_beast 33 = .ok (.ifCond .eq 21, 3) ∧ 33 + 3 = 36 ∧ ((33 : Nat) : Int) + (21) = ((54 : Nat) : Int) := ⟨by decide +kernel, rfl, by decide⟩
set_option maxRecDepth 20000 in
theorem dX11_beast_36 : decode cX11_beast 36 = .ok (.iconst 3, 1) ∧ 36 + 1 = 37 := ⟨by decide +kernel, rfl⟩
set_option maxRecDepth 20000 in
theorem dX11_beast_37 : decode cX11_beast 37 = .ok (.iload 4, 2) ∧ 37 + 2 = 39 := ⟨by decide +kernel, rfl⟩
set_option maxRecDepth 20000 in
theorem dX11_beast_39 : decode cX11_beast 39 = .ok (.invokestatic 93, 3) ∧ 39 + 3 = 42 := ⟨by decide +kernel, rfl⟩
set_option maxRecDepth 20000 in
theorem dX11_beast_42 : decode cX11_beast 42 = .ok (.ifCond .eq 12, 3) ∧ 42 + 3 = 45 ∧ ((42 : Nat) : Int) + (12) = ((54 : Nat) : Int) := ⟨by decide +kernel, rfl, by decide⟩
set_option maxRecDepth 20000 in
theorem dX11_beast_45 : decode cX11_beast 45 = .ok (.iconst 4, 1) ∧ 45 + 1 = 46 := ⟨by decide +kernel, rfl⟩
set_option maxRecDepth 20000 in
theorem dX11_beast_46 : decode cX11_beast 46 = .ok (.iload 5, 2) ∧ 46 + 2 = 48 := ⟨by decide +kernel, rfl⟩
set_option maxRecDepth 20000 in
theorem dX11_beast_48 : decode cX11_beast 48 = .ok (.invokestatic 93, 3) ∧ 48 + 3 = 51 := ⟨by decide +kernel, rfl⟩
set_option maxRecDepth 20000 in
theorem dX11_beast_51 : decode cX11_beast 51 = .ok (.ifCond .ne 9, 3) ∧ 51 + 3 = 54 ∧ ((51 : Nat) : Int) + (9) = ((60 : Nat) : Int) := ⟨by decide +kernel, rfl, by decide⟩
set_option maxRecDepth 20000 in
theorem dX11_beast_54 : decode cX11_beast 54 = .ok (.aload_n 0, 1) ∧ 54 + 1 = 55 := ⟨by decide +kernel, rfl⟩
set_option maxRecDepth 20000 in
theorem dX11_beast_55 : decode cX11_beast 55 = .ok (.iconst (-1), 1) ∧ 55 + 1 = 56 := ⟨by decide +kernel, rfl⟩
set_option maxRecDepth 20000 in
theorem dX11_beast_56 : decode cX11_beast 56 = .ok (.invokevirtual 97, 3) ∧ 56 + 3 = 59 := ⟨by decide +kernel, rfl⟩
set_option maxRecDepth 20000 in
theorem dX11_beast_59 : decode cX11_beast 59 = .ok (.ireturn, 1) := by decide +kernel
set_option maxRecDepth 20000 in
theorem dX11_beast_60 : decode cX11_beast 60 = .ok (.aload_n 0, 1) ∧ 60 + 1 = 61 := ⟨by decide +kernel, rfl⟩
set_option maxRecDepth 20000 in
theorem dX11_beast_61 : decode cX11_beast 61 = .ok (.getfield 10, 3) ∧ 61 + 3 = 64 := ⟨by decide +kernel, rfl⟩
set_option maxRecDepth 20000 in
theorem dX11_beast_64 : decode cX11_beast 64 = .ok (.getfield 101, 3) ∧ 64 + 3 = 67 := ⟨by decide +kernel, rfl⟩
set_option maxRecDepth 20000 in
theorem dX11_beast_67 : decode cX11_beast 67 = .ok (.bipush 8, 2) ∧ 67 + 2 = 69 := ⟨by decide +kernel, rfl⟩
set_option maxRecDepth 20000 in
theorem dX11_beast_69 : decode cX11_beast 69 = .ok (.if_icmp .lt 10, 3) ∧ 69 + 3 = 72 ∧ ((69 : Nat) : Int) + (10) = ((79 : Nat) : Int) := ⟨by decide +kernel, rfl, by decide⟩
set_option maxRecDepth 20000 in
theorem dX11_beast_72 : decode cX11_beast 72 = .ok (.aload_n 0, 1) ∧ 72 + 1 = 73 := ⟨by decide +kernel, rfl⟩
set_option maxRecDepth 20000 in
theorem dX11_beast_73 : decode cX11_beast 73 = .ok (.bipush (-5), 2) ∧ 73 + 2 = 75 := ⟨by decide +kernel, rfl⟩
set_option maxRecDepth 20000 in
theorem dX11_beast_75 : decode cX11_beast 75 = .ok (.invokevirtual 97, 3) ∧ 75 + 3 = 78 := ⟨by decide +kernel, rfl⟩
set_option maxRecDepth 20000 in
theorem dX11_beast_78 : decode cX11_beast 78 = .ok (.ireturn, 1) := by decide +kernel
set_option maxRecDepth 20000 in
theorem dX11_beast_79 : decode cX11_beast 79 = .ok (.aload_n 0, 1) ∧ 79 + 1 = 80 := ⟨by decide +kernel, rfl⟩
set_option maxRecDepth 20000 in
theorem dX11_beast_80 : decode cX11_beast 80 = .ok (.getfield 10, 3) ∧ 80 + 3 = 83 := ⟨by decide +kernel, rfl⟩
set_option maxRecDepth 20000 in
theorem dX11_beast_83 : decode cX11_beast 83 = .ok (.getfield 101, 3) ∧ 83 + 3 = 86 := ⟨by decide +kernel, rfl⟩
set_option maxRecDepth 20000 in
theorem dX11_beast_86 : decode cX11_beast 86 = .ok (.istore 7, 2) ∧ 86 + 2 = 88 := ⟨by decide +kernel, rfl⟩
set_option maxRecDepth 20000 in
theorem dX11_beast_88 : decode cX11_beast 88 = .ok (.aload_n 0, 1) ∧ 88 + 1 = 89 := ⟨by decide +kernel, rfl⟩
set_option maxRecDepth 20000 in
theorem dX11_beast_89 : decode cX11_beast 89 = .ok (.getfield 10, 3) ∧ 89 + 3 = 92 := ⟨by decide +kernel, rfl⟩
set_option maxRecDepth 20000 in
theorem dX11_beast_92 : decode cX11_beast 92 = .ok (.dup, 1) ∧ 92 + 1 = 93 := ⟨by decide +kernel, rfl⟩
set_option maxRecDepth 20000 in
theorem dX11_beast_93 : decode cX11_beast 93 = .ok (.getfield 101, 3) ∧ 93 + 3 = 96 := ⟨by decide +kernel, rfl⟩
set_option maxRecDepth 20000 in
theorem dX11_beast_96 : decode cX11_beast 96 = .ok (.iconst 1, 1) ∧ 96 + 1 = 97 := ⟨by decide +kernel, rfl⟩
set_option maxRecDepth 20000 in
theorem dX11_beast_97 : decode cX11_beast 97 = .ok (.iadd, 1) ∧ 97 + 1 = 98 := ⟨by decide +kernel, rfl⟩
set_option maxRecDepth 20000 in
theorem dX11_beast_98 : decode cX11_beast 98 = .ok (.putfield 101, 3) ∧ 98 + 3 = 101 := ⟨by decide +kernel, rfl⟩
set_option maxRecDepth 20000 in
theorem dX11_beast_101 : decode cX11_beast 101 = .ok (.aload_n 0, 1) ∧ 101 + 1 = 102 := ⟨by decide +kernel, rfl⟩
set_option maxRecDepth 20000 in
theorem dX11_beast_102 : decode cX11_beast 102 = .ok (.getfield 10, 3) ∧ 102 + 3 = 105 := ⟨by decide +kernel, rfl⟩
set_option maxRecDepth 20000 in
theorem dX11_beast_105 : decode cX11_beast 105 = .ok (.iload 7, 2) ∧ 105 + 2 = 107 := ⟨by decide +kernel, rfl⟩
set_option maxRecDepth 20000 in
theorem dX11_beast_107 : decode cX11_beast 107 = .ok (.iconst 0, 1) ∧ 107 + 1 = 108 := ⟨by decide +kernel, rfl⟩
set_option maxRecDepth 20000 in
theorem dX11_beast_108 : decode cX11_beast 108 = .ok (.iload_n 1, 1) ∧ 108 + 1 = 109 := ⟨by decide +kernel, rfl⟩
set_option maxRecDepth 20000 in
theorem dX11_beast_109 : decode cX11_beast 109 = .ok (.invokevirtual 104, 3) ∧ 109 + 3 = 112 := ⟨by decide +kernel, rfl⟩
set_option maxRecDepth 20000 in
theorem dX11_beast_112 : decode cX11_beast 112 = .ok (.aload_n 0, 1) ∧ 112 + 1 = 113 := ⟨by decide +kernel, rfl⟩
set_option maxRecDepth 20000 in
theorem dX11_beast_113 : decode cX11_beast 113 = .ok (.getfield 10, 3) ∧ 113 + 3 = 116 := ⟨by decide +kernel, rfl⟩
set_option maxRecDepth 20000 in
theorem dX11_beast_116 : decode cX11_beast 116 = .ok (.iload 7, 2) ∧ 116 + 2 = 118 := ⟨by decide +kernel, rfl⟩
set_option maxRecDepth 20000 in
theorem dX11_beast_118 : decode cX11_beast 118 = .ok (.iconst 1, 1) ∧ 118 + 1 = 119 := ⟨by decide +kernel, rfl⟩
set_option maxRecDepth 20000 in
theorem dX11_beast_119 : decode cX11_beast 119 = .ok (.iload_n 2, 1) ∧ 119 + 1 = 120 := ⟨by decide +kernel, rfl⟩
set_option maxRecDepth 20000 in
theorem dX11_beast_120 : decode cX11_beast 120 = .ok (.invokevirtual 104, 3) ∧ 120 + 3 = 123 := ⟨by decide +kernel, rfl⟩
set_option maxRecDepth 20000 in
theorem dX11_beast_123 : decode cX11_beast 123 = .ok (.aload_n 0, 1) ∧ 123 + 1 = 124 := ⟨by decide +kernel, rfl⟩
set_option maxRecDepth 20000 in
theorem dX11_beast_124 : decode cX11_beast 124 = .ok (.getfield 10, 3) ∧ 124 + 3 = 127 := ⟨by decide +kernel, rfl⟩
set_option maxRecDepth 20000 in
theorem dX11_beast_127 : decode cX11_beast 127 = .ok (.iload 7, 2) ∧ 127 + 2 = 129 := ⟨by decide +kernel, rfl⟩
set_option maxRecDepth 20000 in
theorem dX11_beast_129 : decode cX11_beast 129 = .ok (.iconst 2, 1) ∧ 129 + 1 = 130 := ⟨by decide +kernel, rfl⟩
set_option maxRecDepth 20000 in
theorem dX11_beast_130 : decode cX11_beast 130 = .ok (.iload_n 3, 1) ∧ 130 + 1 = 131 := ⟨by decide +kernel, rfl⟩
set_option maxRecDepth 20000 in
theorem dX11_beast_131 : decode cX11_beast 131 = .ok (.invokevirtual 104, 3) ∧ 131 + 3 = 134 := ⟨by decide +kernel, rfl⟩
set_option maxRecDepth 20000 in
theorem dX11_beast_134 : decode cX11_beast 134 = .ok (.aload_n 0, 1) ∧ 134 + 1 = 135 := ⟨by decide +kernel, rfl⟩
set_option maxRecDepth 20000 in
theorem dX11_beast_135 : decode cX11_beast 135 = .ok (.getfield 10, 3) ∧ 135 + 3 = 138 := ⟨by decide +kernel, rfl⟩
set_option maxRecDepth 20000 in
theorem dX11_beast_138 : decode cX11_beast 138 = .ok (.iload 7, 2) ∧ 138 + 2 = 140 := ⟨by decide +kernel, rfl⟩
set_option maxRecDepth 20000 in
theorem dX11_beast_140 : decode cX11_beast 140 = .ok (.iconst 3, 1) ∧ 140 + 1 = 141 := ⟨by decide +kernel, rfl⟩
set_option maxRecDepth 20000 in
theorem dX11_beast_141 : decode cX11_beast 141 = .ok (.iload 4, 2) ∧ 141 + 2 = 143 := ⟨by decide +kernel, rfl⟩
set_option maxRecDepth 20000 in
theorem dX11_beast_143 : decode cX11_beast 143 = .ok (.invokevirtual 104, 3) ∧ 143 + 3 = 146 := ⟨by decide +kernel, rfl⟩
set_option maxRecDepth 20000 in
theorem dX11_beast_146 : decode cX11_beast 146 = .ok (.aload_n 0, 1) ∧ 146 + 1 = 147 := ⟨by decide +kernel, rfl⟩
set_option maxRecDepth 20000 in
theorem dX11_beast_147 : decode cX11_beast 147 = .ok (.getfield 10, 3) ∧ 147 + 3 = 150 := ⟨by decide +kernel, rfl⟩
set_option maxRecDepth 20000 in
theorem dX11_beast_150 : decode cX11_beast 150 = .ok (.iload 7, 2) ∧ 150 + 2 = 152 := ⟨by decide +kernel, rfl⟩
set_option maxRecDepth 20000 in
theorem dX11_beast_152 : decode cX11_beast 152 = .ok (.iconst 4, 1) ∧ 152 + 1 = 153 := ⟨by decide +kernel, rfl⟩
set_option maxRecDepth 20000 in
theorem dX11_beast_153 : decode cX11_beast 153 = .ok (.iload 5, 2) ∧ 153 + 2 = 155 := ⟨by decide +kernel, rfl⟩
set_option maxRecDepth 20000 in
theorem dX11_beast_155 : decode cX11_beast 155 = .ok (.invokevirtual 104, 3) ∧ 155 + 3 = 158 := ⟨by decide +kernel, rfl⟩
set_option maxRecDepth 20000 in
theorem dX11_beast_158 : decode cX11_beast 158 = .ok (.aload_n 0, 1) ∧ 158 + 1 = 159 := ⟨by decide +kernel, rfl⟩
set_option maxRecDepth 20000 in
theorem dX11_beast_159 : decode cX11_beast 159 = .ok (.getfield 10, 3) ∧ 159 + 3 = 162 := ⟨by decide +kernel, rfl⟩
set_option maxRecDepth 20000 in
theorem dX11_beast_162 : decode cX11_beast 162 = .ok (.iload 7, 2) ∧ 162 + 2 = 164 := ⟨by decide +kernel, rfl⟩
set_option maxRecDepth 20000 in
theorem dX11_beast_164 : decode cX11_beast 164 = .ok (.iconst 5, 1) ∧ 164 + 1 = 165 := ⟨by decide +kernel, rfl⟩
set_option maxRecDepth 20000 in
theorem dX11_beast_165 : decode cX11_beast 165 = .ok (.iconst 0, 1) ∧ 165 + 1 = 166 := ⟨by decide +kernel, rfl⟩
set_option maxRecDepth 20000 in
theorem dX11_beast_166 : decode cX11_beast 166 = .ok (.invokevirtual 104, 3) ∧ 166 + 3 = 169 := ⟨by decide +kernel, rfl⟩
set_option maxRecDepth 20000 in
theorem dX11_beast_169 : decode cX11_beast 169 = .ok (.aload_n 0, 1) ∧ 169 + 1 = 170 := ⟨by decide +kernel, rfl⟩
set_option maxRecDepth 20000 in
theorem dX11_beast_170 : decode cX11_beast 170 = .ok (.iload 7, 2) ∧ 170 + 2 = 172 := ⟨by decide +kernel, rfl⟩
set_option maxRecDepth 20000 in
theorem dX11_beast_172 : decode cX11_beast 172 = .ok (.invokevirtual 108, 3) ∧ 172 + 3 = 175 := ⟨by decide +kernel, rfl⟩
set_option maxRecDepth 20000 in
theorem dX11_beast_175 : decode cX11_beast 175 = .ok (.ireturn, 1) := by decide +kernel
set_option maxRecDepth 20000 in
theorem dX11_put_0 : decode cX11_put 0 = .ok (.iload_n 2, 1) ∧ 0 + 1 = 1 := ⟨by decide +kernel, rfl⟩
set_option maxRecDepth 20000 in
theorem dX11_put_1 : decode cX11_put 1 = .ok (.iload_n 3, 1) ∧ 1 + 1 = 2 := ⟨by decide +kernel, rfl⟩
set_option maxRecDepth 20000 in
theorem dX11_put_2 : decode cX11_put 2 = .ok (.invokestatic 93, 3) ∧ 2 + 3 = 5 := ⟨by decide +kernel, rfl⟩
set_option maxRecDepth 20000 in
theorem dX11_put_5 : decode cX11_put 5 = .ok (.ifCond .ne 9, 3) ∧ 5 + 3 = 8 ∧ ((5 : Nat) : Int) + (9) = ((14 : Nat) : Int) := ⟨by decide +kernel, rfl, by decide⟩
set_option maxRecDepth 20000 in
theorem dX11_put_8 : decode cX11_put 8 = .ok (.aload_n 0, 1) ∧ 8 + 1 = 9 := ⟨by decide +kernel, rfl⟩
set_option maxRecDepth 20000 in
theorem dX11_put_9 : decode cX11_put 9 = .ok (.iconst (-1), 1) ∧ 9 + 1 = 10 := ⟨by decide +kernel, rfl⟩
set_option maxRecDepth 20000 in
theorem dX11_put_10 : decode cX11_put 10 = .ok (.invokevirtual 97, 3) ∧ 10 + 3 = 13 := ⟨by decide +kernel, rfl⟩
set_option maxRecDepth 20000 in
theorem dX11_put_13 : decode cX11_put 13 = .ok (.ireturn, 1) := by decide +kernel
set_option maxRecDepth 20000 in
theorem dX11_put_14 : decode cX11_put 14 = .ok (.aload_n 0, 1) ∧ 14 + 1 = 15 := ⟨by decide +kernel, rfl⟩
set_option maxRecDepth 20000 in
theorem dX11_put_15 : decode cX11_put 15 = .ok (.getfield 10, 3) ∧ 15 + 3 = 18 := ⟨by decide +kernel, rfl⟩
set_option maxRecDepth 20000 in
theorem dX11_put_18 : decode cX11_put 18 = .ok (.iload_n 1, 1) ∧ 18 + 1 = 19 := ⟨by decide +kernel, rfl⟩
set_option maxRecDepth 20000 in
theorem dX11_put_19 : decode cX11_put 19 = .ok (.invokevirtual 111, 3) ∧ 19 + 3 = 22 := ⟨by decide +kernel, rfl⟩
set_option maxRecDepth 20000 in
theorem dX11_put_22 : decode cX11_put 22 = .ok (.ifCond .ne 10, 3) ∧ 22 + 3 = 25 ∧ ((22 : Nat) : Int) + (10) = ((32 : Nat) : Int) := ⟨by decide +kernel, rfl, by decide⟩
set_option maxRecDepth 20000 in
theorem dX11_put_25 : decode cX11_put 25 = .ok (.aload_n 0, 1) ∧ 25 + 1 = 26 := ⟨by decide +kernel, rfl⟩
set_option maxRecDepth 20000 in
theorem dX11_put_26 : decode cX11_put 26 = .ok (.bipush (-2), 2) ∧ 26 + 2 = 28 := ⟨by decide +kernel, rfl⟩
set_option maxRecDepth 20000 in
theorem dX11_put_28 : decode cX11_put 28 = .ok (.invokevirtual 97, 3) ∧ 28 + 3 = 31 := ⟨by decide +kernel, rfl⟩
set_option maxRecDepth 20000 in
theorem dX11_put_31 : decode cX11_put 31 = .ok (.ireturn, 1) := by decide +kernel
set_option maxRecDepth 20000 in
theorem dX11_put_32 : decode cX11_put 32 = .ok (.aload_n 0, 1) ∧ 32 + 1 = 33 := ⟨by decide +kernel, rfl⟩
set_option maxRecDepth 20000 in
theorem dX11_put_33 : decode cX11_put 33 = .ok (.getfield 10, 3) ∧ 33 + 3 = 36 := ⟨by decide +kernel, rfl⟩
set_option maxRecDepth 20000 in
theorem dX11_put_36 : decode cX11_put 36 = .ok (.iload_n 1, 1) ∧ 36 + 1 = 37 := ⟨by decide +kernel, rfl⟩
set_option maxRecDepth 20000 in
theorem dX11_put_37 : decode cX11_put 37 = .ok (.iload_n 2, 1) ∧ 37 + 1 = 38 := ⟨by decide +kernel, rfl⟩
set_option maxRecDepth 20000 in
theorem dX11_put_38 : decode cX11_put 38 = .ok (.invokevirtual 115, 3) ∧ 38 + 3 = 41 := ⟨by decide +kernel, rfl⟩
set_option maxRecDepth 20000 in
theorem dX11_put_41 : decode cX11_put 41 = .ok (.istore 4, 2) ∧ 41 + 2 = 43 := ⟨by decide +kernel, rfl⟩
set_option maxRecDepth 20000 in
theorem dX11_put_43 : decode cX11_put 43 = .ok (.aload_n 0, 1) ∧ 43 + 1 = 44 := ⟨by decide +kernel, rfl⟩
set_option maxRecDepth 20000 in
theorem dX11_put_44 : decode cX11_put 44 = .ok (.getfield 10, 3) ∧ 44 + 3 = 47 := ⟨by decide +kernel, rfl⟩
set_option maxRecDepth 20000 in
theorem dX11_put_47 : decode cX11_put 47 = .ok (.iload_n 1, 1) ∧ 47 + 1 = 48 := ⟨by decide +kernel, rfl⟩
set_option maxRecDepth 20000 in
theorem dX11_put_48 : decode cX11_put 48 = .ok (.iload_n 2, 1) ∧ 48 + 1 = 49 := ⟨by decide +kernel, rfl⟩
set_option maxRecDepth 20000 in
theorem dX11_put_49 : decode cX11_put 49 = .ok (.iload_n 3, 1) ∧ 49 + 1 = 50 := ⟨by decide +kernel, rfl⟩
set_option maxRecDepth 20000 in
theorem dX11_put_50 : decode cX11_put 50 = .ok (.invokevirtual 104, 3) ∧ 50 + 3 = 53 := ⟨by decide +kernel, rfl⟩
set_option maxRecDepth 20000 in
theorem dX11_put_53 : decode cX11_put 53 = .ok (.aload_n 0, 1) ∧ 53 + 1 = 54 := ⟨by decide +kernel, rfl⟩
set_option maxRecDepth 20000 in
theorem dX11_put_54 : decode cX11_put 54 = .ok (.iload 4, 2) ∧ 54 + 2 = 56 := ⟨by decide +kernel, rfl⟩
set_option maxRecDepth 20000 in
theorem dX11_put_56 : decode cX11_put 56 = .ok (.invokevirtual 108, 3) ∧ 56 + 3 = 59 := ⟨by decide +kernel, rfl⟩
set_option maxRecDepth 20000 in
theorem dX11_put_59 : decode cX11_put 59 = .ok (.ireturn, 1) := by decide +kernel
set_option maxRecDepth 20000 in
theorem dX11_of_0 : decode cX11_of 0 = .ok (.aload_n 0, 1) ∧ 0 + 1 = 1 := ⟨by decide +kernel, rfl⟩
set_option maxRecDepth 20000 in
theorem dX11_of_1 : decode cX11_of 1 = .ok (.getfield 10, 3) ∧ 1 + 3 = 4 := ⟨by decide +kernel, rfl⟩
set_option maxRecDepth 20000 in
theorem dX11_of_4 : decode cX11_of 4 = .ok (.iload_n 1, 1) ∧ 4 + 1 = 5 := ⟨by decide +kernel, rfl⟩
set_option maxRecDepth 20000 in
theorem dX11_of_5 : decode cX11_of 5 = .ok (.invokevirtual 111, 3) ∧ 5 + 3 = 8 := ⟨by decide +kernel, rfl⟩
set_option maxRecDepth 20000 in
theorem dX11_of_8 : decode cX11_of 8 = .ok (.ifCond .eq 13, 3) ∧ 8 + 3 = 11 ∧ ((8 : Nat) : Int) + (13) = ((21 : Nat) : Int) := ⟨by decide +kernel, rfl, by decide⟩
set_option maxRecDepth 20000 in
theorem dX11_of_11 : decode cX11_of 11 = .ok (.iload_n 2, 1) ∧ 11 + 1 = 12 := ⟨by decide +kernel, rfl⟩
set_option maxRecDepth 20000 in
theorem dX11_of_12 : decode cX11_of 12 = .ok (.ifCond .lt 9, 3) ∧ 12 + 3 = 15 ∧ ((12 : Nat) : Int) + (9) = ((21 : Nat) : Int) := ⟨by decide +kernel, rfl, by decide⟩
set_option maxRecDepth 20000 in
theorem dX11_of_15 : decode cX11_of 15 = .ok (.iload_n 2, 1) ∧ 15 + 1 = 16 := ⟨by decide +kernel, rfl⟩
set_option maxRecDepth 20000 in
theorem dX11_of_16 : decode cX11_of 16 = .ok (.bipush 6, 2) ∧ 16 + 2 = 18 := ⟨by decide +kernel, rfl⟩
set_option maxRecDepth 20000 in
theorem dX11_of_18 : decode cX11_of 18 = .ok (.if_icmp .lt 5, 3) ∧ 18 + 3 = 21 ∧ ((18 : Nat) : Int) + (5) = ((23 : Nat) : Int) := ⟨by decide +kernel, rfl, by decide⟩
set_option maxRecDepth 20000 in
theorem dX11_of_21 : decode cX11_of 21 = .ok (.iconst (-1), 1) ∧ 21 + 1 = 22 := ⟨by decide +kernel, rfl⟩
set_option maxRecDepth 20000 in
theorem dX11_of_22 : decode cX11_of 22 = .ok (.ireturn, 1) := by decide +kernel
set_option maxRecDepth 20000 in
theorem dX11_of_23 : decode cX11_of 23 = .ok (.aload_n 0, 1) ∧ 23 + 1 = 24 := ⟨by decide +kernel, rfl⟩
set_option maxRecDepth 20000 in
theorem dX11_of_24 : decode cX11_of 24 = .ok (.getfield 10, 3) ∧ 24 + 3 = 27 := ⟨by decide +kernel, rfl⟩
set_option maxRecDepth 20000 in
theorem dX11_of_27 : decode cX11_of 27 = .ok (.iload_n 1, 1) ∧ 27 + 1 = 28 := ⟨by decide +kernel, rfl⟩
set_option maxRecDepth 20000 in
theorem dX11_of_28 : decode cX11_of 28 = .ok (.iload_n 2, 1) ∧ 28 + 1 = 29 := ⟨by decide +kernel, rfl⟩
set_option maxRecDepth 20000 in
theorem dX11_of_29 : decode cX11_of 29 = .ok (.invokevirtual 115, 3) ∧ 29 + 3 = 32 := ⟨by decide +kernel, rfl⟩
set_option maxRecDepth 20000 in
theorem dX11_of_32 : decode cX11_of 32 = .ok (.ireturn, 1) := by decide +kernel
set_option maxRecDepth 20000 in
theorem dX11_meal_0 : decode cX11_meal 0 = .ok (.iload_n 2, 1) ∧ 0 + 1 = 1 := ⟨by decide +kernel, rfl⟩
set_option maxRecDepth 20000 in
theorem dX11_meal_1 : decode cX11_meal 1 = .ok (.invokestatic 119, 3) ∧ 1 + 3 = 4 := ⟨by decide +kernel, rfl⟩
set_option maxRecDepth 20000 in
theorem dX11_meal_4 : decode cX11_meal 4 = .ok (.ifCond .ne 9, 3) ∧ 4 + 3 = 7 ∧ ((4 : Nat) : Int) + (9) = ((13 : Nat) : Int) := ⟨by decide +kernel, rfl, by decide⟩
set_option maxRecDepth 20000 in
theorem dX11_meal_7 : decode cX11_meal 7 = .ok (.aload_n 0, 1) ∧ 7 + 1 = 8 := ⟨by decide +kernel, rfl⟩
set_option maxRecDepth 20000 in
theorem dX11_meal_8 : decode cX11_meal 8 = .ok (.iconst (-1), 1) ∧ 8 + 1 = 9 := ⟨by decide +kernel, rfl⟩
set_option maxRecDepth 20000 in
theorem dX11_meal_9 : decode cX11_meal 9 = .ok (.invokevirtual 97, 3) ∧ 9 + 3 = 12 := ⟨by decide +kernel, rfl⟩
set_option maxRecDepth 20000 in
theorem dX11_meal_12 : decode cX11_meal 12 = .ok (.ireturn, 1) := by decide +kernel
set_option maxRecDepth 20000 in
theorem dX11_meal_13 : decode cX11_meal 13 = .ok (.aload_n 0, 1) ∧ 13 + 1 = 14 := ⟨by decide +kernel, rfl⟩
set_option maxRecDepth 20000 in
theorem dX11_meal_14 : decode cX11_meal 14 = .ok (.getfield 10, 3) ∧ 14 + 3 = 17 := ⟨by decide +kernel, rfl⟩
set_option maxRecDepth 20000 in
theorem dX11_meal_17 : decode cX11_meal 17 = .ok (.iload_n 1, 1) ∧ 17 + 1 = 18 := ⟨by decide +kernel, rfl⟩
set_option maxRecDepth 20000 in
theorem dX11_meal_18 : decode cX11_meal 18 = .ok (.invokevirtual 111, 3) ∧ 18 + 3 = 21 := ⟨by decide +kernel, rfl⟩
set_option maxRecDepth 20000 in
theorem dX11_meal_21 : decode cX11_meal 21 = .ok (.ifCond .ne 10, 3) ∧ 21 + 3 = 24 ∧ ((21 : Nat) : Int) + (10) = ((31 : Nat) : Int) := ⟨by decide +kernel, rfl, by decide⟩
set_option maxRecDepth 20000 in
theorem dX11_meal_24 : decode cX11_meal 24 = .ok (.aload_n 0, 1) ∧ 24 + 1 = 25 := ⟨by decide +kernel, rfl⟩
set_option maxRecDepth 20000 in
theorem dX11_meal_25 : decode cX11_meal 25 = .ok (.bipush (-2), 2) ∧ 25 + 2 = 27 := ⟨by decide +kernel, rfl⟩
set_option maxRecDepth 20000 in
theorem dX11_meal_27 : decode cX11_meal 27 = .ok (.invokevirtual 97, 3) ∧ 27 + 3 = 30 := ⟨by decide +kernel, rfl⟩
set_option maxRecDepth 20000 in
theorem dX11_meal_30 : decode cX11_meal 30 = .ok (.ireturn, 1) := by decide +kernel
set_option maxRecDepth 20000 in
theorem dX11_meal_31 : decode cX11_meal 31 = .ok (.aload_n 0, 1) ∧ 31 + 1 = 32 := ⟨by decide +kernel, rfl⟩
set_option maxRecDepth 20000 in
theorem dX11_meal_32 : decode cX11_meal 32 = .ok (.getfield 10, 3) ∧ 32 + 3 = 35 := ⟨by decide +kernel, rfl⟩
set_option maxRecDepth 20000 in
theorem dX11_meal_35 : decode cX11_meal 35 = .ok (.getfield 122, 3) ∧ 35 + 3 = 38 := ⟨by decide +kernel, rfl⟩
set_option maxRecDepth 20000 in
theorem dX11_meal_38 : decode cX11_meal 38 = .ok (.bipush 24, 2) ∧ 38 + 2 = 40 := ⟨by decide +kernel, rfl⟩
set_option maxRecDepth 20000 in
theorem dX11_meal_40 : decode cX11_meal 40 = .ok (.if_icmp .lt 10, 3) ∧ 40 + 3 = 43 ∧ ((40 : Nat) : Int) + (10) = ((50 : Nat) : Int) := ⟨by decide +kernel, rfl, by decide⟩
set_option maxRecDepth 20000 in
theorem dX11_meal_43 : decode cX11_meal 43 = .ok (.aload_n 0, 1) ∧ 43 + 1 = 44 := ⟨by decide +kernel, rfl⟩
set_option maxRecDepth 20000 in
theorem dX11_meal_44 : decode cX11_meal 44 = .ok (.bipush (-5), 2) ∧ 44 + 2 = 46 := ⟨by decide +kernel, rfl⟩
set_option maxRecDepth 20000 in
theorem dX11_meal_46 : decode cX11_meal 46 = .ok (.invokevirtual 97, 3) ∧ 46 + 3 = 49 := ⟨by decide +kernel, rfl⟩
set_option maxRecDepth 20000 in
theorem dX11_meal_49 : decode cX11_meal 49 = .ok (.ireturn, 1) := by decide +kernel
set_option maxRecDepth 20000 in
theorem dX11_meal_50 : decode cX11_meal 50 = .ok (.aload_n 0, 1) ∧ 50 + 1 = 51 := ⟨by decide +kernel, rfl⟩
set_option maxRecDepth 20000 in
theorem dX11_meal_51 : decode cX11_meal 51 = .ok (.getfield 10, 3) ∧ 51 + 3 = 54 := ⟨by decide +kernel, rfl⟩
set_option maxRecDepth 20000 in
theorem dX11_meal_54 : decode cX11_meal 54 = .ok (.getfield 125, 3) ∧ 54 + 3 = 57 := ⟨by decide +kernel, rfl⟩
set_option maxRecDepth 20000 in
theorem dX11_meal_57 : decode cX11_meal 57 = .ok (.iload_n 1, 1) ∧ 57 + 1 = 58 := ⟨by decide +kernel, rfl⟩
set_option maxRecDepth 20000 in
theorem dX11_meal_58 : decode cX11_meal 58 = .ok (.dup2, 1) ∧ 58 + 1 = 59 := ⟨by decide +kernel, rfl⟩
set_option maxRecDepth 20000 in
theorem dX11_meal_59 : decode cX11_meal 59 = .ok (.iaload, 1) ∧ 59 + 1 = 60 := ⟨by decide +kernel, rfl⟩
set_option maxRecDepth 20000 in
theorem dX11_meal_60 : decode cX11_meal 60 = .ok (.iconst 1, 1) ∧ 60 + 1 = 61 := ⟨by decide +kernel, rfl⟩
set_option maxRecDepth 20000 in
theorem dX11_meal_61 : decode cX11_meal 61 = .ok (.iload_n 2, 1) ∧ 61 + 1 = 62 := ⟨by decide +kernel, rfl⟩
set_option maxRecDepth 20000 in
theorem dX11_meal_62 : decode cX11_meal 62 = .ok (.ishl, 1) ∧ 62 + 1 = 63 := ⟨by decide +kernel, rfl⟩
set_option maxRecDepth 20000 in
theorem dX11_meal_63 : decode cX11_meal 63 = .ok (.ior, 1) ∧ 63 + 1 = 64 := ⟨by decide +kernel, rfl⟩
set_option maxRecDepth 20000 in
theorem dX11_meal_64 : decode cX11_meal 64 = .ok (.iastore, 1) ∧ 64 + 1 = 65 := ⟨by decide +kernel, rfl⟩
set_option maxRecDepth 20000 in
theorem dX11_meal_65 : decode cX11_meal 65 = .ok (.aload_n 0, 1) ∧ 65 + 1 = 66 := ⟨by decide +kernel, rfl⟩
set_option maxRecDepth 20000 in
theorem dX11_meal_66 : decode cX11_meal 66 = .ok (.getfield 10, 3) ∧ 66 + 3 = 69 := ⟨by decide +kernel, rfl⟩
set_option maxRecDepth 20000 in
theorem dX11_meal_69 : decode cX11_meal 69 = .ok (.dup, 1) ∧ 69 + 1 = 70 := ⟨by decide +kernel, rfl⟩
set_option maxRecDepth 20000 in
theorem dX11_meal_70 : decode cX11_meal 70 = .ok (.getfield 122, 3) ∧ 70 + 3 = 73 := ⟨by decide +kernel, rfl⟩
set_option maxRecDepth 20000 in
theorem dX11_meal_73 : decode cX11_meal 73 = .ok (.iconst 1, 1) ∧ 73 + 1 = 74 := ⟨by decide +kernel, rfl⟩
set_option maxRecDepth 20000 in
theorem dX11_meal_74 : decode cX11_meal 74 = .ok (.iadd, 1) ∧ 74 + 1 = 75 := ⟨by decide +kernel, rfl⟩
set_option maxRecDepth 20000 in
theorem dX11_meal_75 : decode cX11_meal 75 = .ok (.putfield 122, 3) ∧ 75 + 3 = 78 := ⟨by decide +kernel, rfl⟩
set_option maxRecDepth 20000 in
theorem dX11_meal_78 : decode cX11_meal 78 = .ok (.aload_n 0, 1) ∧ 78 + 1 = 79 := ⟨by decide +kernel, rfl⟩
set_option maxRecDepth 20000 in
theorem dX11_meal_79 : decode cX11_meal 79 = .ok (.aload_n 0, 1) ∧ 79 + 1 = 80 := ⟨by decide +kernel, rfl⟩
set_option maxRecDepth 20000 in
theorem dX11_meal_80 : decode cX11_meal 80 = .ok (.getfield 10, 3) ∧ 80 + 3 = 83 := ⟨by decide +kernel, rfl⟩
set_option maxRecDepth 20000 in
theorem dX11_meal_83 : decode cX11_meal 83 = .ok (.getfield 122, 3) ∧ 83 + 3 = 86 := ⟨by decide +kernel, rfl⟩
set_option maxRecDepth 20000 in
theorem dX11_meal_86 : decode cX11_meal 86 = .ok (.invokevirtual 108, 3) ∧ 86 + 3 = 89 := ⟨by decide +kernel, rfl⟩
set_option maxRecDepth 20000 in
theorem dX11_meal_89 : decode cX11_meal 89 = .ok (.ireturn, 1) := by decide +kernel
set_option maxRecDepth 20000 in
theorem dX11_fast_0 : decode cX11_fast 0 = .ok (.aload_n 0, 1) ∧ 0 + 1 = 1 := ⟨by decide +kernel, rfl⟩
set_option maxRecDepth 20000 in
theorem dX11_fast_1 : decode cX11_fast 1 = .ok (.getfield 10, 3) ∧ 1 + 3 = 4 := ⟨by decide +kernel, rfl⟩
set_option maxRecDepth 20000 in
theorem dX11_fast_4 : decode cX11_fast 4 = .ok (.getfield 122, 3) ∧ 4 + 3 = 7 := ⟨by decide +kernel, rfl⟩
set_option maxRecDepth 20000 in
theorem dX11_fast_7 : decode cX11_fast 7 = .ok (.istore_n 1, 1) ∧ 7 + 1 = 8 := ⟨by decide +kernel, rfl⟩
set_option maxRecDepth 20000 in
theorem dX11_fast_8 : decode cX11_fast 8 = .ok (.aload_n 0, 1) ∧ 8 + 1 = 9 := ⟨by decide +kernel, rfl⟩
set_option maxRecDepth 20000 in
theorem dX11_fast_9 : decode cX11_fast 9 = .ok (.getfield 10, 3) ∧ 9 + 3 = 12 := ⟨by decide +kernel, rfl⟩
set_option maxRecDepth 20000 in
theorem dX11_fast_12 : decode cX11_fast 12 = .ok (.iconst 0, 1) ∧ 12 + 1 = 13 := ⟨by decide +kernel, rfl⟩
set_option maxRecDepth 20000 in
theorem dX11_fast_13 : decode cX11_fast 13 = .ok (.putfield 122, 3) ∧ 13 + 3 = 16 := ⟨by decide +kernel, rfl⟩
set_option maxRecDepth 20000 in
theorem dX11_fast_16 : decode cX11_fast 16 = .ok (.aload_n 0, 1) ∧ 16 + 1 = 17 := ⟨by decide +kernel, rfl⟩
set_option maxRecDepth 20000 in
theorem dX11_fast_17 : decode cX11_fast 17 = .ok (.getfield 10, 3) ∧ 17 + 3 = 20 := ⟨by decide +kernel, rfl⟩
set_option maxRecDepth 20000 in
theorem dX11_fast_20 : decode cX11_fast 20 = .ok (.getfield 125, 3) ∧ 20 + 3 = 23 := ⟨by decide +kernel, rfl⟩
set_option maxRecDepth 20000 in
theorem dX11_fast_23 : decode cX11_fast 23 = .ok (.iconst 0, 1) ∧ 23 + 1 = 24 := ⟨by decide +kernel, rfl⟩
set_option maxRecDepth 20000 in
theorem dX11_fast_24 : decode cX11_fast 24 = .ok (.invokestatic 128, 3) ∧ 24 + 3 = 27 := ⟨by decide +kernel, rfl⟩
set_option maxRecDepth 20000 in
theorem dX11_fast_27 : decode cX11_fast 27 = .ok (.aload_n 0, 1) ∧ 27 + 1 = 28 := ⟨by decide +kernel, rfl⟩
set_option maxRecDepth 20000 in
theorem dX11_fast_28 : decode cX11_fast 28 = .ok (.getfield 57, 3) ∧ 28 + 3 = 31 := ⟨by decide +kernel, rfl⟩
set_option maxRecDepth 20000 in
theorem dX11_fast_31 : decode cX11_fast 31 = .ok (.invokevirtual 134, 3) ∧ 31 + 3 = 34 := ⟨by decide +kernel, rfl⟩
set_option maxRecDepth 20000 in
theorem dX11_fast_34 : decode cX11_fast 34 = .ok (.iload_n 1, 1) ∧ 34 + 1 = 35 := ⟨by decide +kernel, rfl⟩
set_option maxRecDepth 20000 in
theorem dX11_fast_35 : decode cX11_fast 35 = .ok (.ireturn, 1) := by decide +kernel
set_option maxRecDepth 20000 in
theorem dX11_hunger_0 : decode cX11_hunger 0 = .ok (.aload_n 0, 1) ∧ 0 + 1 = 1 := ⟨by decide +kernel, rfl⟩
set_option maxRecDepth 20000 in
theorem dX11_hunger_1 : decode cX11_hunger 1 = .ok (.getfield 10, 3) ∧ 1 + 3 = 4 := ⟨by decide +kernel, rfl⟩
set_option maxRecDepth 20000 in
theorem dX11_hunger_4 : decode cX11_hunger 4 = .ok (.iload_n 1, 1) ∧ 4 + 1 = 5 := ⟨by decide +kernel, rfl⟩
set_option maxRecDepth 20000 in
theorem dX11_hunger_5 : decode cX11_hunger 5 = .ok (.invokevirtual 111, 3) ∧ 5 + 3 = 8 := ⟨by decide +kernel, rfl⟩
set_option maxRecDepth 20000 in
theorem dX11_hunger_8 : decode cX11_hunger 8 = .ok (.ifCond .eq 10, 3) ∧ 8 + 3 = 11 ∧ ((8 : Nat) : Int) + (10) = ((18 : Nat) : Int) := ⟨by decide +kernel, rfl, by decide⟩
set_option maxRecDepth 20000 in
theorem dX11_hunger_11 : decode cX11_hunger 11 = .ok (.iload_n 2, 1) ∧ 11 + 1 = 12 := ⟨by decide +kernel, rfl⟩
set_option maxRecDepth 20000 in
theorem dX11_hunger_12 : decode cX11_hunger 12 = .ok (.invokestatic 119, 3) ∧ 12 + 3 = 15 := ⟨by decide +kernel, rfl⟩
set_option maxRecDepth 20000 in
theorem dX11_hunger_15 : decode cX11_hunger 15 = .ok (.ifCond .ne 5, 3) ∧ 15 + 3 = 18 ∧ ((15 : Nat) : Int) + (5) = ((20 : Nat) : Int) := ⟨by decide +kernel, rfl, by decide⟩
set_option maxRecDepth 20000 in
theorem dX11_hunger_18 : decode cX11_hunger 18 = .ok (.iconst (-1), 1) ∧ 18 + 1 = 19 := ⟨by decide +kernel, rfl⟩
set_option maxRecDepth 20000 in
theorem dX11_hunger_19 : decode cX11_hunger 19 = .ok (.ireturn, 1) := by decide +kernel
set_option maxRecDepth 20000 in
theorem dX11_hunger_20 : decode cX11_hunger 20 = .ok (.aload_n 0, 1) ∧ 20 + 1 = 21 := ⟨by decide +kernel, rfl⟩
set_option maxRecDepth 20000 in
theorem dX11_hunger_21 : decode cX11_hunger 21 = .ok (.getfield 10, 3) ∧ 21 + 3 = 24 := ⟨by decide +kernel, rfl⟩
set_option maxRecDepth 20000 in
theorem dX11_hunger_24 : decode cX11_hunger 24 = .ok (.iload_n 1, 1) ∧ 24 + 1 = 25 := ⟨by decide +kernel, rfl⟩
set_option maxRecDepth 20000 in
theorem dX11_hunger_25 : decode cX11_hunger 25 = .ok (.iload_n 2, 1) ∧ 25 + 1 = 26 := ⟨by decide +kernel, rfl⟩
set_option maxRecDepth 20000 in
theorem dX11_hunger_26 : decode cX11_hunger 26 = .ok (.invokevirtual 137, 3) ∧ 26 + 3 = 29 := ⟨by decide +kernel, rfl⟩
set_option maxRecDepth 20000 in
theorem dX11_hunger_29 : decode cX11_hunger 29 = .ok (.ireturn, 1) := by decide +kernel
set_option maxRecDepth 20000 in
theorem dX11_bench_0 : decode cX11_bench 0 = .ok (.iload_n 1, 1) ∧ 0 + 1 = 1 := ⟨by decide +kernel, rfl⟩
set_option maxRecDepth 20000 in
theorem dX11_bench_1 : decode cX11_bench 1 = .ok (.ifCond .lt 16, 3) ∧ 1 + 3 = 4 ∧ ((1 : Nat) : Int) + (16) = ((17 : Nat) : Int) := ⟨by decide +kernel, rfl, by decide⟩
set_option maxRecDepth 20000 in
theorem dX11_bench_4 : decode cX11_bench 4 = .ok (.iload_n 1, 1) ∧ 4 + 1 = 5 := ⟨by decide +kernel, rfl⟩
set_option maxRecDepth 20000 in
theorem dX11_bench_5 : decode cX11_bench 5 = .ok (.iconst 1, 1) ∧ 5 + 1 = 6 := ⟨by decide +kernel, rfl⟩
set_option maxRecDepth 20000 in
theorem dX11_bench_6 : decode cX11_bench 6 = .ok (.aload_n 0, 1) ∧ 6 + 1 = 7 := ⟨by decide +kernel, rfl⟩
set_option maxRecDepth 20000 in
theorem dX11_bench_7 : decode cX11_bench 7 = .ok (.getfield 10, 3) ∧ 7 + 3 = 10 := ⟨by decide +kernel, rfl⟩
set_option maxRecDepth 20000 in
theorem dX11_bench_10 : decode cX11_bench 10 = .ok (.getfield 101, 3) ∧ 10 + 3 = 13 := ⟨by decide +kernel, rfl⟩
set_option maxRecDepth 20000 in
theorem dX11_bench_13 : decode cX11_bench 13 = .ok (.ishl, 1) ∧ 13 + 1 = 14 := ⟨by decide +kernel, rfl⟩
set_option maxRecDepth 20000 in
theorem dX11_bench_14 : decode cX11_bench 14 = .ok (.if_icmp .lt 9, 3) ∧ 14 + 3 = 17 ∧ ((14 : Nat) : Int) + (9) = ((23 : Nat) : Int) := ⟨by decide +kernel, rfl, by decide⟩
set_option maxRecDepth 20000 in
theorem dX11_bench_17 : decode cX11_bench 17 = .ok (.aload_n 0, 1) ∧ 17 + 1 = 18 := ⟨by decide +kernel, rfl⟩
set_option maxRecDepth 20000 in
theorem dX11_bench_18 : decode cX11_bench 18 = .ok (.iconst (-1), 1) ∧ 18 + 1 = 19 := ⟨by decide +kernel, rfl⟩
set_option maxRecDepth 20000 in
theorem dX11_bench_19 : decode cX11_bench 19 = .ok (.invokevirtual 97, 3) ∧ 19 + 3 = 22 := ⟨by decide +kernel, rfl⟩
set_option maxRecDepth 20000 in
theorem dX11_bench_22 : decode cX11_bench 22 = .ok (.ireturn, 1) := by decide +kernel
set_option maxRecDepth 20000 in
theorem dX11_bench_23 : decode cX11_bench 23 = .ok (.aload_n 0, 1) ∧ 23 + 1 = 24 := ⟨by decide +kernel, rfl⟩
set_option maxRecDepth 20000 in
theorem dX11_bench_24 : decode cX11_bench 24 = .ok (.getfield 10, 3) ∧ 24 + 3 = 27 := ⟨by decide +kernel, rfl⟩
set_option maxRecDepth 20000 in
theorem dX11_bench_27 : decode cX11_bench 27 = .ok (.getfield 140, 3) ∧ 27 + 3 = 30 := ⟨by decide +kernel, rfl⟩
set_option maxRecDepth 20000 in
theorem dX11_bench_30 : decode cX11_bench 30 = .ok (.istore_n 2, 1) ∧ 30 + 1 = 31 := ⟨by decide +kernel, rfl⟩
set_option maxRecDepth 20000 in
theorem dX11_bench_31 : decode cX11_bench 31 = .ok (.aload_n 0, 1) ∧ 31 + 1 = 32 := ⟨by decide +kernel, rfl⟩
set_option maxRecDepth 20000 in
theorem dX11_bench_32 : decode cX11_bench 32 = .ok (.getfield 10, 3) ∧ 32 + 3 = 35 := ⟨by decide +kernel, rfl⟩
set_option maxRecDepth 20000 in
theorem dX11_bench_35 : decode cX11_bench 35 = .ok (.iload_n 1, 1) ∧ 35 + 1 = 36 := ⟨by decide +kernel, rfl⟩
set_option maxRecDepth 20000 in
theorem dX11_bench_36 : decode cX11_bench 36 = .ok (.putfield 140, 3) ∧ 36 + 3 = 39 := ⟨by decide +kernel, rfl⟩
set_option maxRecDepth 20000 in
theorem dX11_bench_39 : decode cX11_bench 39 = .ok (.aload_n 0, 1) ∧ 39 + 1 = 40 := ⟨by decide +kernel, rfl⟩
set_option maxRecDepth 20000 in
theorem dX11_bench_40 : decode cX11_bench 40 = .ok (.iload_n 2, 1) ∧ 40 + 1 = 41 := ⟨by decide +kernel, rfl⟩
set_option maxRecDepth 20000 in
theorem dX11_bench_41 : decode cX11_bench 41 = .ok (.invokevirtual 108, 3) ∧ 41 + 3 = 44 := ⟨by decide +kernel, rfl⟩
set_option maxRecDepth 20000 in
theorem dX11_bench_44 : decode cX11_bench 44 = .ok (.ireturn, 1) := by decide +kernel
set_option maxRecDepth 20000 in
theorem dX11_terms_0 : decode cX11_terms 0 = .ok (.iload_n 1, 1) ∧ 0 + 1 = 1 := ⟨by decide +kernel, rfl⟩
set_option maxRecDepth 20000 in
theorem dX11_terms_1 : decode cX11_terms 1 = .ok (.ifCond .lt 27, 3) ∧ 1 + 3 = 4 ∧ ((1 : Nat) : Int) + (27) = ((28 : Nat) : Int) := ⟨by decide +kernel, rfl, by decide⟩
set_option maxRecDepth 20000 in
theorem dX11_terms_4 : decode cX11_terms 4 = .ok (.iload_n 1, 1) ∧ 4 + 1 = 5 := ⟨by decide +kernel, rfl⟩
set_option maxRecDepth 20000 in
theorem dX11_terms_5 : decode cX11_terms 5 = .ok (.bipush 6, 2) ∧ 5 + 2 = 7 := ⟨by decide +kernel, rfl⟩
set_option maxRecDepth 20000 in
theorem dX11_terms_7 : decode cX11_terms 7 = .ok (.if_icmp .ge 21, 3) ∧ 7 + 3 = 10 ∧ ((7 : Nat) : Int) + (21) = ((28 : Nat) : Int) := ⟨by decide +kernel, rfl, by decide⟩
set_option maxRecDepth 20000 in
theorem dX11_terms_10 : decode cX11_terms 10 = .ok (.iload_n 2, 1) ∧ 10 + 1 = 11 := ⟨by decide +kernel, rfl⟩
set_option maxRecDepth 20000 in
theorem dX11_terms_11 : decode cX11_terms 11 = .ok (.getstatic 143, 3) ∧ 11 + 3 = 14 := ⟨by decide +kernel, rfl⟩
set_option maxRecDepth 20000 in
theorem dX11_terms_14 : decode cX11_terms 14 = .ok (.iload_n 1, 1) ∧ 14 + 1 = 15 := ⟨by decide +kernel, rfl⟩
set_option maxRecDepth 20000 in
theorem dX11_terms_15 : decode cX11_terms 15 = .ok (.iaload, 1) ∧ 15 + 1 = 16 := ⟨by decide +kernel, rfl⟩
set_option maxRecDepth 20000 in
theorem dX11_terms_16 : decode cX11_terms 16 = .ok (.if_icmp .lt 12, 3) ∧ 16 + 3 = 19 ∧ ((16 : Nat) : Int) + (12) = ((28 : Nat) : Int) := ⟨by decide +kernel, rfl, by decide⟩
set_option maxRecDepth 20000 in
theorem dX11_terms_19 : decode cX11_terms 19 = .ok (.iload_n 2, 1) ∧ 19 + 1 = 20 := ⟨by decide +kernel, rfl⟩
set_option maxRecDepth 20000 in
theorem dX11_terms_20 : decode cX11_terms 20 = .ok (.getstatic 146, 3) ∧ 20 + 3 = 23 := ⟨by decide +kernel, rfl⟩
set_option maxRecDepth 20000 in
theorem dX11_terms_23 : decode cX11_terms 23 = .ok (.iload_n 1, 1) ∧ 23 + 1 = 24 := ⟨by decide +kernel, rfl⟩
set_option maxRecDepth 20000 in
theorem dX11_terms_24 : decode cX11_terms 24 = .ok (.iaload, 1) ∧ 24 + 1 = 25 := ⟨by decide +kernel, rfl⟩
set_option maxRecDepth 20000 in
theorem dX11_terms_25 : decode cX11_terms 25 = .ok (.if_icmp .le 9, 3) ∧ 25 + 3 = 28 ∧ ((25 : Nat) : Int) + (9) = ((34 : Nat) : Int) := ⟨by decide +kernel, rfl, by decide⟩
set_option maxRecDepth 20000 in
theorem dX11_terms_28 : decode cX11_terms 28 = .ok (.aload_n 0, 1) ∧ 28 + 1 = 29 := ⟨by decide +kernel, rfl⟩
set_option maxRecDepth 20000 in
theorem dX11_terms_29 : decode cX11_terms 29 = .ok (.iconst (-1), 1) ∧ 29 + 1 = 30 := ⟨by decide +kernel, rfl⟩
set_option maxRecDepth 20000 in
theorem dX11_terms_30 : decode cX11_terms 30 = .ok (.invokevirtual 97, 3) ∧ 30 + 3 = 33 := ⟨by decide +kernel, rfl⟩
set_option maxRecDepth 20000 in
theorem dX11_terms_33 : decode cX11_terms 33 = .ok (.ireturn, 1) := by decide +kernel
set_option maxRecDepth 20000 in
theorem dX11_terms_34 : decode cX11_terms 34 = .ok (.aload_n 0, 1) ∧ 34 + 1 = 35 := ⟨by decide +kernel, rfl⟩
set_option maxRecDepth 20000 in
theorem dX11_terms_35 : decode cX11_terms 35 = .ok (.getfield 10, 3) ∧ 35 + 3 = 38 := ⟨by decide +kernel, rfl⟩
set_option maxRecDepth 20000 in
theorem dX11_terms_38 : decode cX11_terms 38 = .ok (.getfield 149, 3) ∧ 38 + 3 = 41 := ⟨by decide +kernel, rfl⟩
set_option maxRecDepth 20000 in
theorem dX11_terms_41 : decode cX11_terms 41 = .ok (.iload_n 1, 1) ∧ 41 + 1 = 42 := ⟨by decide +kernel, rfl⟩
set_option maxRecDepth 20000 in
theorem dX11_terms_42 : decode cX11_terms 42 = .ok (.iaload, 1) ∧ 42 + 1 = 43 := ⟨by decide +kernel, rfl⟩
set_option maxRecDepth 20000 in
theorem dX11_terms_43 : decode cX11_terms 43 = .ok (.istore_n 3, 1) ∧ 43 + 1 = 44 := ⟨by decide +kernel, rfl⟩
set_option maxRecDepth 20000 in
theorem dX11_terms_44 : decode cX11_terms 44 = .ok (.aload_n 0, 1) ∧ 44 + 1 = 45 := ⟨by decide +kernel, rfl⟩
set_option maxRecDepth 20000 in
theorem dX11_terms_45 : decode cX11_terms 45 = .ok (.getfield 10, 3) ∧ 45 + 3 = 48 := ⟨by decide +kernel, rfl⟩
set_option maxRecDepth 20000 in
theorem dX11_terms_48 : decode cX11_terms 48 = .ok (.getfield 149, 3) ∧ 48 + 3 = 51 := ⟨by decide +kernel, rfl⟩
set_option maxRecDepth 20000 in
theorem dX11_terms_51 : decode cX11_terms 51 = .ok (.iload_n 1, 1) ∧ 51 + 1 = 52 := ⟨by decide +kernel, rfl⟩
set_option maxRecDepth 20000 in
theorem dX11_terms_52 : decode cX11_terms 52 = .ok (.iload_n 2, 1) ∧ 52 + 1 = 53 := ⟨by decide +kernel, rfl⟩
set_option maxRecDepth 20000 in
theorem dX11_terms_53 : decode cX11_terms 53 = .ok (.iastore, 1) ∧ 53 + 1 = 54 := ⟨by decide +kernel, rfl⟩
set_option maxRecDepth 20000 in
theorem dX11_terms_54 : decode cX11_terms 54 = .ok (.aload_n 0, 1) ∧ 54 + 1 = 55 := ⟨by decide +kernel, rfl⟩
set_option maxRecDepth 20000 in
theorem dX11_terms_55 : decode cX11_terms 55 = .ok (.iload_n 3, 1) ∧ 55 + 1 = 56 := ⟨by decide +kernel, rfl⟩
set_option maxRecDepth 20000 in
theorem dX11_terms_56 : decode cX11_terms 56 = .ok (.invokevirtual 108, 3) ∧ 56 + 3 = 59 := ⟨by decide +kernel, rfl⟩
set_option maxRecDepth 20000 in
theorem dX11_terms_59 : decode cX11_terms 59 = .ok (.ireturn, 1) := by decide +kernel
set_option maxRecDepth 20000 in
theorem dX11_feed_0 : decode cX11_feed 0 = .ok (.aload_n 0, 1) ∧ 0 + 1 = 1 := ⟨by decide +kernel, rfl⟩
set_option maxRecDepth 20000 in
theorem dX11_feed_1 : decode cX11_feed 1 = .ok (.getfield 27, 3) ∧ 1 + 3 = 4 := ⟨by decide +kernel, rfl⟩
set_option maxRecDepth 20000 in
theorem dX11_feed_4 : decode cX11_feed 4 = .ok (.getfield 152, 3) ∧ 4 + 3 = 7 := ⟨by decide +kernel, rfl⟩
set_option maxRecDepth 20000 in
theorem dX11_feed_7 : decode cX11_feed 7 = .ok (.bipush 20, 2) ∧ 7 + 2 = 9 := ⟨by decide +kernel, rfl⟩
set_option maxRecDepth 20000 in
theorem dX11_feed_9 : decode cX11_feed 9 = .ok (.iadd, 1) ∧ 9 + 1 = 10 := ⟨by decide +kernel, rfl⟩
set_option maxRecDepth 20000 in
theorem dX11_feed_10 : decode cX11_feed 10 = .ok (.sipush 400, 3) ∧ 10 + 3 = 13 := ⟨by decide +kernel, rfl⟩
set_option maxRecDepth 20000 in
theorem dX11_feed_13 : decode cX11_feed 13 = .ok (.if_icmp .le 5, 3) ∧ 13 + 3 = 16 ∧ ((13 : Nat) : Int) + (5) = ((18 : Nat) : Int) := ⟨by decide +kernel, rfl, by decide⟩
set_option maxRecDepth 20000 in
theorem dX11_feed_16 : decode cX11_feed 16 = .ok (.iconst (-1), 1) ∧ 16 + 1 = 17 := ⟨by decide +kernel, rfl⟩
set_option maxRecDepth 20000 in
theorem dX11_feed_17 : decode cX11_feed 17 = .ok (.ireturn, 1) := by decide +kernel
set_option maxRecDepth 20000 in
theorem dX11_feed_18 : decode cX11_feed 18 = .ok (.aload_n 0, 1) ∧ 18 + 1 = 19 := ⟨by decide +kernel, rfl⟩
set_option maxRecDepth 20000 in
theorem dX11_feed_19 : decode cX11_feed 19 = .ok (.getfield 27, 3) ∧ 19 + 3 = 22 := ⟨by decide +kernel, rfl⟩
set_option maxRecDepth 20000 in
theorem dX11_feed_22 : decode cX11_feed 22 = .ok (.iload_n 1, 1) ∧ 22 + 1 = 23 := ⟨by decide +kernel, rfl⟩
set_option maxRecDepth 20000 in
theorem dX11_feed_23 : decode cX11_feed 23 = .ok (.invokevirtual 155, 3) ∧ 23 + 3 = 26 := ⟨by decide +kernel, rfl⟩
set_option maxRecDepth 20000 in
theorem dX11_feed_26 : decode cX11_feed 26 = .ok (.aload_n 0, 1) ∧ 26 + 1 = 27 := ⟨by decide +kernel, rfl⟩
set_option maxRecDepth 20000 in
theorem dX11_feed_27 : decode cX11_feed 27 = .ok (.getfield 27, 3) ∧ 27 + 3 = 30 := ⟨by decide +kernel, rfl⟩
set_option maxRecDepth 20000 in
theorem dX11_feed_30 : decode cX11_feed 30 = .ok (.iload_n 2, 1) ∧ 30 + 1 = 31 := ⟨by decide +kernel, rfl⟩
set_option maxRecDepth 20000 in
theorem dX11_feed_31 : decode cX11_feed 31 = .ok (.invokevirtual 155, 3) ∧ 31 + 3 = 34 := ⟨by decide +kernel, rfl⟩
set_option maxRecDepth 20000 in
theorem dX11_feed_34 : decode cX11_feed 34 = .ok (.aload_n 0, 1) ∧ 34 + 1 = 35 := ⟨by decide +kernel, rfl⟩
set_option maxRecDepth 20000 in
theorem dX11_feed_35 : decode cX11_feed 35 = .ok (.getfield 27, 3) ∧ 35 + 3 = 38 := ⟨by decide +kernel, rfl⟩
set_option maxRecDepth 20000 in
theorem dX11_feed_38 : decode cX11_feed 38 = .ok (.iload_n 3, 1) ∧ 38 + 1 = 39 := ⟨by decide +kernel, rfl⟩
set_option maxRecDepth 20000 in
theorem dX11_feed_39 : decode cX11_feed 39 = .ok (.invokevirtual 155, 3) ∧ 39 + 3 = 42 := ⟨by decide +kernel, rfl⟩
set_option maxRecDepth 20000 in
theorem dX11_feed_42 : decode cX11_feed 42 = .ok (.aload_n 0, 1) ∧ 42 + 1 = 43 := ⟨by decide +kernel, rfl⟩
set_option maxRecDepth 20000 in
theorem dX11_feed_43 : decode cX11_feed 43 = .ok (.getfield 27, 3) ∧ 43 + 3 = 46 := ⟨by decide +kernel, rfl⟩
set_option maxRecDepth 20000 in
theorem dX11_feed_46 : decode cX11_feed 46 = .ok (.iload 4, 2) ∧ 46 + 2 = 48 := ⟨by decide +kernel, rfl⟩
set_option maxRecDepth 20000 in
theorem dX11_feed_48 : decode cX11_feed 48 = .ok (.invokevirtual 155, 3) ∧ 48 + 3 = 51 := ⟨by decide +kernel, rfl⟩
set_option maxRecDepth 20000 in
theorem dX11_feed_51 : decode cX11_feed 51 = .ok (.aload_n 0, 1) ∧ 51 + 1 = 52 := ⟨by decide +kernel, rfl⟩
set_option maxRecDepth 20000 in
theorem dX11_feed_52 : decode cX11_feed 52 = .ok (.getfield 27, 3) ∧ 52 + 3 = 55 := ⟨by decide +kernel, rfl⟩
set_option maxRecDepth 20000 in
theorem dX11_feed_55 : decode cX11_feed 55 = .ok (.iload 5, 2) ∧ 55 + 2 = 57 := ⟨by decide +kernel, rfl⟩
set_option maxRecDepth 20000 in
theorem dX11_feed_57 : decode cX11_feed 57 = .ok (.invokevirtual 155, 3) ∧ 57 + 3 = 60 := ⟨by decide +kernel, rfl⟩
set_option maxRecDepth 20000 in
theorem dX11_feed_60 : decode cX11_feed 60 = .ok (.aload_n 0, 1) ∧ 60 + 1 = 61 := ⟨by decide +kernel, rfl⟩
set_option maxRecDepth 20000 in
theorem dX11_feed_61 : decode cX11_feed 61 = .ok (.getfield 27, 3) ∧ 61 + 3 = 64 := ⟨by decide +kernel, rfl⟩
set_option maxRecDepth 20000 in
theorem dX11_feed_64 : decode cX11_feed 64 = .ok (.getfield 152, 3) ∧ 64 + 3 = 67 := ⟨by decide +kernel, rfl⟩
set_option maxRecDepth 20000 in
theorem dX11_feed_67 : decode cX11_feed 67 = .ok (.ireturn, 1) := by decide +kernel
set_option maxRecDepth 20000 in
theorem dX11_end_0 : decode cX11_end 0 = .ok (.iload_n 1, 1) ∧ 0 + 1 = 1 := ⟨by decide +kernel, rfl⟩
set_option maxRecDepth 20000 in
theorem dX11_end_1 : decode cX11_end 1 = .ok (.ifCond .lt 14, 3) ∧ 1 + 3 = 4 ∧ ((1 : Nat) : Int) + (14) = ((15 : Nat) : Int) := ⟨by decide +kernel, rfl, by decide⟩
set_option maxRecDepth 20000 in
theorem dX11_end_4 : decode cX11_end 4 = .ok (.iload_n 1, 1) ∧ 4 + 1 = 5 := ⟨by decide +kernel, rfl⟩
set_option maxRecDepth 20000 in
theorem dX11_end_5 : decode cX11_end 5 = .ok (.aload_n 0, 1) ∧ 5 + 1 = 6 := ⟨by decide +kernel, rfl⟩
set_option maxRecDepth 20000 in
theorem dX11_end_6 : decode cX11_end 6 = .ok (.getfield 27, 3) ∧ 6 + 3 = 9 := ⟨by decide +kernel, rfl⟩
set_option maxRecDepth 20000 in
theorem dX11_end_9 : decode cX11_end 9 = .ok (.getfield 152, 3) ∧ 9 + 3 = 12 := ⟨by decide +kernel, rfl⟩
set_option maxRecDepth 20000 in
theorem dX11_end_12 : decode cX11_end 12 = .ok (.if_icmp .le 5, 3) ∧ 12 + 3 = 15 ∧ ((12 : Nat) : Int) + (5) = ((17 : Nat) : Int) := ⟨by decide +kernel, rfl, by decide⟩
set_option maxRecDepth 20000 in
theorem dX11_end_15 : decode cX11_end 15 = .ok (.iconst (-1), 1) ∧ 15 + 1 = 16 := ⟨by decide +kernel, rfl⟩
set_option maxRecDepth 20000 in
theorem dX11_end_16 : decode cX11_end 16 = .ok (.ireturn, 1) := by decide +kernel
set_option maxRecDepth 20000 in
theorem dX11_end_17 : decode cX11_end 17 = .ok (.aload_n 0, 1) ∧ 17 + 1 = 18 := ⟨by decide +kernel, rfl⟩
set_option maxRecDepth 20000 in
theorem dX11_end_18 : decode cX11_end 18 = .ok (.getfield 27, 3) ∧ 18 + 3 = 21 := ⟨by decide +kernel, rfl⟩
set_option maxRecDepth 20000 in
theorem dX11_end_21 : decode cX11_end 21 = .ok (.iload_n 1, 1) ∧ 21 + 1 = 22 := ⟨by decide +kernel, rfl⟩
set_option maxRecDepth 20000 in
theorem dX11_end_22 : decode cX11_end 22 = .ok (.putfield 152, 3) ∧ 22 + 3 = 25 := ⟨by decide +kernel, rfl⟩
set_option maxRecDepth 20000 in
theorem dX11_end_25 : decode cX11_end 25 = .ok (.iload_n 1, 1) ∧ 25 + 1 = 26 := ⟨by decide +kernel, rfl⟩
set_option maxRecDepth 20000 in
theorem dX11_end_26 : decode cX11_end 26 = .ok (.ireturn, 1) := by decide +kernel
set_option maxRecDepth 20000 in
theorem dX11_row_0 : decode cX11_row 0 = .ok (.aload_n 0, 1) ∧ 0 + 1 = 1 := ⟨by decide +kernel, rfl⟩
set_option maxRecDepth 20000 in
theorem dX11_row_1 : decode cX11_row 1 = .ok (.getfield 27, 3) ∧ 1 + 3 = 4 := ⟨by decide +kernel, rfl⟩
set_option maxRecDepth 20000 in
theorem dX11_row_4 : decode cX11_row 4 = .ok (.getfield 152, 3) ∧ 4 + 3 = 7 := ⟨by decide +kernel, rfl⟩
set_option maxRecDepth 20000 in
theorem dX11_row_7 : decode cX11_row 7 = .ok (.ifCond .ne 10, 3) ∧ 7 + 3 = 10 ∧ ((7 : Nat) : Int) + (10) = ((17 : Nat) : Int) := ⟨by decide +kernel, rfl, by decide⟩
set_option maxRecDepth 20000 in
theorem dX11_row_10 : decode cX11_row 10 = .ok (.aload_n 0, 1) ∧ 10 + 1 = 11 := ⟨by decide +kernel, rfl⟩
set_option maxRecDepth 20000 in
theorem dX11_row_11 : decode cX11_row 11 = .ok (.bipush (-6), 2) ∧ 11 + 2 = 13 := ⟨by decide +kernel, rfl⟩
set_option maxRecDepth 20000 in
theorem dX11_row_13 : decode cX11_row 13 = .ok (.invokevirtual 97, 3) ∧ 13 + 3 = 16 := ⟨by decide +kernel, rfl⟩
set_option maxRecDepth 20000 in
theorem dX11_row_16 : decode cX11_row 16 = .ok (.ireturn, 1) := by decide +kernel
set_option maxRecDepth 20000 in
theorem dX11_row_17 : decode cX11_row 17 = .ok (.iconst 0, 1) ∧ 17 + 1 = 18 := ⟨by decide +kernel, rfl⟩
set_option maxRecDepth 20000 in
theorem dX11_row_18 : decode cX11_row 18 = .ok (.istore_n 1, 1) ∧ 18 + 1 = 19 := ⟨by decide +kernel, rfl⟩
set_option maxRecDepth 20000 in
theorem dX11_row_19 : decode cX11_row 19 = .ok (.aload_n 0, 1) ∧ 19 + 1 = 20 := ⟨by decide +kernel, rfl⟩
set_option maxRecDepth 20000 in
theorem dX11_row_20 : decode cX11_row 20 = .ok (.iconst 0, 1) ∧ 20 + 1 = 21 := ⟨by decide +kernel, rfl⟩
set_option maxRecDepth 20000 in
theorem dX11_row_21 : decode cX11_row 21 = .ok (.putfield 159, 3) ∧ 21 + 3 = 24 := ⟨by decide +kernel, rfl⟩
set_option maxRecDepth 20000 in
theorem dX11_row_24 : decode cX11_row 24 = .ok (.iconst 0, 1) ∧ 24 + 1 = 25 := ⟨by decide +kernel, rfl⟩
set_option maxRecDepth 20000 in
theorem dX11_row_25 : decode cX11_row 25 = .ok (.istore_n 2, 1) ∧ 25 + 1 = 26 := ⟨by decide +kernel, rfl⟩
set_option maxRecDepth 20000 in
theorem dX11_row_26 : decode cX11_row 26 = .ok (.iload_n 2, 1) ∧ 26 + 1 = 27 := ⟨by decide +kernel, rfl⟩
set_option maxRecDepth 20000 in
theorem dX11_row_27 : decode cX11_row 27 = .ok (.aload_n 0, 1) ∧ 27 + 1 = 28 := ⟨by decide +kernel, rfl⟩
set_option maxRecDepth 20000 in
theorem dX11_row_28 : decode cX11_row 28 = .ok (.getfield 27, 3) ∧ 28 + 3 = 31 := ⟨by decide +kernel, rfl⟩
set_option maxRecDepth 20000 in
theorem dX11_row_31 : decode cX11_row 31 = .ok (.getfield 152, 3) ∧ 31 + 3 = 34 := ⟨by decide +kernel, rfl⟩
set_option maxRecDepth 20000 in
theorem dX11_row_34 : decode cX11_row 34 = .ok (.if_icmp .ge 135, 3) ∧ 34 + 3 = 37 ∧ ((34 : Nat) : Int) + (135) = ((169 : Nat) : Int) := ⟨by decide +kernel, rfl, by decide⟩
set_option maxRecDepth 20000 in
theorem dX11_row_37 : decode cX11_row 37 = .ok (.iload_n 2, 1) ∧ 37 + 1 = 38 := ⟨by decide +kernel, rfl⟩
set_option maxRecDepth 20000 in
theorem dX11_row_38 : decode cX11_row 38 = .ok (.iconst 3, 1) ∧ 38 + 1 = 39 := ⟨by decide +kernel, rfl⟩
set_option maxRecDepth 20000 in
theorem dX11_row_39 : decode cX11_row 39 = .ok (.iadd, 1) ∧ 39 + 1 = 40 := ⟨by decide +kernel, rfl⟩
set_option maxRecDepth 20000 in
theorem dX11_row_40 : decode cX11_row 40 = .ok (.aload_n 0, 1) ∧ 40 + 1 = 41 := ⟨by decide +kernel, rfl⟩
set_option maxRecDepth 20000 in
theorem dX11_row_41 : decode cX11_row 41 = .ok (.getfield 27, 3) ∧ 41 + 3 = 44 := ⟨by decide +kernel, rfl⟩
set_option maxRecDepth 20000 in
theorem dX11_row_44 : decode cX11_row 44 = .ok (.getfield 152, 3) ∧ 44 + 3 = 47 := ⟨by decide +kernel, rfl⟩
set_option maxRecDepth 20000 in
theorem dX11_row_47 : decode cX11_row 47 = .ok (.if_icmp .gt 7, 3) ∧ 47 + 3 = 50 ∧ ((47 : Nat) : Int) + (7) = ((54 : Nat) : Int) := ⟨by decide +kernel, rfl, by decide⟩
set_option maxRecDepth 20000 in
theorem dX11_row_50 : decode cX11_row 50 = .ok (.iconst 1, 1) ∧ 50 + 1 = 51 := ⟨by decide +kernel, rfl⟩
set_option maxRecDepth 20000 in
theorem dX11_row_51 : decode cX11_row 51 = .ok (.goto 4, 3) ∧ ((51 : Nat) : Int) + (4) = ((55 : Nat) : Int) := ⟨by decide +kernel, by decide⟩
set_option maxRecDepth 20000 in
theorem dX11_row_54 : decode cX11_row 54 = .ok (.iconst 0, 1) ∧ 54 + 1 = 55 := ⟨by decide +kernel, rfl⟩
set_option maxRecDepth 20000 in
theorem dX11_row_55 : decode cX11_row 55 = .ok (.istore_n 3, 1) ∧ 55 + 1 = 56 := ⟨by decide +kernel, rfl⟩
set_option maxRecDepth 20000 in
theorem dX11_row_56 : decode cX11_row 56 = .ok (.iload_n 3, 1) ∧ 56 + 1 = 57 := ⟨by decide +kernel, rfl⟩
set_option maxRecDepth 20000 in
theorem dX11_row_57 : decode cX11_row 57 = .ok (.ifCond .eq 96, 3) ∧ 57 + 3 = 60 ∧ ((57 : Nat) : Int) + (96) = ((153 : Nat) : Int) := ⟨by decide +kernel, rfl, by decide⟩
set_option maxRecDepth 20000 in
theorem dX11_row_60 : decode cX11_row 60 = .ok (.aload_n 0, 1) ∧ 60 + 1 = 61 := ⟨by decide +kernel, rfl⟩
set_option maxRecDepth 20000 in
theorem dX11_row_61 : decode cX11_row 61 = .ok (.getfield 27, 3) ∧ 61 + 3 = 64 := ⟨by decide +kernel, rfl⟩
set_option maxRecDepth 20000 in
theorem dX11_row_64 : decode cX11_row 64 = .ok (.iload_n 2, 1) ∧ 64 + 1 = 65 := ⟨by decide +kernel, rfl⟩
set_option maxRecDepth 20000 in
theorem dX11_row_65 : decode cX11_row 65 = .ok (.invokevirtual 162, 3) ∧ 65 + 3 = 68 := ⟨by decide +kernel, rfl⟩
set_option maxRecDepth 20000 in
theorem dX11_row_68 : decode cX11_row 68 = .ok (.aload_n 0, 1) ∧ 68 + 1 = 69 := ⟨by decide +kernel, rfl⟩
set_option maxRecDepth 20000 in
theorem dX11_row_69 : decode cX11_row 69 = .ok (.getfield 27, 3) ∧ 69 + 3 = 72 := ⟨by decide +kernel, rfl⟩
set_option maxRecDepth 20000 in
theorem dX11_row_72 : decode cX11_row 72 = .ok (.iload_n 2, 1) ∧ 72 + 1 = 73 := ⟨by decide +kernel, rfl⟩
set_option maxRecDepth 20000 in
theorem dX11_row_73 : decode cX11_row 73 = .ok (.iconst 1, 1) ∧ 73 + 1 = 74 := ⟨by decide +kernel, rfl⟩
set_option maxRecDepth 20000 in
theorem dX11_row_74 : decode cX11_row 74 = .ok (.iadd, 1) ∧ 74 + 1 = 75 := ⟨by decide +kernel, rfl⟩
set_option maxRecDepth 20000 in
theorem dX11_row_75 : decode cX11_row 75 = .ok (.invokevirtual 162, 3) ∧ 75 + 3 = 78 := ⟨by decide +kernel, rfl⟩
set_option maxRecDepth 20000 in
theorem dX11_row_78 : decode cX11_row 78 = .ok (.aload_n 0, 1) ∧ 78 + 1 = 79 := ⟨by decide +kernel, rfl⟩
set_option maxRecDepth 20000 in
theorem dX11_row_79 : decode cX11_row 79 = .ok (.getfield 27, 3) ∧ 79 + 3 = 82 := ⟨by decide +kernel, rfl⟩
set_option maxRecDepth 20000 in
theorem dX11_row_82 : decode cX11_row 82 = .ok (.iload_n 2, 1) ∧ 82 + 1 = 83 := ⟨by decide +kernel, rfl⟩
set_option maxRecDepth 20000 in
theorem dX11_row_83 : decode cX11_row 83 = .ok (.iconst 2, 1) ∧ 83 + 1 = 84 := ⟨by decide +kernel, rfl⟩
set_option maxRecDepth 20000 in
theorem dX11_row_84 : decode cX11_row 84 = .ok (.iadd, 1) ∧ 84 + 1 = 85 := ⟨by decide +kernel, rfl⟩
set_option maxRecDepth 20000 in
theorem dX11_row_85 : decode cX11_row 85 = .ok (.invokevirtual 162, 3) ∧ 85 + 3 = 88 := ⟨by decide +kernel, rfl⟩
set_option maxRecDepth 20000 in
theorem dX11_row_88 : decode cX11_row 88 = .ok (.invokestatic 165, 3) ∧ 88 + 3 = 91 := ⟨by decide +kernel, rfl⟩
set_option maxRecDepth 20000 in
theorem dX11_row_91 : decode cX11_row 91 = .ok (.ifCond .eq 62, 3) ∧ 91 + 3 = 94 ∧ ((91 : Nat) : Int) + (62) = ((153 : Nat) : Int) := ⟨by decide +kernel, rfl, by decide⟩
set_option maxRecDepth 20000 in
theorem dX11_row_94 : decode cX11_row 94 = .ok (.aload_n 0, 1) ∧ 94 + 1 = 95 := ⟨by decide +kernel, rfl⟩
set_option maxRecDepth 20000 in
theorem dX11_row_95 : decode cX11_row 95 = .ok (.getfield 10, 3) ∧ 95 + 3 = 98 := ⟨by decide +kernel, rfl⟩
set_option maxRecDepth 20000 in
theorem dX11_row_98 : decode cX11_row 98 = .ok (.getfield 169, 3) ∧ 98 + 3 = 101 := ⟨by decide +kernel, rfl⟩
set_option maxRecDepth 20000 in
theorem dX11_row_101 : decode cX11_row 101 = .ok (.getfield 173, 3) ∧ 101 + 3 = 104 := ⟨by decide +kernel, rfl⟩
set_option maxRecDepth 20000 in
theorem dX11_row_104 : decode cX11_row 104 = .ok (.bipush 20, 2) ∧ 104 + 2 = 106 := ⟨by decide +kernel, rfl⟩
set_option maxRecDepth 20000 in
theorem dX11_row_106 : decode cX11_row 106 = .ok (.if_icmp .ge 47, 3) ∧ 106 + 3 = 109 ∧ ((106 : Nat) : Int) + (47) = ((153 : Nat) : Int) := ⟨by decide +kernel, rfl, by decide⟩
set_option maxRecDepth 20000 in
theorem dX11_row_109 : decode cX11_row 109 = .ok (.aload_n 0, 1) ∧ 109 + 1 = 110 := ⟨by decide +kernel, rfl⟩
set_option maxRecDepth 20000 in
theorem dX11_row_110 : decode cX11_row 110 = .ok (.getfield 10, 3) ∧ 110 + 3 = 113 := ⟨by decide +kernel, rfl⟩
set_option maxRecDepth 20000 in
theorem dX11_row_113 : decode cX11_row 113 = .ok (.getfield 169, 3) ∧ 113 + 3 = 116 := ⟨by decide +kernel, rfl⟩
set_option maxRecDepth 20000 in
theorem dX11_row_116 : decode cX11_row 116 = .ok (.aload_n 0, 1) ∧ 116 + 1 = 117 := ⟨by decide +kernel, rfl⟩
set_option maxRecDepth 20000 in
theorem dX11_row_117 : decode cX11_row 117 = .ok (.getfield 27, 3) ∧ 117 + 3 = 120 := ⟨by decide +kernel, rfl⟩
set_option maxRecDepth 20000 in
theorem dX11_row_120 : decode cX11_row 120 = .ok (.iload_n 2, 1) ∧ 120 + 1 = 121 := ⟨by decide +kernel, rfl⟩
set_option maxRecDepth 20000 in
theorem dX11_row_121 : decode cX11_row 121 = .ok (.invokevirtual 162, 3) ∧ 121 + 3 = 124 := ⟨by decide +kernel, rfl⟩
set_option maxRecDepth 20000 in
theorem dX11_row_124 : decode cX11_row 124 = .ok (.aload_n 0, 1) ∧ 124 + 1 = 125 := ⟨by decide +kernel, rfl⟩
set_option maxRecDepth 20000 in
theorem dX11_row_125 : decode cX11_row 125 = .ok (.getfield 27, 3) ∧ 125 + 3 = 128 := ⟨by decide +kernel, rfl⟩
set_option maxRecDepth 20000 in
theorem dX11_row_128 : decode cX11_row 128 = .ok (.iload_n 2, 1) ∧ 128 + 1 = 129 := ⟨by decide +kernel, rfl⟩
set_option maxRecDepth 20000 in
theorem dX11_row_129 : decode cX11_row 129 = .ok (.iconst 1, 1) ∧ 129 + 1 = 130 := ⟨by decide +kernel, rfl⟩
set_option maxRecDepth 20000 in
theorem dX11_row_130 : decode cX11_row 130 = .ok (.iadd, 1) ∧ 130 + 1 = 131 := ⟨by decide +kernel, rfl⟩
set_option maxRecDepth 20000 in
theorem dX11_row_131 : decode cX11_row 131 = .ok (.invokevirtual 162, 3) ∧ 131 + 3 = 134 := ⟨by decide +kernel, rfl⟩
set_option maxRecDepth 20000 in
theorem dX11_row_134 : decode cX11_row 134 = .ok (.aload_n 0, 1) ∧ 134 + 1 = 135 := ⟨by decide +kernel, rfl⟩
set_option maxRecDepth 20000 in
theorem dX11_row_135 : decode cX11_row 135 = .ok (.getfield 27, 3) ∧ 135 + 3 = 138 := ⟨by decide +kernel, rfl⟩
set_option maxRecDepth 20000 in
theorem dX11_row_138 : decode cX11_row 138 = .ok (.iload_n 2, 1) ∧ 138 + 1 = 139 := ⟨by decide +kernel, rfl⟩
set_option maxRecDepth 20000 in
theorem dX11_row_139 : decode cX11_row 139 = .ok (.iconst 2, 1) ∧ 139 + 1 = 140 := ⟨by decide +kernel, rfl⟩
set_option maxRecDepth 20000 in
theorem dX11_row_140 : decode cX11_row 140 = .ok (.iadd, 1) ∧ 140 + 1 = 141 := ⟨by decide +kernel, rfl⟩
set_option maxRecDepth 20000 in
theorem dX11_row_141 : decode cX11_row 141 = .ok (.invokevirtual 162, 3) ∧ 141 + 3 = 144 := ⟨by decide +kernel, rfl⟩
set_option maxRecDepth 20000 in
theorem dX11_row_144 : decode cX11_row 144 = .ok (.invokevirtual 178, 3) ∧ 144 + 3 = 147 := ⟨by decide +kernel, rfl⟩
set_option maxRecDepth 20000 in
theorem dX11_row_147 : decode cX11_row 147 = .ok (.iinc 1 1, 3) ∧ 147 + 3 = 150 := ⟨by decide +kernel, rfl⟩
set_option maxRecDepth 20000 in
theorem dX11_row_150 : decode cX11_row 150 = .ok (.goto 13, 3) ∧ ((150 : Nat) : Int) + (13) = ((163 : Nat) : Int) := ⟨by decide +kernel, by decide⟩
set_option maxRecDepth 20000 in
theorem dX11_row_153 : decode cX11_row 153 = .ok (.aload_n 0, 1) ∧ 153 + 1 = 154 := ⟨by decide +kernel, rfl⟩
set_option maxRecDepth 20000 in
theorem dX11_row_154 : decode cX11_row 154 = .ok (.dup, 1) ∧ 154 + 1 = 155 := ⟨by decide +kernel, rfl⟩
set_option maxRecDepth 20000 in
theorem dX11_row_155 : decode cX11_row 155 = .ok (.getfield 159, 3) ∧ 155 + 3 = 158 := ⟨by decide +kernel, rfl⟩
set_option maxRecDepth 20000 in
theorem dX11_row_158 : decode cX11_row 158 = .ok (.iconst 1, 1) ∧ 158 + 1 = 159 := ⟨by decide +kernel, rfl⟩
set_option maxRecDepth 20000 in
theorem dX11_row_159 : decode cX11_row 159 = .ok (.iadd, 1) ∧ 159 + 1 = 160 := ⟨by decide +kernel, rfl⟩
set_option maxRecDepth 20000 in
theorem dX11_row_160 : decode cX11_row 160 = .ok (.putfield 159, 3) ∧ 160 + 3 = 163 := ⟨by decide +kernel, rfl⟩
set_option maxRecDepth 20000 in
theorem dX11_row_163 : decode cX11_row 163 = .ok (.iinc 2 3, 3) ∧ 163 + 3 = 166 := ⟨by decide +kernel, rfl⟩
set_option maxRecDepth 20000 in
theorem dX11_row_166 : decode cX11_row 166 = .ok (.goto (-140), 3) ∧ ((166 : Nat) : Int) + (-140) = ((26 : Nat) : Int) := ⟨by decide +kernel, by decide⟩
set_option maxRecDepth 20000 in
theorem dX11_row_169 : decode cX11_row 169 = .ok (.aload_n 0, 1) ∧ 169 + 1 = 170 := ⟨by decide +kernel, rfl⟩
set_option maxRecDepth 20000 in
theorem dX11_row_170 : decode cX11_row 170 = .ok (.getfield 27, 3) ∧ 170 + 3 = 173 := ⟨by decide +kernel, rfl⟩
set_option maxRecDepth 20000 in
theorem dX11_row_173 : decode cX11_row 173 = .ok (.iconst 0, 1) ∧ 173 + 1 = 174 := ⟨by decide +kernel, rfl⟩
set_option maxRecDepth 20000 in
theorem dX11_row_174 : decode cX11_row 174 = .ok (.putfield 152, 3) ∧ 174 + 3 = 177 := ⟨by decide +kernel, rfl⟩
set_option maxRecDepth 20000 in
theorem dX11_row_177 : decode cX11_row 177 = .ok (.aload_n 0, 1) ∧ 177 + 1 = 178 := ⟨by decide +kernel, rfl⟩
set_option maxRecDepth 20000 in
theorem dX11_row_178 : decode cX11_row 178 = .ok (.iload_n 1, 1) ∧ 178 + 1 = 179 := ⟨by decide +kernel, rfl⟩
set_option maxRecDepth 20000 in
theorem dX11_row_179 : decode cX11_row 179 = .ok (.invokevirtual 108, 3) ∧ 179 + 3 = 182 := ⟨by decide +kernel, rfl⟩
set_option maxRecDepth 20000 in
theorem dX11_row_182 : decode cX11_row 182 = .ok (.ireturn, 1) := by decide +kernel
set_option maxRecDepth 20000 in
theorem dX11_quashed_0 : decode cX11_quashed 0 = .ok (.aload_n 0, 1) ∧ 0 + 1 = 1 := ⟨by decide +kernel, rfl⟩
set_option maxRecDepth 20000 in
theorem dX11_quashed_1 : decode cX11_quashed 1 = .ok (.getfield 159, 3) ∧ 1 + 3 = 4 := ⟨by decide +kernel, rfl⟩
set_option maxRecDepth 20000 in
theorem dX11_quashed_4 : decode cX11_quashed 4 = .ok (.ireturn, 1) := by decide +kernel
set_option maxRecDepth 20000 in
theorem dX11_law_0 : decode cX11_law 0 = .ok (.aload_n 0, 1) ∧ 0 + 1 = 1 := ⟨by decide +kernel, rfl⟩
set_option maxRecDepth 20000 in
theorem dX11_law_1 : decode cX11_law 1 = .ok (.getfield 10, 3) ∧ 1 + 3 = 4 := ⟨by decide +kernel, rfl⟩
set_option maxRecDepth 20000 in
theorem dX11_law_4 : decode cX11_law 4 = .ok (.getfield 181, 3) ∧ 4 + 3 = 7 := ⟨by decide +kernel, rfl⟩
set_option maxRecDepth 20000 in
theorem dX11_law_7 : decode cX11_law 7 = .ok (.bipush 6, 2) ∧ 7 + 2 = 9 := ⟨by decide +kernel, rfl⟩
set_option maxRecDepth 20000 in
theorem dX11_law_9 : decode cX11_law 9 = .ok (.if_icmp .lt 18, 3) ∧ 9 + 3 = 12 ∧ ((9 : Nat) : Int) + (18) = ((27 : Nat) : Int) := ⟨by decide +kernel, rfl, by decide⟩
set_option maxRecDepth 20000 in
theorem dX11_law_12 : decode cX11_law 12 = .ok (.aload_n 0, 1) ∧ 12 + 1 = 13 := ⟨by decide +kernel, rfl⟩
set_option maxRecDepth 20000 in
theorem dX11_law_13 : decode cX11_law 13 = .ok (.getfield 27, 3) ∧ 13 + 3 = 16 := ⟨by decide +kernel, rfl⟩
set_option maxRecDepth 20000 in
theorem dX11_law_16 : decode cX11_law 16 = .ok (.iconst 0, 1) ∧ 16 + 1 = 17 := ⟨by decide +kernel, rfl⟩
set_option maxRecDepth 20000 in
theorem dX11_law_17 : decode cX11_law 17 = .ok (.putfield 152, 3) ∧ 17 + 3 = 20 := ⟨by decide +kernel, rfl⟩
set_option maxRecDepth 20000 in
theorem dX11_law_20 : decode cX11_law 20 = .ok (.aload_n 0, 1) ∧ 20 + 1 = 21 := ⟨by decide +kernel, rfl⟩
set_option maxRecDepth 20000 in
theorem dX11_law_21 : decode cX11_law 21 = .ok (.bipush (-5), 2) ∧ 21 + 2 = 23 := ⟨by decide +kernel, rfl⟩
set_option maxRecDepth 20000 in
theorem dX11_law_23 : decode cX11_law 23 = .ok (.invokevirtual 97, 3) ∧ 23 + 3 = 26 := ⟨by decide +kernel, rfl⟩
set_option maxRecDepth 20000 in
theorem dX11_law_26 : decode cX11_law 26 = .ok (.ireturn, 1) := by decide +kernel
set_option maxRecDepth 20000 in
theorem dX11_law_27 : decode cX11_law 27 = .ok (.aload_n 0, 1) ∧ 27 + 1 = 28 := ⟨by decide +kernel, rfl⟩
set_option maxRecDepth 20000 in
theorem dX11_law_28 : decode cX11_law 28 = .ok (.getfield 36, 3) ∧ 28 + 3 = 31 := ⟨by decide +kernel, rfl⟩
set_option maxRecDepth 20000 in
theorem dX11_law_31 : decode cX11_law 31 = .ok (.invokevirtual 184, 3) ∧ 31 + 3 = 34 := ⟨by decide +kernel, rfl⟩
set_option maxRecDepth 20000 in
theorem dX11_law_34 : decode cX11_law 34 = .ok (.astore_n 1, 1) ∧ 34 + 1 = 35 := ⟨by decide +kernel, rfl⟩
set_option maxRecDepth 20000 in
theorem dX11_law_35 : decode cX11_law 35 = .ok (.aload_n 0, 1) ∧ 35 + 1 = 36 := ⟨by decide +kernel, rfl⟩
set_option maxRecDepth 20000 in
theorem dX11_law_36 : decode cX11_law 36 = .ok (.getfield 27, 3) ∧ 36 + 3 = 39 := ⟨by decide +kernel, rfl⟩
set_option maxRecDepth 20000 in
theorem dX11_law_39 : decode cX11_law 39 = .ok (.iconst 0, 1) ∧ 39 + 1 = 40 := ⟨by decide +kernel, rfl⟩
set_option maxRecDepth 20000 in
theorem dX11_law_40 : decode cX11_law 40 = .ok (.putfield 152, 3) ∧ 40 + 3 = 43 := ⟨by decide +kernel, rfl⟩
set_option maxRecDepth 20000 in
theorem dX11_law_43 : decode cX11_law 43 = .ok (.aload_n 0, 1) ∧ 43 + 1 = 44 := ⟨by decide +kernel, rfl⟩
set_option maxRecDepth 20000 in
theorem dX11_law_44 : decode cX11_law 44 = .ok (.aload_n 0, 1) ∧ 44 + 1 = 45 := ⟨by decide +kernel, rfl⟩
set_option maxRecDepth 20000 in
theorem dX11_law_45 : decode cX11_law 45 = .ok (.getfield 36, 3) ∧ 45 + 3 = 48 := ⟨by decide +kernel, rfl⟩
set_option maxRecDepth 20000 in
theorem dX11_law_48 : decode cX11_law 48 = .ok (.invokevirtual 188, 3) ∧ 48 + 3 = 51 := ⟨by decide +kernel, rfl⟩
set_option maxRecDepth 20000 in
theorem dX11_law_51 : decode cX11_law 51 = .ok (.putfield 89, 3) ∧ 51 + 3 = 54 := ⟨by decide +kernel, rfl⟩
set_option maxRecDepth 20000 in
theorem dX11_law_54 : decode cX11_law 54 = .ok (.aload_n 1, 1) ∧ 54 + 1 = 55 := ⟨by decide +kernel, rfl⟩
set_option maxRecDepth 20000 in
theorem dX11_law_55 : decode cX11_law 55 = .ok (.ifnonnull 10, 3) ∧ 55 + 3 = 58 ∧ ((55 : Nat) : Int) + (10) = ((65 : Nat) : Int) := ⟨by decide +kernel, rfl, by decide⟩
set_option maxRecDepth 20000 in
theorem dX11_law_58 : decode cX11_law 58 = .ok (.aload_n 0, 1) ∧ 58 + 1 = 59 := ⟨by decide +kernel, rfl⟩
set_option maxRecDepth 20000 in
theorem dX11_law_59 : decode cX11_law 59 = .ok (.bipush (-6), 2) ∧ 59 + 2 = 61 := ⟨by decide +kernel, rfl⟩
set_option maxRecDepth 20000 in
theorem dX11_law_61 : decode cX11_law 61 = .ok (.invokevirtual 97, 3) ∧ 61 + 3 = 64 := ⟨by decide +kernel, rfl⟩
set_option maxRecDepth 20000 in
theorem dX11_law_64 : decode cX11_law 64 = .ok (.ireturn, 1) := by decide +kernel
set_option maxRecDepth 20000 in
theorem dX11_law_65 : decode cX11_law 65 = .ok (.aload_n 0, 1) ∧ 65 + 1 = 66 := ⟨by decide +kernel, rfl⟩
set_option maxRecDepth 20000 in
theorem dX11_law_66 : decode cX11_law 66 = .ok (.getfield 10, 3) ∧ 66 + 3 = 69 := ⟨by decide +kernel, rfl⟩
set_option maxRecDepth 20000 in
theorem dX11_law_69 : decode cX11_law 69 = .ok (.getfield 192, 3) ∧ 69 + 3 = 72 := ⟨by decide +kernel, rfl⟩
set_option maxRecDepth 20000 in
theorem dX11_law_72 : decode cX11_law 72 = .ok (.aload_n 0, 1) ∧ 72 + 1 = 73 := ⟨by decide +kernel, rfl⟩
set_option maxRecDepth 20000 in
theorem dX11_law_73 : decode cX11_law 73 = .ok (.getfield 10, 3) ∧ 73 + 3 = 76 := ⟨by decide +kernel, rfl⟩
set_option maxRecDepth 20000 in
theorem dX11_law_76 : decode cX11_law 76 = .ok (.getfield 181, 3) ∧ 76 + 3 = 79 := ⟨by decide +kernel, rfl⟩
set_option maxRecDepth 20000 in
theorem dX11_law_79 : decode cX11_law 79 = .ok (.aload_n 1, 1) ∧ 79 + 1 = 80 := ⟨by decide +kernel, rfl⟩
set_option maxRecDepth 20000 in
theorem dX11_law_80 : decode cX11_law 80 = .ok (.aastore, 1) ∧ 80 + 1 = 81 := ⟨by decide +kernel, rfl⟩
set_option maxRecDepth 20000 in
theorem dX11_law_81 : decode cX11_law 81 = .ok (.aload_n 0, 1) ∧ 81 + 1 = 82 := ⟨by decide +kernel, rfl⟩
set_option maxRecDepth 20000 in
theorem dX11_law_82 : decode cX11_law 82 = .ok (.getfield 10, 3) ∧ 82 + 3 = 85 := ⟨by decide +kernel, rfl⟩
set_option maxRecDepth 20000 in
theorem dX11_law_85 : decode cX11_law 85 = .ok (.dup, 1) ∧ 85 + 1 = 86 := ⟨by decide +kernel, rfl⟩
set_option maxRecDepth 20000 in
theorem dX11_law_86 : decode cX11_law 86 = .ok (.getfield 181, 3) ∧ 86 + 3 = 89 := ⟨by decide +kernel, rfl⟩
set_option maxRecDepth 20000 in
theorem dX11_law_89 : decode cX11_law 89 = .ok (.iconst 1, 1) ∧ 89 + 1 = 90 := ⟨by decide +kernel, rfl⟩
set_option maxRecDepth 20000 in
theorem dX11_law_90 : decode cX11_law 90 = .ok (.iadd, 1) ∧ 90 + 1 = 91 := ⟨by decide +kernel, rfl⟩
set_option maxRecDepth 20000 in
theorem dX11_law_91 : decode cX11_law 91 = .ok (.putfield 181, 3) ∧ 91 + 3 = 94 := ⟨by decide +kernel, rfl⟩
set_option maxRecDepth 20000 in
theorem dX11_law_94 : decode cX11_law 94 = .ok (.aload_n 0, 1) ∧ 94 + 1 = 95 := ⟨by decide +kernel, rfl⟩
set_option maxRecDepth 20000 in
theorem dX11_law_95 : decode cX11_law 95 = .ok (.aload_n 0, 1) ∧ 95 + 1 = 96 := ⟨by decide +kernel, rfl⟩
set_option maxRecDepth 20000 in
theorem dX11_law_96 : decode cX11_law 96 = .ok (.getfield 10, 3) ∧ 96 + 3 = 99 := ⟨by decide +kernel, rfl⟩
set_option maxRecDepth 20000 in
theorem dX11_law_99 : decode cX11_law 99 = .ok (.getfield 181, 3) ∧ 99 + 3 = 102 := ⟨by decide +kernel, rfl⟩
set_option maxRecDepth 20000 in
theorem dX11_law_102 : decode cX11_law 102 = .ok (.iconst 1, 1) ∧ 102 + 1 = 103 := ⟨by decide +kernel, rfl⟩
set_option maxRecDepth 20000 in
theorem dX11_law_103 : decode cX11_law 103 = .ok (.isub, 1) ∧ 103 + 1 = 104 := ⟨by decide +kernel, rfl⟩
set_option maxRecDepth 20000 in
theorem dX11_law_104 : decode cX11_law 104 = .ok (.invokevirtual 108, 3) ∧ 104 + 3 = 107 := ⟨by decide +kernel, rfl⟩
set_option maxRecDepth 20000 in
theorem dX11_law_107 : decode cX11_law 107 = .ok (.ireturn, 1) := by decide +kernel
set_option maxRecDepth 20000 in
theorem dX11_fault_0 : decode cX11_fault 0 = .ok (.aload_n 0, 1) ∧ 0 + 1 = 1 := ⟨by decide +kernel, rfl⟩
set_option maxRecDepth 20000 in
theorem dX11_fault_1 : decode cX11_fault 1 = .ok (.getfield 89, 3) ∧ 1 + 3 = 4 := ⟨by decide +kernel, rfl⟩
set_option maxRecDepth 20000 in
theorem dX11_fault_4 : decode cX11_fault 4 = .ok (.ireturn, 1) := by decide +kernel
set_option maxRecDepth 20000 in
theorem dX11_force_0 : decode cX11_force 0 = .ok (.iload_n 1, 1) ∧ 0 + 1 = 1 := ⟨by decide +kernel, rfl⟩
set_option maxRecDepth 20000 in
theorem dX11_force_1 : decode cX11_force 1 = .ok (.iconst (-1), 1) ∧ 1 + 1 = 2 := ⟨by decide +kernel, rfl⟩
set_option maxRecDepth 20000 in
theorem dX11_force_2 : decode cX11_force 2 = .ok (.if_icmp .lt 14, 3) ∧ 2 + 3 = 5 ∧ ((2 : Nat) : Int) + (14) = ((16 : Nat) : Int) := ⟨by decide +kernel, rfl, by decide⟩
set_option maxRecDepth 20000 in
theorem dX11_force_5 : decode cX11_force 5 = .ok (.iload_n 1, 1) ∧ 5 + 1 = 6 := ⟨by decide +kernel, rfl⟩
set_option maxRecDepth 20000 in
theorem dX11_force_6 : decode cX11_force 6 = .ok (.aload_n 0, 1) ∧ 6 + 1 = 7 := ⟨by decide +kernel, rfl⟩
set_option maxRecDepth 20000 in
theorem dX11_force_7 : decode cX11_force 7 = .ok (.getfield 10, 3) ∧ 7 + 3 = 10 := ⟨by decide +kernel, rfl⟩
set_option maxRecDepth 20000 in
theorem dX11_force_10 : decode cX11_force 10 = .ok (.getfield 181, 3) ∧ 10 + 3 = 13 := ⟨by decide +kernel, rfl⟩
set_option maxRecDepth 20000 in
theorem dX11_force_13 : decode cX11_force 13 = .ok (.if_icmp .lt 10, 3) ∧ 13 + 3 = 16 ∧ ((13 : Nat) : Int) + (10) = ((23 : Nat) : Int) := ⟨by decide +kernel, rfl, by decide⟩
set_option maxRecDepth 20000 in
theorem dX11_force_16 : decode cX11_force 16 = .ok (.aload_n 0, 1) ∧ 16 + 1 = 17 := ⟨by decide +kernel, rfl⟩
set_option maxRecDepth 20000 in
theorem dX11_force_17 : decode cX11_force 17 = .ok (.bipush (-2), 2) ∧ 17 + 2 = 19 := ⟨by decide +kernel, rfl⟩
set_option maxRecDepth 20000 in
theorem dX11_force_19 : decode cX11_force 19 = .ok (.invokevirtual 97, 3) ∧ 19 + 3 = 22 := ⟨by decide +kernel, rfl⟩
set_option maxRecDepth 20000 in
theorem dX11_force_22 : decode cX11_force 22 = .ok (.ireturn, 1) := by decide +kernel
set_option maxRecDepth 20000 in
theorem dX11_force_23 : decode cX11_force 23 = .ok (.aload_n 0, 1) ∧ 23 + 1 = 24 := ⟨by decide +kernel, rfl⟩
set_option maxRecDepth 20000 in
theorem dX11_force_24 : decode cX11_force 24 = .ok (.getfield 10, 3) ∧ 24 + 3 = 27 := ⟨by decide +kernel, rfl⟩
set_option maxRecDepth 20000 in
theorem dX11_force_27 : decode cX11_force 27 = .ok (.getfield 196, 3) ∧ 27 + 3 = 30 := ⟨by decide +kernel, rfl⟩
set_option maxRecDepth 20000 in
theorem dX11_force_30 : decode cX11_force 30 = .ok (.istore_n 2, 1) ∧ 30 + 1 = 31 := ⟨by decide +kernel, rfl⟩
set_option maxRecDepth 20000 in
theorem dX11_force_31 : decode cX11_force 31 = .ok (.aload_n 0, 1) ∧ 31 + 1 = 32 := ⟨by decide +kernel, rfl⟩
set_option maxRecDepth 20000 in
theorem dX11_force_32 : decode cX11_force 32 = .ok (.getfield 10, 3) ∧ 32 + 3 = 35 := ⟨by decide +kernel, rfl⟩
set_option maxRecDepth 20000 in
theorem dX11_force_35 : decode cX11_force 35 = .ok (.iload_n 1, 1) ∧ 35 + 1 = 36 := ⟨by decide +kernel, rfl⟩
set_option maxRecDepth 20000 in
theorem dX11_force_36 : decode cX11_force 36 = .ok (.putfield 196, 3) ∧ 36 + 3 = 39 := ⟨by decide +kernel, rfl⟩
set_option maxRecDepth 20000 in
theorem dX11_force_39 : decode cX11_force 39 = .ok (.aload_n 0, 1) ∧ 39 + 1 = 40 := ⟨by decide +kernel, rfl⟩
set_option maxRecDepth 20000 in
theorem dX11_force_40 : decode cX11_force 40 = .ok (.iload_n 2, 1) ∧ 40 + 1 = 41 := ⟨by decide +kernel, rfl⟩
set_option maxRecDepth 20000 in
theorem dX11_force_41 : decode cX11_force 41 = .ok (.invokevirtual 108, 3) ∧ 41 + 3 = 44 := ⟨by decide +kernel, rfl⟩
set_option maxRecDepth 20000 in
theorem dX11_force_44 : decode cX11_force 44 = .ok (.ireturn, 1) := by decide +kernel
set_option maxRecDepth 20000 in
theorem dX11_chance_0 : decode cX11_chance 0 = .ok (.aload_n 0, 1) ∧ 0 + 1 = 1 := ⟨by decide +kernel, rfl⟩
set_option maxRecDepth 20000 in
theorem dX11_chance_1 : decode cX11_chance 1 = .ok (.getfield 10, 3) ∧ 1 + 3 = 4 := ⟨by decide +kernel, rfl⟩
set_option maxRecDepth 20000 in
theorem dX11_chance_4 : decode cX11_chance 4 = .ok (.iload_n 1, 1) ∧ 4 + 1 = 5 := ⟨by decide +kernel, rfl⟩
set_option maxRecDepth 20000 in
theorem dX11_chance_5 : decode cX11_chance 5 = .ok (.invokevirtual 111, 3) ∧ 5 + 3 = 8 := ⟨by decide +kernel, rfl⟩
set_option maxRecDepth 20000 in
theorem dX11_chance_8 : decode cX11_chance 8 = .ok (.ifCond .eq 19, 3) ∧ 8 + 3 = 11 ∧ ((8 : Nat) : Int) + (19) = ((27 : Nat) : Int) := ⟨by decide +kernel, rfl, by decide⟩
set_option maxRecDepth 20000 in
theorem dX11_chance_11 : decode cX11_chance 11 = .ok (.iload_n 2, 1) ∧ 11 + 1 = 12 := ⟨by decide +kernel, rfl⟩
set_option maxRecDepth 20000 in
theorem dX11_chance_12 : decode cX11_chance 12 = .ok (.invokestatic 119, 3) ∧ 12 + 3 = 15 := ⟨by decide +kernel, rfl⟩
set_option maxRecDepth 20000 in
theorem dX11_chance_15 : decode cX11_chance 15 = .ok (.ifCond .eq 12, 3) ∧ 15 + 3 = 18 ∧ ((15 : Nat) : Int) + (12) = ((27 : Nat) : Int) := ⟨by decide +kernel, rfl, by decide⟩
set_option maxRecDepth 20000 in
theorem dX11_chance_18 : decode cX11_chance 18 = .ok (.iload_n 3, 1) ∧ 18 + 1 = 19 := ⟨by decide +kernel, rfl⟩
set_option maxRecDepth 20000 in
theorem dX11_chance_19 : decode cX11_chance 19 = .ok (.ifCond .lt 8, 3) ∧ 19 + 3 = 22 ∧ ((19 : Nat) : Int) + (8) = ((27 : Nat) : Int) := ⟨by decide +kernel, rfl, by decide⟩
set_option maxRecDepth 20000 in
theorem dX11_chance_22 : decode cX11_chance 22 = .ok (.iload_n 3, 1) ∧ 22 + 1 = 23 := ⟨by decide +kernel, rfl⟩
set_option maxRecDepth 20000 in
theorem dX11_chance_23 : decode cX11_chance 23 = .ok (.iconst 3, 1) ∧ 23 + 1 = 24 := ⟨by decide +kernel, rfl⟩
set_option maxRecDepth 20000 in
theorem dX11_chance_24 : decode cX11_chance 24 = .ok (.if_icmp .le 5, 3) ∧ 24 + 3 = 27 ∧ ((24 : Nat) : Int) + (5) = ((29 : Nat) : Int) := ⟨by decide +kernel, rfl, by decide⟩
set_option maxRecDepth 20000 in
theorem dX11_chance_27 : decode cX11_chance 27 = .ok (.iconst (-1), 1) ∧ 27 + 1 = 28 := ⟨by decide +kernel, rfl⟩
set_option maxRecDepth 20000 in
theorem dX11_chance_28 : decode cX11_chance 28 = .ok (.ireturn, 1) := by decide +kernel
set_option maxRecDepth 20000 in
theorem dX11_chance_29 : decode cX11_chance 29 = .ok (.aload_n 0, 1) ∧ 29 + 1 = 30 := ⟨by decide +kernel, rfl⟩
set_option maxRecDepth 20000 in
theorem dX11_chance_30 : decode cX11_chance 30 = .ok (.getfield 43, 3) ∧ 30 + 3 = 33 := ⟨by decide +kernel, rfl⟩
set_option maxRecDepth 20000 in
theorem dX11_chance_33 : decode cX11_chance 33 = .ok (.aload_n 0, 1) ∧ 33 + 1 = 34 := ⟨by decide +kernel, rfl⟩
set_option maxRecDepth 20000 in
theorem dX11_chance_34 : decode cX11_chance 34 = .ok (.getfield 10, 3) ∧ 34 + 3 = 37 := ⟨by decide +kernel, rfl⟩
set_option maxRecDepth 20000 in
theorem dX11_chance_37 : decode cX11_chance 37 = .ok (.iload_n 1, 1) ∧ 37 + 1 = 38 := ⟨by decide +kernel, rfl⟩
set_option maxRecDepth 20000 in
theorem dX11_chance_38 : decode cX11_chance 38 = .ok (.iload_n 2, 1) ∧ 38 + 1 = 39 := ⟨by decide +kernel, rfl⟩
set_option maxRecDepth 20000 in
theorem dX11_chance_39 : decode cX11_chance 39 = .ok (.iload_n 3, 1) ∧ 39 + 1 = 40 := ⟨by decide +kernel, rfl⟩
set_option maxRecDepth 20000 in
theorem dX11_chance_40 : decode cX11_chance 40 = .ok (.iconst 0, 1) ∧ 40 + 1 = 41 := ⟨by decide +kernel, rfl⟩
set_option maxRecDepth 20000 in
theorem dX11_chance_41 : decode cX11_chance 41 = .ok (.invokevirtual 199, 3) ∧ 41 + 3 = 44 := ⟨by decide +kernel, rfl⟩
set_option maxRecDepth 20000 in
theorem dX11_chance_44 : decode cX11_chance 44 = .ok (.ireturn, 1) := by decide +kernel
set_option maxRecDepth 20000 in
theorem dX11_price_0 : decode cX11_price 0 = .ok (.aload_n 0, 1) ∧ 0 + 1 = 1 := ⟨by decide +kernel, rfl⟩
set_option maxRecDepth 20000 in
theorem dX11_price_1 : decode cX11_price 1 = .ok (.getfield 10, 3) ∧ 1 + 3 = 4 := ⟨by decide +kernel, rfl⟩
set_option maxRecDepth 20000 in
theorem dX11_price_4 : decode cX11_price 4 = .ok (.iload_n 1, 1) ∧ 4 + 1 = 5 := ⟨by decide +kernel, rfl⟩
set_option maxRecDepth 20000 in
theorem dX11_price_5 : decode cX11_price 5 = .ok (.invokevirtual 111, 3) ∧ 5 + 3 = 8 := ⟨by decide +kernel, rfl⟩
set_option maxRecDepth 20000 in
theorem dX11_price_8 : decode cX11_price 8 = .ok (.ifCond .eq 10, 3) ∧ 8 + 3 = 11 ∧ ((8 : Nat) : Int) + (10) = ((18 : Nat) : Int) := ⟨by decide +kernel, rfl, by decide⟩
set_option maxRecDepth 20000 in
theorem dX11_price_11 : decode cX11_price 11 = .ok (.iload_n 2, 1) ∧ 11 + 1 = 12 := ⟨by decide +kernel, rfl⟩
set_option maxRecDepth 20000 in
theorem dX11_price_12 : decode cX11_price 12 = .ok (.invokestatic 203, 3) ∧ 12 + 3 = 15 := ⟨by decide +kernel, rfl⟩
set_option maxRecDepth 20000 in
theorem dX11_price_15 : decode cX11_price 15 = .ok (.ifCond .ne 5, 3) ∧ 15 + 3 = 18 ∧ ((15 : Nat) : Int) + (5) = ((20 : Nat) : Int) := ⟨by decide +kernel, rfl, by decide⟩
set_option maxRecDepth 20000 in
theorem dX11_price_18 : decode cX11_price 18 = .ok (.iconst (-1), 1) ∧ 18 + 1 = 19 := ⟨by decide +kernel, rfl⟩
set_option maxRecDepth 20000 in
theorem dX11_price_19 : decode cX11_price 19 = .ok (.ireturn, 1) := by decide +kernel
set_option maxRecDepth 20000 in
theorem dX11_price_20 : decode cX11_price 20 = .ok (.aload_n 0, 1) ∧ 20 + 1 = 21 := ⟨by decide +kernel, rfl⟩
set_option maxRecDepth 20000 in
theorem dX11_price_21 : decode cX11_price 21 = .ok (.getfield 43, 3) ∧ 21 + 3 = 24 := ⟨by decide +kernel, rfl⟩
set_option maxRecDepth 20000 in
theorem dX11_price_24 : decode cX11_price 24 = .ok (.aload_n 0, 1) ∧ 24 + 1 = 25 := ⟨by decide +kernel, rfl⟩
set_option maxRecDepth 20000 in
theorem dX11_price_25 : decode cX11_price 25 = .ok (.getfield 10, 3) ∧ 25 + 3 = 28 := ⟨by decide +kernel, rfl⟩
set_option maxRecDepth 20000 in
theorem dX11_price_28 : decode cX11_price 28 = .ok (.iload_n 1, 1) ∧ 28 + 1 = 29 := ⟨by decide +kernel, rfl⟩
set_option maxRecDepth 20000 in
theorem dX11_price_29 : decode cX11_price 29 = .ok (.iload_n 2, 1) ∧ 29 + 1 = 30 := ⟨by decide +kernel, rfl⟩
set_option maxRecDepth 20000 in
theorem dX11_price_30 : decode cX11_price 30 = .ok (.invokevirtual 206, 3) ∧ 30 + 3 = 33 := ⟨by decide +kernel, rfl⟩
set_option maxRecDepth 20000 in
theorem dX11_price_33 : decode cX11_price 33 = .ok (.ireturn, 1) := by decide +kernel
set_option maxRecDepth 20000 in
theorem dX11_odds_0 : decode cX11_odds 0 = .ok (.iload_n 1, 1) ∧ 0 + 1 = 1 := ⟨by decide +kernel, rfl⟩
set_option maxRecDepth 20000 in
theorem dX11_odds_1 : decode cX11_odds 1 = .ok (.iconst (-1), 1) ∧ 1 + 1 = 2 := ⟨by decide +kernel, rfl⟩
set_option maxRecDepth 20000 in
theorem dX11_odds_2 : decode cX11_odds 2 = .ok (.if_icmp .lt 9, 3) ∧ 2 + 3 = 5 ∧ ((2 : Nat) : Int) + (9) = ((11 : Nat) : Int) := ⟨by decide +kernel, rfl, by decide⟩
set_option maxRecDepth 20000 in
theorem dX11_odds_5 : decode cX11_odds 5 = .ok (.iload_n 1, 1) ∧ 5 + 1 = 6 := ⟨by decide +kernel, rfl⟩
set_option maxRecDepth 20000 in
theorem dX11_odds_6 : decode cX11_odds 6 = .ok (.bipush 8, 2) ∧ 6 + 2 = 8 := ⟨by decide +kernel, rfl⟩
set_option maxRecDepth 20000 in
theorem dX11_odds_8 : decode cX11_odds 8 = .ok (.if_icmp .le 7, 3) ∧ 8 + 3 = 11 ∧ ((8 : Nat) : Int) + (7) = ((15 : Nat) : Int) := ⟨by decide +kernel, rfl, by decide⟩
set_option maxRecDepth 20000 in
theorem dX11_odds_11 : decode cX11_odds 11 = .ok (.ldc2_w 210, 3) ∧ 11 + 3 = 14 := ⟨by decide +kernel, rfl⟩
set_option maxRecDepth 20000 in
theorem dX11_odds_14 : decode cX11_odds 14 = .ok (.lreturn, 1) := by decide +kernel
set_option maxRecDepth 20000 in
theorem dX11_odds_15 : decode cX11_odds 15 = .ok (.aload_n 0, 1) ∧ 15 + 1 = 16 := ⟨by decide +kernel, rfl⟩
set_option maxRecDepth 20000 in
theorem dX11_odds_16 : decode cX11_odds 16 = .ok (.aload_n 0, 1) ∧ 16 + 1 = 17 := ⟨by decide +kernel, rfl⟩
set_option maxRecDepth 20000 in
theorem dX11_odds_17 : decode cX11_odds 17 = .ok (.getfield 10, 3) ∧ 17 + 3 = 20 := ⟨by decide +kernel, rfl⟩
set_option maxRecDepth 20000 in
theorem dX11_odds_20 : decode cX11_odds 20 = .ok (.getfield 149, 3) ∧ 20 + 3 = 23 := ⟨by decide +kernel, rfl⟩
set_option maxRecDepth 20000 in
theorem dX11_odds_23 : decode cX11_odds 23 = .ok (.iconst 1, 1) ∧ 23 + 1 = 24 := ⟨by decide +kernel, rfl⟩
set_option maxRecDepth 20000 in
theorem dX11_odds_24 : decode cX11_odds 24 = .ok (.iaload, 1) ∧ 24 + 1 = 25 := ⟨by decide +kernel, rfl⟩
set_option maxRecDepth 20000 in
theorem dX11_odds_25 : decode cX11_odds 25 = .ok (.iconst (-1), 1) ∧ 25 + 1 = 26 := ⟨by decide +kernel, rfl⟩
set_option maxRecDepth 20000 in
theorem dX11_odds_26 : decode cX11_odds 26 = .ok (.invokevirtual 212, 3) ∧ 26 + 3 = 29 := ⟨by decide +kernel, rfl⟩
set_option maxRecDepth 20000 in
theorem dX11_odds_29 : decode cX11_odds 29 = .ok (.iload_n 1, 1) ∧ 29 + 1 = 30 := ⟨by decide +kernel, rfl⟩
set_option maxRecDepth 20000 in
theorem dX11_odds_30 : decode cX11_odds 30 = .ok (.iconst (-1), 1) ∧ 30 + 1 = 31 := ⟨by decide +kernel, rfl⟩
set_option maxRecDepth 20000 in
theorem dX11_odds_31 : decode cX11_odds 31 = .ok (.if_icmp .ne 22, 3) ∧ 31 + 3 = 34 ∧ ((31 : Nat) : Int) + (22) = ((53 : Nat) : Int) := ⟨by decide +kernel, rfl, by decide⟩
set_option maxRecDepth 20000 in
theorem dX11_odds_34 : decode cX11_odds 34 = .ok (.aload_n 0, 1) ∧ 34 + 1 = 35 := ⟨by decide +kernel, rfl⟩
set_option maxRecDepth 20000 in
theorem dX11_odds_35 : decode cX11_odds 35 = .ok (.getfield 50, 3) ∧ 35 + 3 = 38 := ⟨by decide +kernel, rfl⟩
set_option maxRecDepth 20000 in
theorem dX11_odds_38 : decode cX11_odds 38 = .ok (.aload_n 0, 1) ∧ 38 + 1 = 39 := ⟨by decide +kernel, rfl⟩
set_option maxRecDepth 20000 in
theorem dX11_odds_39 : decode cX11_odds 39 = .ok (.getfield 10, 3) ∧ 39 + 3 = 42 := ⟨by decide +kernel, rfl⟩
set_option maxRecDepth 20000 in
theorem dX11_odds_42 : decode cX11_odds 42 = .ok (.getfield 149, 3) ∧ 42 + 3 = 45 := ⟨by decide +kernel, rfl⟩
set_option maxRecDepth 20000 in
theorem dX11_odds_45 : decode cX11_odds 45 = .ok (.iconst 0, 1) ∧ 45 + 1 = 46 := ⟨by decide +kernel, rfl⟩
set_option maxRecDepth 20000 in
theorem dX11_odds_46 : decode cX11_odds 46 = .ok (.iaload, 1) ∧ 46 + 1 = 47 := ⟨by decide +kernel, rfl⟩
set_option maxRecDepth 20000 in
theorem dX11_odds_47 : decode cX11_odds 47 = .ok (.invokevirtual 216, 3) ∧ 47 + 3 = 50 := ⟨by decide +kernel, rfl⟩
set_option maxRecDepth 20000 in
theorem dX11_odds_50 : decode cX11_odds 50 = .ok (.goto 11, 3) ∧ ((50 : Nat) : Int) + (11) = ((61 : Nat) : Int) := ⟨by decide +kernel, by decide⟩
set_option maxRecDepth 20000 in
theorem dX11_odds_53 : decode cX11_odds 53 = .ok (.aload_n 0, 1) ∧ 53 + 1 = 54 := ⟨by decide +kernel, rfl⟩
set_option maxRecDepth 20000 in
theorem dX11_odds_54 : decode cX11_odds 54 = .ok (.getfield 50, 3) ∧ 54 + 3 = 57 := ⟨by decide +kernel, rfl⟩
set_option maxRecDepth 20000 in
theorem dX11_odds_57 : decode cX11_odds 57 = .ok (.iload_n 1, 1) ∧ 57 + 1 = 58 := ⟨by decide +kernel, rfl⟩
set_option maxRecDepth 20000 in
theorem dX11_odds_58 : decode cX11_odds 58 = .ok (.invokevirtual 220, 3) ∧ 58 + 3 = 61 := ⟨by decide +kernel, rfl⟩
set_option maxRecDepth 20000 in
theorem dX11_odds_61 : decode cX11_odds 61 = .ok (.lreturn, 1) := by decide +kernel
set_option maxRecDepth 20000 in
theorem dX11_tips_0 : decode cX11_tips 0 = .ok (.aload_n 0, 1) ∧ 0 + 1 = 1 := ⟨by decide +kernel, rfl⟩
set_option maxRecDepth 20000 in
theorem dX11_tips_1 : decode cX11_tips 1 = .ok (.getfield 10, 3) ∧ 1 + 3 = 4 := ⟨by decide +kernel, rfl⟩
set_option maxRecDepth 20000 in
theorem dX11_tips_4 : decode cX11_tips 4 = .ok (.iload_n 1, 1) ∧ 4 + 1 = 5 := ⟨by decide +kernel, rfl⟩
set_option maxRecDepth 20000 in
theorem dX11_tips_5 : decode cX11_tips 5 = .ok (.invokevirtual 223, 3) ∧ 5 + 3 = 8 := ⟨by decide +kernel, rfl⟩
set_option maxRecDepth 20000 in
theorem dX11_tips_8 : decode cX11_tips 8 = .ok (.ifCond .ne 7, 3) ∧ 8 + 3 = 11 ∧ ((8 : Nat) : Int) + (7) = ((15 : Nat) : Int) := ⟨by decide +kernel, rfl, by decide⟩
set_option maxRecDepth 20000 in
theorem dX11_tips_11 : decode cX11_tips 11 = .ok (.ldc2_w 210, 3) ∧ 11 + 3 = 14 := ⟨by decide +kernel, rfl⟩
set_option maxRecDepth 20000 in
theorem dX11_tips_14 : decode cX11_tips 14 = .ok (.lreturn, 1) := by decide +kernel
set_option maxRecDepth 20000 in
theorem dX11_tips_15 : decode cX11_tips 15 = .ok (.aload_n 0, 1) ∧ 15 + 1 = 16 := ⟨by decide +kernel, rfl⟩
set_option maxRecDepth 20000 in
theorem dX11_tips_16 : decode cX11_tips 16 = .ok (.aload_n 0, 1) ∧ 16 + 1 = 17 := ⟨by decide +kernel, rfl⟩
set_option maxRecDepth 20000 in
theorem dX11_tips_17 : decode cX11_tips 17 = .ok (.getfield 10, 3) ∧ 17 + 3 = 20 := ⟨by decide +kernel, rfl⟩
set_option maxRecDepth 20000 in
theorem dX11_tips_20 : decode cX11_tips 20 = .ok (.getfield 149, 3) ∧ 20 + 3 = 23 := ⟨by decide +kernel, rfl⟩
set_option maxRecDepth 20000 in
theorem dX11_tips_23 : decode cX11_tips 23 = .ok (.iconst 1, 1) ∧ 23 + 1 = 24 := ⟨by decide +kernel, rfl⟩
set_option maxRecDepth 20000 in
theorem dX11_tips_24 : decode cX11_tips 24 = .ok (.iaload, 1) ∧ 24 + 1 = 25 := ⟨by decide +kernel, rfl⟩
set_option maxRecDepth 20000 in
theorem dX11_tips_25 : decode cX11_tips 25 = .ok (.iload_n 1, 1) ∧ 25 + 1 = 26 := ⟨by decide +kernel, rfl⟩
set_option maxRecDepth 20000 in
theorem dX11_tips_26 : decode cX11_tips 26 = .ok (.invokevirtual 212, 3) ∧ 26 + 3 = 29 := ⟨by decide +kernel, rfl⟩
set_option maxRecDepth 20000 in
theorem dX11_tips_29 : decode cX11_tips 29 = .ok (.aload_n 0, 1) ∧ 29 + 1 = 30 := ⟨by decide +kernel, rfl⟩
set_option maxRecDepth 20000 in
theorem dX11_tips_30 : decode cX11_tips 30 = .ok (.getfield 50, 3) ∧ 30 + 3 = 33 := ⟨by decide +kernel, rfl⟩
set_option maxRecDepth 20000 in
theorem dX11_tips_33 : decode cX11_tips 33 = .ok (.aload_n 0, 1) ∧ 33 + 1 = 34 := ⟨by decide +kernel, rfl⟩
set_option maxRecDepth 20000 in
theorem dX11_tips_34 : decode cX11_tips 34 = .ok (.getfield 10, 3) ∧ 34 + 3 = 37 := ⟨by decide +kernel, rfl⟩
set_option maxRecDepth 20000 in
theorem dX11_tips_37 : decode cX11_tips 37 = .ok (.getfield 149, 3) ∧ 37 + 3 = 40 := ⟨by decide +kernel, rfl⟩
set_option maxRecDepth 20000 in
theorem dX11_tips_40 : decode cX11_tips 40 = .ok (.iconst 0, 1) ∧ 40 + 1 = 41 := ⟨by decide +kernel, rfl⟩
set_option maxRecDepth 20000 in
theorem dX11_tips_41 : decode cX11_tips 41 = .ok (.iaload, 1) ∧ 41 + 1 = 42 := ⟨by decide +kernel, rfl⟩
set_option maxRecDepth 20000 in
theorem dX11_tips_42 : decode cX11_tips 42 = .ok (.iconst 1, 1) ∧ 42 + 1 = 43 := ⟨by decide +kernel, rfl⟩
set_option maxRecDepth 20000 in
theorem dX11_tips_43 : decode cX11_tips 43 = .ok (.isub, 1) ∧ 43 + 1 = 44 := ⟨by decide +kernel, rfl⟩
set_option maxRecDepth 20000 in
theorem dX11_tips_44 : decode cX11_tips 44 = .ok (.invokevirtual 220, 3) ∧ 44 + 3 = 47 := ⟨by decide +kernel, rfl⟩
set_option maxRecDepth 20000 in
theorem dX11_tips_47 : decode cX11_tips 47 = .ok (.lreturn, 1) := by decide +kernel
set_option maxRecDepth 20000 in
theorem dX11_fairest_0 : decode cX11_fairest 0 = .ok (.aload_n 0, 1) ∧ 0 + 1 = 1 := ⟨by decide +kernel, rfl⟩
set_option maxRecDepth 20000 in
theorem dX11_fairest_1 : decode cX11_fairest 1 = .ok (.getfield 10, 3) ∧ 1 + 3 = 4 := ⟨by decide +kernel, rfl⟩
set_option maxRecDepth 20000 in
theorem dX11_fairest_4 : decode cX11_fairest 4 = .ok (.getfield 140, 3) ∧ 4 + 3 = 7 := ⟨by decide +kernel, rfl⟩
set_option maxRecDepth 20000 in
theorem dX11_fairest_7 : decode cX11_fairest 7 = .ok (.invokestatic 226, 3) ∧ 7 + 3 = 10 := ⟨by decide +kernel, rfl⟩
set_option maxRecDepth 20000 in
theorem dX11_fairest_10 : decode cX11_fairest 10 = .ok (.invokestatic 231, 3) ∧ 10 + 3 = 13 := ⟨by decide +kernel, rfl⟩
set_option maxRecDepth 20000 in
theorem dX11_fairest_13 : decode cX11_fairest 13 = .ok (.lstore_n 1, 1) ∧ 13 + 1 = 14 := ⟨by decide +kernel, rfl⟩
set_option maxRecDepth 20000 in
theorem dX11_fairest_14 : decode cX11_fairest 14 = .ok (.iconst 0, 1) ∧ 14 + 1 = 15 := ⟨by decide +kernel, rfl⟩
set_option maxRecDepth 20000 in
theorem dX11_fairest_15 : decode cX11_fairest 15 = .ok (.istore_n 3, 1) ∧ 15 + 1 = 16 := ⟨by decide +kernel, rfl⟩
set_option maxRecDepth 20000 in
theorem dX11_fairest_16 : decode cX11_fairest 16 = .ok (.ldc2_w 236, 3) ∧ 16 + 3 = 19 := ⟨by decide +kernel, rfl⟩
set_option maxRecDepth 20000 in
theorem dX11_fairest_19 : decode cX11_fairest 19 = .ok (.lstore 4, 2) ∧ 19 + 2 = 21 := ⟨by decide +kernel, rfl⟩
set_option maxRecDepth 20000 in
theorem dX11_fairest_21 : decode cX11_fairest 21 = .ok (.iconst 0, 1) ∧ 21 + 1 = 22 := ⟨by decide +kernel, rfl⟩
set_option maxRecDepth 20000 in
theorem dX11_fairest_22 : decode cX11_fairest 22 = .ok (.istore 6, 2) ∧ 22 + 2 = 24 := ⟨by decide +kernel, rfl⟩
set_option maxRecDepth 20000 in
theorem dX11_fairest_24 : decode cX11_fairest 24 = .ok (.iload 6, 2) ∧ 24 + 2 = 26 := ⟨by decide +kernel, rfl⟩
set_option maxRecDepth 20000 in
theorem dX11_fairest_26 : decode cX11_fairest 26 = .ok (.bipush 24, 2) ∧ 26 + 2 = 28 := ⟨by decide +kernel, rfl⟩
set_option maxRecDepth 20000 in
theorem dX11_fairest_28 : decode cX11_fairest 28 = .ok (.if_icmp .ge 58, 3) ∧ 28 + 3 = 31 ∧ ((28 : Nat) : Int) + (58) = ((86 : Nat) : Int) := ⟨by decide +kernel, rfl, by decide⟩
set_option maxRecDepth 20000 in
theorem dX11_fairest_31 : decode cX11_fairest 31 = .ok (.aload_n 0, 1) ∧ 31 + 1 = 32 := ⟨by decide +kernel, rfl⟩
set_option maxRecDepth 20000 in
theorem dX11_fairest_32 : decode cX11_fairest 32 = .ok (.iload 6, 2) ∧ 32 + 2 = 34 := ⟨by decide +kernel, rfl⟩
set_option maxRecDepth 20000 in
theorem dX11_fairest_34 : decode cX11_fairest 34 = .ok (.iconst (-1), 1) ∧ 34 + 1 = 35 := ⟨by decide +kernel, rfl⟩
set_option maxRecDepth 20000 in
theorem dX11_fairest_35 : decode cX11_fairest 35 = .ok (.invokevirtual 212, 3) ∧ 35 + 3 = 38 := ⟨by decide +kernel, rfl⟩
set_option maxRecDepth 20000 in
theorem dX11_fairest_38 : decode cX11_fairest 38 = .ok (.ldc2_w 238, 3) ∧ 38 + 3 = 41 := ⟨by decide +kernel, rfl⟩
set_option maxRecDepth 20000 in
theorem dX11_fairest_41 : decode cX11_fairest 41 = .ok (.aload_n 0, 1) ∧ 41 + 1 = 42 := ⟨by decide +kernel, rfl⟩
set_option maxRecDepth 20000 in
theorem dX11_fairest_42 : decode cX11_fairest 42 = .ok (.getfield 50, 3) ∧ 42 + 3 = 45 := ⟨by decide +kernel, rfl⟩
set_option maxRecDepth 20000 in
theorem dX11_fairest_45 : decode cX11_fairest 45 = .ok (.aload_n 0, 1) ∧ 45 + 1 = 46 := ⟨by decide +kernel, rfl⟩
set_option maxRecDepth 20000 in
theorem dX11_fairest_46 : decode cX11_fairest 46 = .ok (.getfield 10, 3) ∧ 46 + 3 = 49 := ⟨by decide +kernel, rfl⟩
set_option maxRecDepth 20000 in
theorem dX11_fairest_49 : decode cX11_fairest 49 = .ok (.getfield 149, 3) ∧ 49 + 3 = 52 := ⟨by decide +kernel, rfl⟩
set_option maxRecDepth 20000 in
theorem dX11_fairest_52 : decode cX11_fairest 52 = .ok (.iconst 0, 1) ∧ 52 + 1 = 53 := ⟨by decide +kernel, rfl⟩
set_option maxRecDepth 20000 in
theorem dX11_fairest_53 : decode cX11_fairest 53 = .ok (.iaload, 1) ∧ 53 + 1 = 54 := ⟨by decide +kernel, rfl⟩
set_option maxRecDepth 20000 in
theorem dX11_fairest_54 : decode cX11_fairest 54 = .ok (.invokevirtual 216, 3) ∧ 54 + 3 = 57 := ⟨by decide +kernel, rfl⟩
set_option maxRecDepth 20000 in
theorem dX11_fairest_57 : decode cX11_fairest 57 = .ok (.lmul, 1) ∧ 57 + 1 = 58 := ⟨by decide +kernel, rfl⟩
set_option maxRecDepth 20000 in
theorem dX11_fairest_58 : decode cX11_fairest 58 = .ok (.lload_n 1, 1) ∧ 58 + 1 = 59 := ⟨by decide +kernel, rfl⟩
set_option maxRecDepth 20000 in
theorem dX11_fairest_59 : decode cX11_fairest 59 = .ok (.lsub, 1) ∧ 59 + 1 = 60 := ⟨by decide +kernel, rfl⟩
set_option maxRecDepth 20000 in
theorem dX11_fairest_60 : decode cX11_fairest 60 = .ok (.invokestatic 240, 3) ∧ 60 + 3 = 63 := ⟨by decide +kernel, rfl⟩
set_option maxRecDepth 20000 in
theorem dX11_fairest_63 : decode cX11_fairest 63 = .ok (.lstore 7, 2) ∧ 63 + 2 = 65 := ⟨by decide +kernel, rfl⟩
set_option maxRecDepth 20000 in
theorem dX11_fairest_65 : decode cX11_fairest 65 = .ok (.lload 7, 2) ∧ 65 + 2 = 67 := ⟨by decide +kernel, rfl⟩
set_option maxRecDepth 20000 in
theorem dX11_fairest_67 : decode cX11_fairest 67 = .ok (.lload 4, 2) ∧ 67 + 2 = 69 := ⟨by decide +kernel, rfl⟩
set_option maxRecDepth 20000 in
theorem dX11_fairest_69 : decode cX11_fairest 69 = .ok (.lcmp, 1) ∧ 69 + 1 = 70 := ⟨by decide +kernel, rfl⟩
set_option maxRecDepth 20000 in
theorem dX11_fairest_70 : decode cX11_fairest 70 = .ok (.ifCond .ge 10, 3) ∧ 70 + 3 = 73 ∧ ((70 : Nat) : Int) + (10) = ((80 : Nat) : Int) := ⟨by decide +kernel, rfl, by decide⟩
set_option maxRecDepth 20000 in
theorem dX11_fairest_73 : decode cX11_fairest 73 = .ok (.lload 7, 2) ∧ 73 + 2 = 75 := ⟨by decide +kernel, rfl⟩
set_option maxRecDepth 20000 in
theorem dX11_fairest_75 : decode cX11_fairest 75 = .ok (.lstore 4, 2) ∧ 75 + 2 = 77 := ⟨by decide +kernel, rfl⟩
set_option maxRecDepth 20000 in
theorem dX11_fairest_77 : decode cX11_fairest 77 = .ok (.iload 6, 2) ∧ 77 + 2 = 79 := ⟨by decide +kernel, rfl⟩
set_option maxRecDepth 20000 in
theorem dX11_fairest_79 : decode cX11_fairest 79 = .ok (.istore_n 3, 1) ∧ 79 + 1 = 80 := ⟨by decide +kernel, rfl⟩
set_option maxRecDepth 20000 in
theorem dX11_fairest_80 : decode cX11_fairest 80 = .ok (.iinc 6 1, 3) ∧ 80 + 3 = 83 := ⟨by decide +kernel, rfl⟩
set_option maxRecDepth 20000 in
theorem dX11_fairest_83 : decode cX11_fairest 83 = .ok (.goto (-59), 3) ∧ ((83 : Nat) : Int) + (-59) = ((24 : Nat) : Int) := ⟨by decide +kernel, by decide⟩
set_option maxRecDepth 20000 in
theorem dX11_fairest_86 : decode cX11_fairest 86 = .ok (.iload_n 3, 1) ∧ 86 + 1 = 87 := ⟨by decide +kernel, rfl⟩
set_option maxRecDepth 20000 in
theorem dX11_fairest_87 : decode cX11_fairest 87 = .ok (.ireturn, 1) := by decide +kernel
set_option maxRecDepth 20000 in
theorem dX11_appeal_0 : decode cX11_appeal 0 = .ok (.iload_n 1, 1) ∧ 0 + 1 = 1 := ⟨by decide +kernel, rfl⟩
set_option maxRecDepth 20000 in
theorem dX11_appeal_1 : decode cX11_appeal 1 = .ok (.iconst 1, 1) ∧ 1 + 1 = 2 := ⟨by decide +kernel, rfl⟩
set_option maxRecDepth 20000 in
theorem dX11_appeal_2 : decode cX11_appeal 2 = .ok (.if_icmp .eq 15, 3) ∧ 2 + 3 = 5 ∧ ((2 : Nat) : Int) + (15) = ((17 : Nat) : Int) := ⟨by decide +kernel, rfl, by decide⟩
set_option maxRecDepth 20000 in
theorem dX11_appeal_5 : decode cX11_appeal 5 = .ok (.iload_n 1, 1) ∧ 5 + 1 = 6 := ⟨by decide +kernel, rfl⟩
set_option maxRecDepth 20000 in
theorem dX11_appeal_6 : decode cX11_appeal 6 = .ok (.iconst 3, 1) ∧ 6 + 1 = 7 := ⟨by decide +kernel, rfl⟩
set_option maxRecDepth 20000 in
theorem dX11_appeal_7 : decode cX11_appeal 7 = .ok (.if_icmp .eq 10, 3) ∧ 7 + 3 = 10 ∧ ((7 : Nat) : Int) + (10) = ((17 : Nat) : Int) := ⟨by decide +kernel, rfl, by decide⟩
set_option maxRecDepth 20000 in
theorem dX11_appeal_10 : decode cX11_appeal 10 = .ok (.iload_n 1, 1) ∧ 10 + 1 = 11 := ⟨by decide +kernel, rfl⟩
set_option maxRecDepth 20000 in
theorem dX11_appeal_11 : decode cX11_appeal 11 = .ok (.iconst 5, 1) ∧ 11 + 1 = 12 := ⟨by decide +kernel, rfl⟩
set_option maxRecDepth 20000 in
theorem dX11_appeal_12 : decode cX11_appeal 12 = .ok (.if_icmp .eq 5, 3) ∧ 12 + 3 = 15 ∧ ((12 : Nat) : Int) + (5) = ((17 : Nat) : Int) := ⟨by decide +kernel, rfl, by decide⟩
set_option maxRecDepth 20000 in
theorem dX11_appeal_15 : decode cX11_appeal 15 = .ok (.iconst (-1), 1) ∧ 15 + 1 = 16 := ⟨by decide +kernel, rfl⟩
set_option maxRecDepth 20000 in
theorem dX11_appeal_16 : decode cX11_appeal 16 = .ok (.ireturn, 1) := by decide +kernel
set_option maxRecDepth 20000 in
theorem dX11_appeal_17 : decode cX11_appeal 17 = .ok (.aload_n 0, 1) ∧ 17 + 1 = 18 := ⟨by decide +kernel, rfl⟩
set_option maxRecDepth 20000 in
theorem dX11_appeal_18 : decode cX11_appeal 18 = .ok (.getfield 10, 3) ∧ 18 + 3 = 21 := ⟨by decide +kernel, rfl⟩
set_option maxRecDepth 20000 in
theorem dX11_appeal_21 : decode cX11_appeal 21 = .ok (.getfield 140, 3) ∧ 21 + 3 = 24 := ⟨by decide +kernel, rfl⟩
set_option maxRecDepth 20000 in
theorem dX11_appeal_24 : decode cX11_appeal 24 = .ok (.invokestatic 226, 3) ∧ 24 + 3 = 27 := ⟨by decide +kernel, rfl⟩
set_option maxRecDepth 20000 in
theorem dX11_appeal_27 : decode cX11_appeal 27 = .ok (.istore_n 2, 1) ∧ 27 + 1 = 28 := ⟨by decide +kernel, rfl⟩
set_option maxRecDepth 20000 in
theorem dX11_appeal_28 : decode cX11_appeal 28 = .ok (.aload_n 0, 1) ∧ 28 + 1 = 29 := ⟨by decide +kernel, rfl⟩
set_option maxRecDepth 20000 in
theorem dX11_appeal_29 : decode cX11_appeal 29 = .ok (.aload_n 0, 1) ∧ 29 + 1 = 30 := ⟨by decide +kernel, rfl⟩
set_option maxRecDepth 20000 in
theorem dX11_appeal_30 : decode cX11_appeal 30 = .ok (.getfield 10, 3) ∧ 30 + 3 = 33 := ⟨by decide +kernel, rfl⟩
set_option maxRecDepth 20000 in
theorem dX11_appeal_33 : decode cX11_appeal 33 = .ok (.getfield 149, 3) ∧ 33 + 3 = 36 := ⟨by decide +kernel, rfl⟩
set_option maxRecDepth 20000 in
theorem dX11_appeal_36 : decode cX11_appeal 36 = .ok (.iconst 1, 1) ∧ 36 + 1 = 37 := ⟨by decide +kernel, rfl⟩
set_option maxRecDepth 20000 in
theorem dX11_appeal_37 : decode cX11_appeal 37 = .ok (.iaload, 1) ∧ 37 + 1 = 38 := ⟨by decide +kernel, rfl⟩
set_option maxRecDepth 20000 in
theorem dX11_appeal_38 : decode cX11_appeal 38 = .ok (.iconst (-1), 1) ∧ 38 + 1 = 39 := ⟨by decide +kernel, rfl⟩
set_option maxRecDepth 20000 in
theorem dX11_appeal_39 : decode cX11_appeal 39 = .ok (.invokevirtual 212, 3) ∧ 39 + 3 = 42 := ⟨by decide +kernel, rfl⟩
set_option maxRecDepth 20000 in
theorem dX11_appeal_42 : decode cX11_appeal 42 = .ok (.aload_n 0, 1) ∧ 42 + 1 = 43 := ⟨by decide +kernel, rfl⟩
set_option maxRecDepth 20000 in
theorem dX11_appeal_43 : decode cX11_appeal 43 = .ok (.getfield 50, 3) ∧ 43 + 3 = 46 := ⟨by decide +kernel, rfl⟩
set_option maxRecDepth 20000 in
theorem dX11_appeal_46 : decode cX11_appeal 46 = .ok (.aload_n 0, 1) ∧ 46 + 1 = 47 := ⟨by decide +kernel, rfl⟩
set_option maxRecDepth 20000 in
theorem dX11_appeal_47 : decode cX11_appeal 47 = .ok (.getfield 10, 3) ∧ 47 + 3 = 50 := ⟨by decide +kernel, rfl⟩
set_option maxRecDepth 20000 in
theorem dX11_appeal_50 : decode cX11_appeal 50 = .ok (.getfield 149, 3) ∧ 50 + 3 = 53 := ⟨by decide +kernel, rfl⟩
set_option maxRecDepth 20000 in
theorem dX11_appeal_53 : decode cX11_appeal 53 = .ok (.iconst 0, 1) ∧ 53 + 1 = 54 := ⟨by decide +kernel, rfl⟩
set_option maxRecDepth 20000 in
theorem dX11_appeal_54 : decode cX11_appeal 54 = .ok (.iaload, 1) ∧ 54 + 1 = 55 := ⟨by decide +kernel, rfl⟩
set_option maxRecDepth 20000 in
theorem dX11_appeal_55 : decode cX11_appeal 55 = .ok (.invokevirtual 216, 3) ∧ 55 + 3 = 58 := ⟨by decide +kernel, rfl⟩
set_option maxRecDepth 20000 in
theorem dX11_appeal_58 : decode cX11_appeal 58 = .ok (.lstore_n 3, 1) ∧ 58 + 1 = 59 := ⟨by decide +kernel, rfl⟩
set_option maxRecDepth 20000 in
theorem dX11_appeal_59 : decode cX11_appeal 59 = .ok (.iload_n 2, 1) ∧ 59 + 1 = 60 := ⟨by decide +kernel, rfl⟩
set_option maxRecDepth 20000 in
theorem dX11_appeal_60 : decode cX11_appeal 60 = .ok (.invokestatic 231, 3) ∧ 60 + 3 = 63 := ⟨by decide +kernel, rfl⟩
set_option maxRecDepth 20000 in
theorem dX11_appeal_63 : decode cX11_appeal 63 = .ok (.lload_n 3, 1) ∧ 63 + 1 = 64 := ⟨by decide +kernel, rfl⟩
set_option maxRecDepth 20000 in
theorem dX11_appeal_64 : decode cX11_appeal 64 = .ok (.lsub, 1) ∧ 64 + 1 = 65 := ⟨by decide +kernel, rfl⟩
set_option maxRecDepth 20000 in
theorem dX11_appeal_65 : decode cX11_appeal 65 = .ok (.lstore 5, 2) ∧ 65 + 2 = 67 := ⟨by decide +kernel, rfl⟩
set_option maxRecDepth 20000 in
theorem dX11_appeal_67 : decode cX11_appeal 67 = .ok (.aload_n 0, 1) ∧ 67 + 1 = 68 := ⟨by decide +kernel, rfl⟩
set_option maxRecDepth 20000 in
theorem dX11_appeal_68 : decode cX11_appeal 68 = .ok (.getfield 78, 3) ∧ 68 + 3 = 71 := ⟨by decide +kernel, rfl⟩
set_option maxRecDepth 20000 in
theorem dX11_appeal_71 : decode cX11_appeal 71 = .ok (.lconst 0, 1) ∧ 71 + 1 = 72 := ⟨by decide +kernel, rfl⟩
set_option maxRecDepth 20000 in
theorem dX11_appeal_72 : decode cX11_appeal 72 = .ok (.invokevirtual 246, 3) ∧ 72 + 3 = 75 := ⟨by decide +kernel, rfl⟩
set_option maxRecDepth 20000 in
theorem dX11_appeal_75 : decode cX11_appeal 75 = .ok (.iload_n 1, 1) ∧ 75 + 1 = 76 := ⟨by decide +kernel, rfl⟩
set_option maxRecDepth 20000 in
theorem dX11_appeal_76 : decode cX11_appeal 76 = .ok (.iconst 2, 1) ∧ 76 + 1 = 77 := ⟨by decide +kernel, rfl⟩
set_option maxRecDepth 20000 in
theorem dX11_appeal_77 : decode cX11_appeal 77 = .ok (.idiv, 1) ∧ 77 + 1 = 78 := ⟨by decide +kernel, rfl⟩
set_option maxRecDepth 20000 in
theorem dX11_appeal_78 : decode cX11_appeal 78 = .ok (.iconst 1, 1) ∧ 78 + 1 = 79 := ⟨by decide +kernel, rfl⟩
set_option maxRecDepth 20000 in
theorem dX11_appeal_79 : decode cX11_appeal 79 = .ok (.iadd, 1) ∧ 79 + 1 = 80 := ⟨by decide +kernel, rfl⟩
set_option maxRecDepth 20000 in
theorem dX11_appeal_80 : decode cX11_appeal 80 = .ok (.istore 7, 2) ∧ 80 + 2 = 82 := ⟨by decide +kernel, rfl⟩
set_option maxRecDepth 20000 in
theorem dX11_appeal_82 : decode cX11_appeal 82 = .ok (.iload 7, 2) ∧ 82 + 2 = 84 := ⟨by decide +kernel, rfl⟩
set_option maxRecDepth 20000 in
theorem dX11_appeal_84 : decode cX11_appeal 84 = .ok (.iload_n 1, 1) ∧ 84 + 1 = 85 := ⟨by decide +kernel, rfl⟩
set_option maxRecDepth 20000 in
theorem dX11_appeal_85 : decode cX11_appeal 85 = .ok (.if_icmp .gt 69, 3) ∧ 85 + 3 = 88 ∧ ((85 : Nat) : Int) + (69) = ((154 : Nat) : Int) := ⟨by decide +kernel, rfl, by decide⟩
set_option maxRecDepth 20000 in
theorem dX11_appeal_88 : decode cX11_appeal 88 = .ok (.aload_n 0, 1) ∧ 88 + 1 = 89 := ⟨by decide +kernel, rfl⟩
set_option maxRecDepth 20000 in
theorem dX11_appeal_89 : decode cX11_appeal 89 = .ok (.getfield 82, 3) ∧ 89 + 3 = 92 := ⟨by decide +kernel, rfl⟩
set_option maxRecDepth 20000 in
theorem dX11_appeal_92 : decode cX11_appeal 92 = .ok (.iload_n 1, 1) ∧ 92 + 1 = 93 := ⟨by decide +kernel, rfl⟩
set_option maxRecDepth 20000 in
theorem dX11_appeal_93 : decode cX11_appeal 93 = .ok (.iload 7, 2) ∧ 93 + 2 = 95 := ⟨by decide +kernel, rfl⟩
set_option maxRecDepth 20000 in
theorem dX11_appeal_95 : decode cX11_appeal 95 = .ok (.invokestatic 250, 3) ∧ 95 + 3 = 98 := ⟨by decide +kernel, rfl⟩
set_option maxRecDepth 20000 in
theorem dX11_appeal_98 : decode cX11_appeal 98 = .ok (.i2l, 1) ∧ 98 + 1 = 99 := ⟨by decide +kernel, rfl⟩
set_option maxRecDepth 20000 in
theorem dX11_appeal_99 : decode cX11_appeal 99 = .ok (.invokevirtual 246, 3) ∧ 99 + 3 = 102 := ⟨by decide +kernel, rfl⟩
set_option maxRecDepth 20000 in
theorem dX11_appeal_102 : decode cX11_appeal 102 = .ok (.iconst 0, 1) ∧ 102 + 1 = 103 := ⟨by decide +kernel, rfl⟩
set_option maxRecDepth 20000 in
theorem dX11_appeal_103 : decode cX11_appeal 103 = .ok (.istore 8, 2) ∧ 103 + 2 = 105 := ⟨by decide +kernel, rfl⟩
set_option maxRecDepth 20000 in
theorem dX11_appeal_105 : decode cX11_appeal 105 = .ok (.iload 8, 2) ∧ 105 + 2 = 107 := ⟨by decide +kernel, rfl⟩
set_option maxRecDepth 20000 in
theorem dX11_appeal_107 : decode cX11_appeal 107 = .ok (.iload_n 1, 1) ∧ 107 + 1 = 108 := ⟨by decide +kernel, rfl⟩
set_option maxRecDepth 20000 in
theorem dX11_appeal_108 : decode cX11_appeal 108 = .ok (.if_icmp .ge 29, 3) ∧ 108 + 3 = 111 ∧ ((108 : Nat) : Int) + (29) = ((137 : Nat) : Int) := ⟨by decide +kernel, rfl, by decide⟩
set_option maxRecDepth 20000 in
theorem dX11_appeal_111 : decode cX11_appeal 111 = .ok (.aload_n 0, 1) ∧ 111 + 1 = 112 := ⟨by decide +kernel, rfl⟩
set_option maxRecDepth 20000 in
theorem dX11_appeal_112 : decode cX11_appeal 112 = .ok (.getfield 82, 3) ∧ 112 + 3 = 115 := ⟨by decide +kernel, rfl⟩
set_option maxRecDepth 20000 in
theorem dX11_appeal_115 : decode cX11_appeal 115 = .ok (.iload 8, 2) ∧ 115 + 2 = 117 := ⟨by decide +kernel, rfl⟩
set_option maxRecDepth 20000 in
theorem dX11_appeal_117 : decode cX11_appeal 117 = .ok (.iload 7, 2) ∧ 117 + 2 = 119 := ⟨by decide +kernel, rfl⟩
set_option maxRecDepth 20000 in
theorem dX11_appeal_119 : decode cX11_appeal 119 = .ok (.if_icmp .ge 7, 3) ∧ 119 + 3 = 122 ∧ ((119 : Nat) : Int) + (7) = ((126 : Nat) : Int) := ⟨by decide +kernel, rfl, by decide⟩
set_option maxRecDepth 20000 in
theorem dX11_appeal_122 : decode cX11_appeal 122 = .ok (.lload_n 3, 1) ∧ 122 + 1 = 123 := ⟨by decide +kernel, rfl⟩
set_option maxRecDepth 20000 in
theorem dX11_appeal_123 : decode cX11_appeal 123 = .ok (.goto 5, 3) ∧ ((123 : Nat) : Int) + (5) = ((128 : Nat) : Int) := ⟨by decide +kernel, by decide⟩
set_option maxRecDepth 20000 in
theorem dX11_appeal_126 : decode cX11_appeal 126 = .ok (.lload 5, 2) ∧ 126 + 2 = 128 := ⟨by decide +kernel, rfl⟩
set_option maxRecDepth 20000 in
theorem dX11_appeal_128 : decode cX11_appeal 128 = .ok (.invokevirtual 253, 3) ∧ 128 + 3 = 131 := ⟨by decide +kernel, rfl⟩
set_option maxRecDepth 20000 in
theorem dX11_appeal_131 : decode cX11_appeal 131 = .ok (.iinc 8 1, 3) ∧ 131 + 3 = 134 := ⟨by decide +kernel, rfl⟩
set_option maxRecDepth 20000 in
theorem dX11_appeal_134 : decode cX11_appeal 134 = .ok (.goto (-29), 3) ∧ ((134 : Nat) : Int) + (-29) = ((105 : Nat) : Int) := ⟨by decide +kernel, by decide⟩
set_option maxRecDepth 20000 in
theorem dX11_appeal_137 : decode cX11_appeal 137 = .ok (.aload_n 0, 1) ∧ 137 + 1 = 138 := ⟨by decide +kernel, rfl⟩
set_option maxRecDepth 20000 in
theorem dX11_appeal_138 : decode cX11_appeal 138 = .ok (.getfield 78, 3) ∧ 138 + 3 = 141 := ⟨by decide +kernel, rfl⟩
set_option maxRecDepth 20000 in
theorem dX11_appeal_141 : decode cX11_appeal 141 = .ok (.aload_n 0, 1) ∧ 141 + 1 = 142 := ⟨by decide +kernel, rfl⟩
set_option maxRecDepth 20000 in
theorem dX11_appeal_142 : decode cX11_appeal 142 = .ok (.getfield 82, 3) ∧ 142 + 3 = 145 := ⟨by decide +kernel, rfl⟩
set_option maxRecDepth 20000 in
theorem dX11_appeal_145 : decode cX11_appeal 145 = .ok (.invokevirtual 256, 3) ∧ 145 + 3 = 148 := ⟨by decide +kernel, rfl⟩
set_option maxRecDepth 20000 in
theorem dX11_appeal_148 : decode cX11_appeal 148 = .ok (.iinc 7 1, 3) ∧ 148 + 3 = 151 := ⟨by decide +kernel, rfl⟩
set_option maxRecDepth 20000 in
theorem dX11_appeal_151 : decode cX11_appeal 151 = .ok (.goto (-69), 3) ∧ ((151 : Nat) : Int) + (-69) = ((82 : Nat) : Int) := ⟨by decide +kernel, by decide⟩
set_option maxRecDepth 20000 in
theorem dX11_appeal_154 : decode cX11_appeal 154 = .ok (.aload_n 0, 1) ∧ 154 + 1 = 155 := ⟨by decide +kernel, rfl⟩
set_option maxRecDepth 20000 in
theorem dX11_appeal_155 : decode cX11_appeal 155 = .ok (.getfield 78, 3) ∧ 155 + 3 = 158 := ⟨by decide +kernel, rfl⟩
set_option maxRecDepth 20000 in
theorem dX11_appeal_158 : decode cX11_appeal 158 = .ok (.iload_n 2, 1) ∧ 158 + 1 = 159 := ⟨by decide +kernel, rfl⟩
set_option maxRecDepth 20000 in
theorem dX11_appeal_159 : decode cX11_appeal 159 = .ok (.iload_n 1, 1) ∧ 159 + 1 = 160 := ⟨by decide +kernel, rfl⟩
set_option maxRecDepth 20000 in
theorem dX11_appeal_160 : decode cX11_appeal 160 = .ok (.imul, 1) ∧ 160 + 1 = 161 := ⟨by decide +kernel, rfl⟩
set_option maxRecDepth 20000 in
theorem dX11_appeal_161 : decode cX11_appeal 161 = .ok (.invokevirtual 260, 3) ∧ 161 + 3 = 164 := ⟨by decide +kernel, rfl⟩
set_option maxRecDepth 20000 in
theorem dX11_appeal_164 : decode cX11_appeal 164 = .ok (.ireturn, 1) := by decide +kernel
set_option maxRecDepth 20000 in
theorem dX11_bribed_0 : decode cX11_bribed 0 = .ok (.aload_n 0, 1) ∧ 0 + 1 = 1 := ⟨by decide +kernel, rfl⟩
set_option maxRecDepth 20000 in
theorem dX11_bribed_1 : decode cX11_bribed 1 = .ok (.getfield 57, 3) ∧ 1 + 3 = 4 := ⟨by decide +kernel, rfl⟩
set_option maxRecDepth 20000 in
theorem dX11_bribed_4 : decode cX11_bribed 4 = .ok (.aload_n 0, 1) ∧ 4 + 1 = 5 := ⟨by decide +kernel, rfl⟩
set_option maxRecDepth 20000 in
theorem dX11_bribed_5 : decode cX11_bribed 5 = .ok (.getfield 10, 3) ∧ 5 + 3 = 8 := ⟨by decide +kernel, rfl⟩
set_option maxRecDepth 20000 in
theorem dX11_bribed_8 : decode cX11_bribed 8 = .ok (.aload_n 0, 1) ∧ 8 + 1 = 9 := ⟨by decide +kernel, rfl⟩
set_option maxRecDepth 20000 in
theorem dX11_bribed_9 : decode cX11_bribed 9 = .ok (.getfield 43, 3) ∧ 9 + 3 = 12 := ⟨by decide +kernel, rfl⟩
set_option maxRecDepth 20000 in
theorem dX11_bribed_12 : decode cX11_bribed 12 = .ok (.invokevirtual 263, 3) ∧ 12 + 3 = 15 := ⟨by decide +kernel, rfl⟩
set_option maxRecDepth 20000 in
theorem dX11_bribed_15 : decode cX11_bribed 15 = .ok (.aload_n 0, 1) ∧ 15 + 1 = 16 := ⟨by decide +kernel, rfl⟩
set_option maxRecDepth 20000 in
theorem dX11_bribed_16 : decode cX11_bribed 16 = .ok (.getfield 57, 3) ∧ 16 + 3 = 19 := ⟨by decide +kernel, rfl⟩
set_option maxRecDepth 20000 in
theorem dX11_bribed_19 : decode cX11_bribed 19 = .ok (.iconst 0, 1) ∧ 19 + 1 = 20 := ⟨by decide +kernel, rfl⟩
set_option maxRecDepth 20000 in
theorem dX11_bribed_20 : decode cX11_bribed 20 = .ok (.iload_n 1, 1) ∧ 20 + 1 = 21 := ⟨by decide +kernel, rfl⟩
set_option maxRecDepth 20000 in
theorem dX11_bribed_21 : decode cX11_bribed 21 = .ok (.invokevirtual 267, 3) ∧ 21 + 3 = 24 := ⟨by decide +kernel, rfl⟩
set_option maxRecDepth 20000 in
theorem dX11_bribed_24 : decode cX11_bribed 24 = .ok (.ifCond .eq 15, 3) ∧ 24 + 3 = 27 ∧ ((24 : Nat) : Int) + (15) = ((39 : Nat) : Int) := ⟨by decide +kernel, rfl, by decide⟩
set_option maxRecDepth 20000 in
theorem dX11_bribed_27 : decode cX11_bribed 27 = .ok (.aload_n 0, 1) ∧ 27 + 1 = 28 := ⟨by decide +kernel, rfl⟩
set_option maxRecDepth 20000 in
theorem dX11_bribed_28 : decode cX11_bribed 28 = .ok (.getfield 57, 3) ∧ 28 + 3 = 31 := ⟨by decide +kernel, rfl⟩
set_option maxRecDepth 20000 in
theorem dX11_bribed_31 : decode cX11_bribed 31 = .ok (.iconst 1, 1) ∧ 31 + 1 = 32 := ⟨by decide +kernel, rfl⟩
set_option maxRecDepth 20000 in
theorem dX11_bribed_32 : decode cX11_bribed 32 = .ok (.iload_n 2, 1) ∧ 32 + 1 = 33 := ⟨by decide +kernel, rfl⟩
set_option maxRecDepth 20000 in
theorem dX11_bribed_33 : decode cX11_bribed 33 = .ok (.invokevirtual 267, 3) ∧ 33 + 3 = 36 := ⟨by decide +kernel, rfl⟩
set_option maxRecDepth 20000 in
theorem dX11_bribed_36 : decode cX11_bribed 36 = .ok (.ifCond .ne 7, 3) ∧ 36 + 3 = 39 ∧ ((36 : Nat) : Int) + (7) = ((43 : Nat) : Int) := ⟨by decide +kernel, rfl, by decide⟩
set_option maxRecDepth 20000 in
theorem dX11_bribed_39 : decode cX11_bribed 39 = .ok (.ldc2_w 210, 3) ∧ 39 + 3 = 42 := ⟨by decide +kernel, rfl⟩
set_option maxRecDepth 20000 in
theorem dX11_bribed_42 : decode cX11_bribed 42 = .ok (.lreturn, 1) := by decide +kernel
set_option maxRecDepth 20000 in
theorem dX11_bribed_43 : decode cX11_bribed 43 = .ok (.aload_n 0, 1) ∧ 43 + 1 = 44 := ⟨by decide +kernel, rfl⟩
set_option maxRecDepth 20000 in
theorem dX11_bribed_44 : decode cX11_bribed 44 = .ok (.getfield 57, 3) ∧ 44 + 3 = 47 := ⟨by decide +kernel, rfl⟩
set_option maxRecDepth 20000 in
theorem dX11_bribed_47 : decode cX11_bribed 47 = .ok (.iload_n 1, 1) ∧ 47 + 1 = 48 := ⟨by decide +kernel, rfl⟩
set_option maxRecDepth 20000 in
theorem dX11_bribed_48 : decode cX11_bribed 48 = .ok (.iload_n 2, 1) ∧ 48 + 1 = 49 := ⟨by decide +kernel, rfl⟩
set_option maxRecDepth 20000 in
theorem dX11_bribed_49 : decode cX11_bribed 49 = .ok (.invokevirtual 270, 3) ∧ 49 + 3 = 52 := ⟨by decide +kernel, rfl⟩
set_option maxRecDepth 20000 in
theorem dX11_bribed_52 : decode cX11_bribed 52 = .ok (.lreturn, 1) := by decide +kernel
set_option maxRecDepth 20000 in
theorem dX11_reply_0 : decode cX11_reply 0 = .ok (.iload_n 1, 1) ∧ 0 + 1 = 1 := ⟨by decide +kernel, rfl⟩
set_option maxRecDepth 20000 in
theorem dX11_reply_1 : decode cX11_reply 1 = .ok (.invokestatic 203, 3) ∧ 1 + 3 = 4 := ⟨by decide +kernel, rfl⟩
set_option maxRecDepth 20000 in
theorem dX11_reply_4 : decode cX11_reply 4 = .ok (.ifCond .eq 10, 3) ∧ 4 + 3 = 7 ∧ ((4 : Nat) : Int) + (10) = ((14 : Nat) : Int) := ⟨by decide +kernel, rfl, by decide⟩
set_option maxRecDepth 20000 in
theorem dX11_reply_7 : decode cX11_reply 7 = .ok (.iload_n 3, 1) ∧ 7 + 1 = 8 := ⟨by decide +kernel, rfl⟩
set_option maxRecDepth 20000 in
theorem dX11_reply_8 : decode cX11_reply 8 = .ok (.invokestatic 274, 3) ∧ 8 + 3 = 11 := ⟨by decide +kernel, rfl⟩
set_option maxRecDepth 20000 in
theorem dX11_reply_11 : decode cX11_reply 11 = .ok (.ifCond .ne 5, 3) ∧ 11 + 3 = 14 ∧ ((11 : Nat) : Int) + (5) = ((16 : Nat) : Int) := ⟨by decide +kernel, rfl, by decide⟩
set_option maxRecDepth 20000 in
theorem dX11_reply_14 : decode cX11_reply 14 = .ok (.iconst (-1), 1) ∧ 14 + 1 = 15 := ⟨by decide +kernel, rfl⟩
set_option maxRecDepth 20000 in
theorem dX11_reply_15 : decode cX11_reply 15 = .ok (.ireturn, 1) := by decide +kernel
set_option maxRecDepth 20000 in
theorem dX11_reply_16 : decode cX11_reply 16 = .ok (.aload_n 0, 1) ∧ 16 + 1 = 17 := ⟨by decide +kernel, rfl⟩
set_option maxRecDepth 20000 in
theorem dX11_reply_17 : decode cX11_reply 17 = .ok (.getfield 57, 3) ∧ 17 + 3 = 20 := ⟨by decide +kernel, rfl⟩
set_option maxRecDepth 20000 in
theorem dX11_reply_20 : decode cX11_reply 20 = .ok (.aload_n 0, 1) ∧ 20 + 1 = 21 := ⟨by decide +kernel, rfl⟩
set_option maxRecDepth 20000 in
theorem dX11_reply_21 : decode cX11_reply 21 = .ok (.getfield 10, 3) ∧ 21 + 3 = 24 := ⟨by decide +kernel, rfl⟩
set_option maxRecDepth 20000 in
theorem dX11_reply_24 : decode cX11_reply 24 = .ok (.aload_n 0, 1) ∧ 24 + 1 = 25 := ⟨by decide +kernel, rfl⟩
set_option maxRecDepth 20000 in
theorem dX11_reply_25 : decode cX11_reply 25 = .ok (.getfield 43, 3) ∧ 25 + 3 = 28 := ⟨by decide +kernel, rfl⟩
set_option maxRecDepth 20000 in
theorem dX11_reply_28 : decode cX11_reply 28 = .ok (.invokevirtual 263, 3) ∧ 28 + 3 = 31 := ⟨by decide +kernel, rfl⟩
set_option maxRecDepth 20000 in
theorem dX11_reply_31 : decode cX11_reply 31 = .ok (.aload_n 0, 1) ∧ 31 + 1 = 32 := ⟨by decide +kernel, rfl⟩
set_option maxRecDepth 20000 in
theorem dX11_reply_32 : decode cX11_reply 32 = .ok (.getfield 57, 3) ∧ 32 + 3 = 35 := ⟨by decide +kernel, rfl⟩
set_option maxRecDepth 20000 in
theorem dX11_reply_35 : decode cX11_reply 35 = .ok (.iconst 1, 1) ∧ 35 + 1 = 36 := ⟨by decide +kernel, rfl⟩
set_option maxRecDepth 20000 in
theorem dX11_reply_36 : decode cX11_reply 36 = .ok (.iload_n 1, 1) ∧ 36 + 1 = 37 := ⟨by decide +kernel, rfl⟩
set_option maxRecDepth 20000 in
theorem dX11_reply_37 : decode cX11_reply 37 = .ok (.isub, 1) ∧ 37 + 1 = 38 := ⟨by decide +kernel, rfl⟩
set_option maxRecDepth 20000 in
theorem dX11_reply_38 : decode cX11_reply 38 = .ok (.iload_n 2, 1) ∧ 38 + 1 = 39 := ⟨by decide +kernel, rfl⟩
set_option maxRecDepth 20000 in
theorem dX11_reply_39 : decode cX11_reply 39 = .ok (.invokevirtual 267, 3) ∧ 39 + 3 = 42 := ⟨by decide +kernel, rfl⟩
set_option maxRecDepth 20000 in
theorem dX11_reply_42 : decode cX11_reply 42 = .ok (.ifCond .ne 5, 3) ∧ 42 + 3 = 45 ∧ ((42 : Nat) : Int) + (5) = ((47 : Nat) : Int) := ⟨by decide +kernel, rfl, by decide⟩
set_option maxRecDepth 20000 in
theorem dX11_reply_45 : decode cX11_reply 45 = .ok (.iconst (-1), 1) ∧ 45 + 1 = 46 := ⟨by decide +kernel, rfl⟩
set_option maxRecDepth 20000 in
theorem dX11_reply_46 : decode cX11_reply 46 = .ok (.ireturn, 1) := by decide +kernel
set_option maxRecDepth 20000 in
theorem dX11_reply_47 : decode cX11_reply 47 = .ok (.aload_n 0, 1) ∧ 47 + 1 = 48 := ⟨by decide +kernel, rfl⟩
set_option maxRecDepth 20000 in
theorem dX11_reply_48 : decode cX11_reply 48 = .ok (.getfield 57, 3) ∧ 48 + 3 = 51 := ⟨by decide +kernel, rfl⟩
set_option maxRecDepth 20000 in
theorem dX11_reply_51 : decode cX11_reply 51 = .ok (.iload_n 1, 1) ∧ 51 + 1 = 52 := ⟨by decide +kernel, rfl⟩
set_option maxRecDepth 20000 in
theorem dX11_reply_52 : decode cX11_reply 52 = .ok (.aload_n 0, 1) ∧ 52 + 1 = 53 := ⟨by decide +kernel, rfl⟩
set_option maxRecDepth 20000 in
theorem dX11_reply_53 : decode cX11_reply 53 = .ok (.getfield 57, 3) ∧ 53 + 3 = 56 := ⟨by decide +kernel, rfl⟩
set_option maxRecDepth 20000 in
theorem dX11_reply_56 : decode cX11_reply 56 = .ok (.iload_n 1, 1) ∧ 56 + 1 = 57 := ⟨by decide +kernel, rfl⟩
set_option maxRecDepth 20000 in
theorem dX11_reply_57 : decode cX11_reply 57 = .ok (.iload_n 2, 1) ∧ 57 + 1 = 58 := ⟨by decide +kernel, rfl⟩
set_option maxRecDepth 20000 in
theorem dX11_reply_58 : decode cX11_reply 58 = .ok (.invokevirtual 277, 3) ∧ 58 + 3 = 61 := ⟨by decide +kernel, rfl⟩
set_option maxRecDepth 20000 in
theorem dX11_reply_61 : decode cX11_reply 61 = .ok (.iload_n 3, 1) ∧ 61 + 1 = 62 := ⟨by decide +kernel, rfl⟩
set_option maxRecDepth 20000 in
theorem dX11_reply_62 : decode cX11_reply 62 = .ok (.invokevirtual 280, 3) ∧ 62 + 3 = 65 := ⟨by decide +kernel, rfl⟩
set_option maxRecDepth 20000 in
theorem dX11_reply_65 : decode cX11_reply 65 = .ok (.ireturn, 1) := by decide +kernel
set_option maxRecDepth 20000 in
theorem dX11_sure_0 : decode cX11_sure 0 = .ok (.iload_n 1, 1) ∧ 0 + 1 = 1 := ⟨by decide +kernel, rfl⟩
set_option maxRecDepth 20000 in
theorem dX11_sure_1 : decode cX11_sure 1 = .ok (.invokestatic 203, 3) ∧ 1 + 3 = 4 := ⟨by decide +kernel, rfl⟩
set_option maxRecDepth 20000 in
theorem dX11_sure_4 : decode cX11_sure 4 = .ok (.ifCond .eq 10, 3) ∧ 4 + 3 = 7 ∧ ((4 : Nat) : Int) + (10) = ((14 : Nat) : Int) := ⟨by decide +kernel, rfl, by decide⟩
set_option maxRecDepth 20000 in
theorem dX11_sure_7 : decode cX11_sure 7 = .ok (.iload_n 2, 1) ∧ 7 + 1 = 8 := ⟨by decide +kernel, rfl⟩
set_option maxRecDepth 20000 in
theorem dX11_sure_8 : decode cX11_sure 8 = .ok (.invokestatic 274, 3) ∧ 8 + 3 = 11 := ⟨by decide +kernel, rfl⟩
set_option maxRecDepth 20000 in
theorem dX11_sure_11 : decode cX11_sure 11 = .ok (.ifCond .ne 5, 3) ∧ 11 + 3 = 14 ∧ ((11 : Nat) : Int) + (5) = ((16 : Nat) : Int) := ⟨by decide +kernel, rfl, by decide⟩
set_option maxRecDepth 20000 in
theorem dX11_sure_14 : decode cX11_sure 14 = .ok (.iconst (-1), 1) ∧ 14 + 1 = 15 := ⟨by decide +kernel, rfl⟩
set_option maxRecDepth 20000 in
theorem dX11_sure_15 : decode cX11_sure 15 = .ok (.ireturn, 1) := by decide +kernel
set_option maxRecDepth 20000 in
theorem dX11_sure_16 : decode cX11_sure 16 = .ok (.aload_n 0, 1) ∧ 16 + 1 = 17 := ⟨by decide +kernel, rfl⟩
set_option maxRecDepth 20000 in
theorem dX11_sure_17 : decode cX11_sure 17 = .ok (.getfield 57, 3) ∧ 17 + 3 = 20 := ⟨by decide +kernel, rfl⟩
set_option maxRecDepth 20000 in
theorem dX11_sure_20 : decode cX11_sure 20 = .ok (.aload_n 0, 1) ∧ 20 + 1 = 21 := ⟨by decide +kernel, rfl⟩
set_option maxRecDepth 20000 in
theorem dX11_sure_21 : decode cX11_sure 21 = .ok (.getfield 10, 3) ∧ 21 + 3 = 24 := ⟨by decide +kernel, rfl⟩
set_option maxRecDepth 20000 in
theorem dX11_sure_24 : decode cX11_sure 24 = .ok (.aload_n 0, 1) ∧ 24 + 1 = 25 := ⟨by decide +kernel, rfl⟩
set_option maxRecDepth 20000 in
theorem dX11_sure_25 : decode cX11_sure 25 = .ok (.getfield 43, 3) ∧ 25 + 3 = 28 := ⟨by decide +kernel, rfl⟩
set_option maxRecDepth 20000 in
theorem dX11_sure_28 : decode cX11_sure 28 = .ok (.invokevirtual 263, 3) ∧ 28 + 3 = 31 := ⟨by decide +kernel, rfl⟩
set_option maxRecDepth 20000 in
theorem dX11_sure_31 : decode cX11_sure 31 = .ok (.aload_n 0, 1) ∧ 31 + 1 = 32 := ⟨by decide +kernel, rfl⟩
set_option maxRecDepth 20000 in
theorem dX11_sure_32 : decode cX11_sure 32 = .ok (.getfield 57, 3) ∧ 32 + 3 = 35 := ⟨by decide +kernel, rfl⟩
set_option maxRecDepth 20000 in
theorem dX11_sure_35 : decode cX11_sure 35 = .ok (.iload_n 1, 1) ∧ 35 + 1 = 36 := ⟨by decide +kernel, rfl⟩
set_option maxRecDepth 20000 in
theorem dX11_sure_36 : decode cX11_sure 36 = .ok (.aload_n 0, 1) ∧ 36 + 1 = 37 := ⟨by decide +kernel, rfl⟩
set_option maxRecDepth 20000 in
theorem dX11_sure_37 : decode cX11_sure 37 = .ok (.getfield 57, 3) ∧ 37 + 3 = 40 := ⟨by decide +kernel, rfl⟩
set_option maxRecDepth 20000 in
theorem dX11_sure_40 : decode cX11_sure 40 = .ok (.iload_n 1, 1) ∧ 40 + 1 = 41 := ⟨by decide +kernel, rfl⟩
set_option maxRecDepth 20000 in
theorem dX11_sure_41 : decode cX11_sure 41 = .ok (.invokevirtual 284, 3) ∧ 41 + 3 = 44 := ⟨by decide +kernel, rfl⟩
set_option maxRecDepth 20000 in
theorem dX11_sure_44 : decode cX11_sure 44 = .ok (.iload_n 2, 1) ∧ 44 + 1 = 45 := ⟨by decide +kernel, rfl⟩
set_option maxRecDepth 20000 in
theorem dX11_sure_45 : decode cX11_sure 45 = .ok (.invokevirtual 280, 3) ∧ 45 + 3 = 48 := ⟨by decide +kernel, rfl⟩
set_option maxRecDepth 20000 in
theorem dX11_sure_48 : decode cX11_sure 48 = .ok (.ireturn, 1) := by decide +kernel
set_option maxRecDepth 20000 in
theorem dX11_value_0 : decode cX11_value 0 = .ok (.iload_n 1, 1) ∧ 0 + 1 = 1 := ⟨by decide +kernel, rfl⟩
set_option maxRecDepth 20000 in
theorem dX11_value_1 : decode cX11_value 1 = .ok (.invokestatic 203, 3) ∧ 1 + 3 = 4 := ⟨by decide +kernel, rfl⟩
set_option maxRecDepth 20000 in
theorem dX11_value_4 : decode cX11_value 4 = .ok (.ifCond .ne 7, 3) ∧ 4 + 3 = 7 ∧ ((4 : Nat) : Int) + (7) = ((11 : Nat) : Int) := ⟨by decide +kernel, rfl, by decide⟩
set_option maxRecDepth 20000 in
theorem dX11_value_7 : decode cX11_value 7 = .ok (.ldc2_w 210, 3) ∧ 7 + 3 = 10 := ⟨by decide +kernel, rfl⟩
set_option maxRecDepth 20000 in
theorem dX11_value_10 : decode cX11_value 10 = .ok (.lreturn, 1) := by decide +kernel
set_option maxRecDepth 20000 in
theorem dX11_value_11 : decode cX11_value 11 = .ok (.aload_n 0, 1) ∧ 11 + 1 = 12 := ⟨by decide +kernel, rfl⟩
set_option maxRecDepth 20000 in
theorem dX11_value_12 : decode cX11_value 12 = .ok (.getfield 57, 3) ∧ 12 + 3 = 15 := ⟨by decide +kernel, rfl⟩
set_option maxRecDepth 20000 in
theorem dX11_value_15 : decode cX11_value 15 = .ok (.aload_n 0, 1) ∧ 15 + 1 = 16 := ⟨by decide +kernel, rfl⟩
set_option maxRecDepth 20000 in
theorem dX11_value_16 : decode cX11_value 16 = .ok (.getfield 10, 3) ∧ 16 + 3 = 19 := ⟨by decide +kernel, rfl⟩
set_option maxRecDepth 20000 in
theorem dX11_value_19 : decode cX11_value 19 = .ok (.aload_n 0, 1) ∧ 19 + 1 = 20 := ⟨by decide +kernel, rfl⟩
set_option maxRecDepth 20000 in
theorem dX11_value_20 : decode cX11_value 20 = .ok (.getfield 43, 3) ∧ 20 + 3 = 23 := ⟨by decide +kernel, rfl⟩
set_option maxRecDepth 20000 in
theorem dX11_value_23 : decode cX11_value 23 = .ok (.invokevirtual 263, 3) ∧ 23 + 3 = 26 := ⟨by decide +kernel, rfl⟩
set_option maxRecDepth 20000 in
theorem dX11_value_26 : decode cX11_value 26 = .ok (.aload_n 0, 1) ∧ 26 + 1 = 27 := ⟨by decide +kernel, rfl⟩
set_option maxRecDepth 20000 in
theorem dX11_value_27 : decode cX11_value 27 = .ok (.getfield 57, 3) ∧ 27 + 3 = 30 := ⟨by decide +kernel, rfl⟩
set_option maxRecDepth 20000 in
theorem dX11_value_30 : decode cX11_value 30 = .ok (.iload_n 1, 1) ∧ 30 + 1 = 31 := ⟨by decide +kernel, rfl⟩
set_option maxRecDepth 20000 in
theorem dX11_value_31 : decode cX11_value 31 = .ok (.aload_n 0, 1) ∧ 31 + 1 = 32 := ⟨by decide +kernel, rfl⟩
set_option maxRecDepth 20000 in
theorem dX11_value_32 : decode cX11_value 32 = .ok (.getfield 57, 3) ∧ 32 + 3 = 35 := ⟨by decide +kernel, rfl⟩
set_option maxRecDepth 20000 in
theorem dX11_value_35 : decode cX11_value 35 = .ok (.iload_n 1, 1) ∧ 35 + 1 = 36 := ⟨by decide +kernel, rfl⟩
set_option maxRecDepth 20000 in
theorem dX11_value_36 : decode cX11_value 36 = .ok (.invokevirtual 284, 3) ∧ 36 + 3 = 39 := ⟨by decide +kernel, rfl⟩
set_option maxRecDepth 20000 in
theorem dX11_value_39 : decode cX11_value 39 = .ok (.invokevirtual 287, 3) ∧ 39 + 3 = 42 := ⟨by decide +kernel, rfl⟩
set_option maxRecDepth 20000 in
theorem dX11_value_42 : decode cX11_value 42 = .ok (.lreturn, 1) := by decide +kernel
set_option maxRecDepth 20000 in
theorem dX11_saddle_0 : decode cX11_saddle 0 = .ok (.iload_n 1, 1) ∧ 0 + 1 = 1 := ⟨by decide +kernel, rfl⟩
set_option maxRecDepth 20000 in
theorem dX11_saddle_1 : decode cX11_saddle 1 = .ok (.ifCond .lt 8, 3) ∧ 1 + 3 = 4 ∧ ((1 : Nat) : Int) + (8) = ((9 : Nat) : Int) := ⟨by decide +kernel, rfl, by decide⟩
set_option maxRecDepth 20000 in
theorem dX11_saddle_4 : decode cX11_saddle 4 = .ok (.iload_n 1, 1) ∧ 4 + 1 = 5 := ⟨by decide +kernel, rfl⟩
set_option maxRecDepth 20000 in
theorem dX11_saddle_5 : decode cX11_saddle 5 = .ok (.iconst 2, 1) ∧ 5 + 1 = 6 := ⟨by decide +kernel, rfl⟩
set_option maxRecDepth 20000 in
theorem dX11_saddle_6 : decode cX11_saddle 6 = .ok (.if_icmp .le 5, 3) ∧ 6 + 3 = 9 ∧ ((6 : Nat) : Int) + (5) = ((11 : Nat) : Int) := ⟨by decide +kernel, rfl, by decide⟩
set_option maxRecDepth 20000 in
theorem dX11_saddle_9 : decode cX11_saddle 9 = .ok (.iconst (-1), 1) ∧ 9 + 1 = 10 := ⟨by decide +kernel, rfl⟩
set_option maxRecDepth 20000 in
theorem dX11_saddle_10 : decode cX11_saddle 10 = .ok (.ireturn, 1) := by decide +kernel
set_option maxRecDepth 20000 in
theorem dX11_saddle_11 : decode cX11_saddle 11 = .ok (.aload_n 0, 1) ∧ 11 + 1 = 12 := ⟨by decide +kernel, rfl⟩
set_option maxRecDepth 20000 in
theorem dX11_saddle_12 : decode cX11_saddle 12 = .ok (.getfield 57, 3) ∧ 12 + 3 = 15 := ⟨by decide +kernel, rfl⟩
set_option maxRecDepth 20000 in
theorem dX11_saddle_15 : decode cX11_saddle 15 = .ok (.aload_n 0, 1) ∧ 15 + 1 = 16 := ⟨by decide +kernel, rfl⟩
set_option maxRecDepth 20000 in
theorem dX11_saddle_16 : decode cX11_saddle 16 = .ok (.getfield 10, 3) ∧ 16 + 3 = 19 := ⟨by decide +kernel, rfl⟩
set_option maxRecDepth 20000 in
theorem dX11_saddle_19 : decode cX11_saddle 19 = .ok (.aload_n 0, 1) ∧ 19 + 1 = 20 := ⟨by decide +kernel, rfl⟩
set_option maxRecDepth 20000 in
theorem dX11_saddle_20 : decode cX11_saddle 20 = .ok (.getfield 43, 3) ∧ 20 + 3 = 23 := ⟨by decide +kernel, rfl⟩
set_option maxRecDepth 20000 in
theorem dX11_saddle_23 : decode cX11_saddle 23 = .ok (.invokevirtual 263, 3) ∧ 23 + 3 = 26 := ⟨by decide +kernel, rfl⟩
set_option maxRecDepth 20000 in
theorem dX11_saddle_26 : decode cX11_saddle 26 = .ok (.aload_n 0, 1) ∧ 26 + 1 = 27 := ⟨by decide +kernel, rfl⟩
set_option maxRecDepth 20000 in
theorem dX11_saddle_27 : decode cX11_saddle 27 = .ok (.getfield 57, 3) ∧ 27 + 3 = 30 := ⟨by decide +kernel, rfl⟩
set_option maxRecDepth 20000 in
theorem dX11_saddle_30 : decode cX11_saddle 30 = .ok (.iconst 0, 1) ∧ 30 + 1 = 31 := ⟨by decide +kernel, rfl⟩
set_option maxRecDepth 20000 in
theorem dX11_saddle_31 : decode cX11_saddle 31 = .ok (.aload_n 0, 1) ∧ 31 + 1 = 32 := ⟨by decide +kernel, rfl⟩
set_option maxRecDepth 20000 in
theorem dX11_saddle_32 : decode cX11_saddle 32 = .ok (.getfield 57, 3) ∧ 32 + 3 = 35 := ⟨by decide +kernel, rfl⟩
set_option maxRecDepth 20000 in
theorem dX11_saddle_35 : decode cX11_saddle 35 = .ok (.iconst 0, 1) ∧ 35 + 1 = 36 := ⟨by decide +kernel, rfl⟩
set_option maxRecDepth 20000 in
theorem dX11_saddle_36 : decode cX11_saddle 36 = .ok (.invokevirtual 284, 3) ∧ 36 + 3 = 39 := ⟨by decide +kernel, rfl⟩
set_option maxRecDepth 20000 in
theorem dX11_saddle_39 : decode cX11_saddle 39 = .ok (.invokevirtual 287, 3) ∧ 39 + 3 = 42 := ⟨by decide +kernel, rfl⟩
set_option maxRecDepth 20000 in
theorem dX11_saddle_42 : decode cX11_saddle 42 = .ok (.lstore_n 2, 1) ∧ 42 + 1 = 43 := ⟨by decide +kernel, rfl⟩
set_option maxRecDepth 20000 in
theorem dX11_saddle_43 : decode cX11_saddle 43 = .ok (.lload_n 2, 1) ∧ 43 + 1 = 44 := ⟨by decide +kernel, rfl⟩
set_option maxRecDepth 20000 in
theorem dX11_saddle_44 : decode cX11_saddle 44 = .ok (.aload_n 0, 1) ∧ 44 + 1 = 45 := ⟨by decide +kernel, rfl⟩
set_option maxRecDepth 20000 in
theorem dX11_saddle_45 : decode cX11_saddle 45 = .ok (.getfield 57, 3) ∧ 45 + 3 = 48 := ⟨by decide +kernel, rfl⟩
set_option maxRecDepth 20000 in
theorem dX11_saddle_48 : decode cX11_saddle 48 = .ok (.iconst 1, 1) ∧ 48 + 1 = 49 := ⟨by decide +kernel, rfl⟩
set_option maxRecDepth 20000 in
theorem dX11_saddle_49 : decode cX11_saddle 49 = .ok (.aload_n 0, 1) ∧ 49 + 1 = 50 := ⟨by decide +kernel, rfl⟩
set_option maxRecDepth 20000 in
theorem dX11_saddle_50 : decode cX11_saddle 50 = .ok (.getfield 57, 3) ∧ 50 + 3 = 53 := ⟨by decide +kernel, rfl⟩
set_option maxRecDepth 20000 in
theorem dX11_saddle_53 : decode cX11_saddle 53 = .ok (.iconst 1, 1) ∧ 53 + 1 = 54 := ⟨by decide +kernel, rfl⟩
set_option maxRecDepth 20000 in
theorem dX11_saddle_54 : decode cX11_saddle 54 = .ok (.invokevirtual 284, 3) ∧ 54 + 3 = 57 := ⟨by decide +kernel, rfl⟩
set_option maxRecDepth 20000 in
theorem dX11_saddle_57 : decode cX11_saddle 57 = .ok (.invokevirtual 287, 3) ∧ 57 + 3 = 60 := ⟨by decide +kernel, rfl⟩
set_option maxRecDepth 20000 in
theorem dX11_saddle_60 : decode cX11_saddle 60 = .ok (.lcmp, 1) ∧ 60 + 1 = 61 := ⟨by decide +kernel, rfl⟩
set_option maxRecDepth 20000 in
theorem dX11_saddle_61 : decode cX11_saddle 61 = .ok (.ifCond .eq 14, 3) ∧ 61 + 3 = 64 ∧ ((61 : Nat) : Int) + (14) = ((75 : Nat) : Int) := ⟨by decide +kernel, rfl, by decide⟩
set_option maxRecDepth 20000 in
theorem dX11_saddle_64 : decode cX11_saddle 64 = .ok (.iload_n 1, 1) ∧ 64 + 1 = 65 := ⟨by decide +kernel, rfl⟩
set_option maxRecDepth 20000 in
theorem dX11_saddle_65 : decode cX11_saddle 65 = .ok (.iconst 2, 1) ∧ 65 + 1 = 66 := ⟨by decide +kernel, rfl⟩
set_option maxRecDepth 20000 in
theorem dX11_saddle_66 : decode cX11_saddle 66 = .ok (.if_icmp .ne 7, 3) ∧ 66 + 3 = 69 ∧ ((66 : Nat) : Int) + (7) = ((73 : Nat) : Int) := ⟨by decide +kernel, rfl, by decide⟩
set_option maxRecDepth 20000 in
theorem dX11_saddle_69 : decode cX11_saddle 69 = .ok (.iconst 0, 1) ∧ 69 + 1 = 70 := ⟨by decide +kernel, rfl⟩
set_option maxRecDepth 20000 in
theorem dX11_saddle_70 : decode cX11_saddle 70 = .ok (.goto 4, 3) ∧ ((70 : Nat) : Int) + (4) = ((74 : Nat) : Int) := ⟨by decide +kernel, by decide⟩
set_option maxRecDepth 20000 in
theorem dX11_saddle_73 : decode cX11_saddle 73 = .ok (.iconst (-1), 1) ∧ 73 + 1 = 74 := ⟨by decide +kernel, rfl⟩
set_option maxRecDepth 20000 in
theorem dX11_saddle_74 : decode cX11_saddle 74 = .ok (.ireturn, 1) := by decide +kernel
set_option maxRecDepth 20000 in
theorem dX11_saddle_75 : decode cX11_saddle 75 = .ok (.iload_n 1, 1) ∧ 75 + 1 = 76 := ⟨by decide +kernel, rfl⟩
set_option maxRecDepth 20000 in
theorem dX11_saddle_76 : decode cX11_saddle 76 = .ok (.iconst 2, 1) ∧ 76 + 1 = 77 := ⟨by decide +kernel, rfl⟩
set_option maxRecDepth 20000 in
theorem dX11_saddle_77 : decode cX11_saddle 77 = .ok (.if_icmp .ne 23, 3) ∧ 77 + 3 = 80 ∧ ((77 : Nat) : Int) + (23) = ((100 : Nat) : Int) := ⟨by decide +kernel, rfl, by decide⟩
set_option maxRecDepth 20000 in
theorem dX11_saddle_80 : decode cX11_saddle 80 = .ok (.aload_n 0, 1) ∧ 80 + 1 = 81 := ⟨by decide +kernel, rfl⟩
set_option maxRecDepth 20000 in
theorem dX11_saddle_81 : decode cX11_saddle 81 = .ok (.getfield 57, 3) ∧ 81 + 3 = 84 := ⟨by decide +kernel, rfl⟩
set_option maxRecDepth 20000 in
theorem dX11_saddle_84 : decode cX11_saddle 84 = .ok (.iconst 0, 1) ∧ 84 + 1 = 85 := ⟨by decide +kernel, rfl⟩
set_option maxRecDepth 20000 in
theorem dX11_saddle_85 : decode cX11_saddle 85 = .ok (.lload_n 2, 1) ∧ 85 + 1 = 86 := ⟨by decide +kernel, rfl⟩
set_option maxRecDepth 20000 in
theorem dX11_saddle_86 : decode cX11_saddle 86 = .ok (.invokevirtual 290, 3) ∧ 86 + 3 = 89 := ⟨by decide +kernel, rfl⟩
set_option maxRecDepth 20000 in
theorem dX11_saddle_89 : decode cX11_saddle 89 = .ok (.aload_n 0, 1) ∧ 89 + 1 = 90 := ⟨by decide +kernel, rfl⟩
set_option maxRecDepth 20000 in
theorem dX11_saddle_90 : decode cX11_saddle 90 = .ok (.getfield 57, 3) ∧ 90 + 3 = 93 := ⟨by decide +kernel, rfl⟩
set_option maxRecDepth 20000 in
theorem dX11_saddle_93 : decode cX11_saddle 93 = .ok (.iconst 1, 1) ∧ 93 + 1 = 94 := ⟨by decide +kernel, rfl⟩
set_option maxRecDepth 20000 in
theorem dX11_saddle_94 : decode cX11_saddle 94 = .ok (.lload_n 2, 1) ∧ 94 + 1 = 95 := ⟨by decide +kernel, rfl⟩
set_option maxRecDepth 20000 in
theorem dX11_saddle_95 : decode cX11_saddle 95 = .ok (.invokevirtual 290, 3) ∧ 95 + 3 = 98 := ⟨by decide +kernel, rfl⟩
set_option maxRecDepth 20000 in
theorem dX11_saddle_98 : decode cX11_saddle 98 = .ok (.imul, 1) ∧ 98 + 1 = 99 := ⟨by decide +kernel, rfl⟩
set_option maxRecDepth 20000 in
theorem dX11_saddle_99 : decode cX11_saddle 99 = .ok (.ireturn, 1) := by decide +kernel
set_option maxRecDepth 20000 in
theorem dX11_saddle_100 : decode cX11_saddle 100 = .ok (.aload_n 0, 1) ∧ 100 + 1 = 101 := ⟨by decide +kernel, rfl⟩
set_option maxRecDepth 20000 in
theorem dX11_saddle_101 : decode cX11_saddle 101 = .ok (.getfield 57, 3) ∧ 101 + 3 = 104 := ⟨by decide +kernel, rfl⟩
set_option maxRecDepth 20000 in
theorem dX11_saddle_104 : decode cX11_saddle 104 = .ok (.iload_n 1, 1) ∧ 104 + 1 = 105 := ⟨by decide +kernel, rfl⟩
set_option maxRecDepth 20000 in
theorem dX11_saddle_105 : decode cX11_saddle 105 = .ok (.lload_n 2, 1) ∧ 105 + 1 = 106 := ⟨by decide +kernel, rfl⟩
set_option maxRecDepth 20000 in
theorem dX11_saddle_106 : decode cX11_saddle 106 = .ok (.invokevirtual 294, 3) ∧ 106 + 3 = 109 := ⟨by decide +kernel, rfl⟩
set_option maxRecDepth 20000 in
theorem dX11_saddle_109 : decode cX11_saddle 109 = .ok (.ireturn, 1) := by decide +kernel
set_option maxRecDepth 20000 in
theorem dX11_enough_0 : decode cX11_enough 0 = .ok (.iload_n 1, 1) ∧ 0 + 1 = 1 := ⟨by decide +kernel, rfl⟩
set_option maxRecDepth 20000 in
theorem dX11_enough_1 : decode cX11_enough 1 = .ok (.invokestatic 203, 3) ∧ 1 + 3 = 4 := ⟨by decide +kernel, rfl⟩
set_option maxRecDepth 20000 in
theorem dX11_enough_4 : decode cX11_enough 4 = .ok (.ifCond .eq 21, 3) ∧ 4 + 3 = 7 ∧ ((4 : Nat) : Int) + (21) = ((25 : Nat) : Int) := ⟨by decide +kernel, rfl, by decide⟩
set_option maxRecDepth 20000 in
theorem dX11_enough_7 : decode cX11_enough 7 = .ok (.iload_n 2, 1) ∧ 7 + 1 = 8 := ⟨by decide +kernel, rfl⟩
set_option maxRecDepth 20000 in
theorem dX11_enough_8 : decode cX11_enough 8 = .ok (.ifCond .lt 17, 3) ∧ 8 + 3 = 11 ∧ ((8 : Nat) : Int) + (17) = ((25 : Nat) : Int) := ⟨by decide +kernel, rfl, by decide⟩
set_option maxRecDepth 20000 in
theorem dX11_enough_11 : decode cX11_enough 11 = .ok (.iload_n 2, 1) ∧ 11 + 1 = 12 := ⟨by decide +kernel, rfl⟩
set_option maxRecDepth 20000 in
theorem dX11_enough_12 : decode cX11_enough 12 = .ok (.ldc_w 297, 3) ∧ 12 + 3 = 15 := ⟨by decide +kernel, rfl⟩
set_option maxRecDepth 20000 in
theorem dX11_enough_15 : decode cX11_enough 15 = .ok (.if_icmp .gt 10, 3) ∧ 15 + 3 = 18 ∧ ((15 : Nat) : Int) + (10) = ((25 : Nat) : Int) := ⟨by decide +kernel, rfl, by decide⟩
set_option maxRecDepth 20000 in
theorem dX11_enough_18 : decode cX11_enough 18 = .ok (.iload_n 3, 1) ∧ 18 + 1 = 19 := ⟨by decide +kernel, rfl⟩
set_option maxRecDepth 20000 in
theorem dX11_enough_19 : decode cX11_enough 19 = .ok (.invokestatic 274, 3) ∧ 19 + 3 = 22 := ⟨by decide +kernel, rfl⟩
set_option maxRecDepth 20000 in
theorem dX11_enough_22 : decode cX11_enough 22 = .ok (.ifCond .ne 5, 3) ∧ 22 + 3 = 25 ∧ ((22 : Nat) : Int) + (5) = ((27 : Nat) : Int) := ⟨by decide +kernel, rfl, by decide⟩
set_option maxRecDepth 20000 in
theorem dX11_enough_25 : decode cX11_enough 25 = .ok (.iconst (-1), 1) ∧ 25 + 1 = 26 := ⟨by decide +kernel, rfl⟩
set_option maxRecDepth 20000 in
theorem dX11_enough_26 : decode cX11_enough 26 = .ok (.ireturn, 1) := by decide +kernel
set_option maxRecDepth 20000 in
theorem dX11_enough_27 : decode cX11_enough 27 = .ok (.aload_n 0, 1) ∧ 27 + 1 = 28 := ⟨by decide +kernel, rfl⟩
set_option maxRecDepth 20000 in
theorem dX11_enough_28 : decode cX11_enough 28 = .ok (.getfield 57, 3) ∧ 28 + 3 = 31 := ⟨by decide +kernel, rfl⟩
set_option maxRecDepth 20000 in
theorem dX11_enough_31 : decode cX11_enough 31 = .ok (.aload_n 0, 1) ∧ 31 + 1 = 32 := ⟨by decide +kernel, rfl⟩
set_option maxRecDepth 20000 in
theorem dX11_enough_32 : decode cX11_enough 32 = .ok (.getfield 10, 3) ∧ 32 + 3 = 35 := ⟨by decide +kernel, rfl⟩
set_option maxRecDepth 20000 in
theorem dX11_enough_35 : decode cX11_enough 35 = .ok (.aload_n 0, 1) ∧ 35 + 1 = 36 := ⟨by decide +kernel, rfl⟩
set_option maxRecDepth 20000 in
theorem dX11_enough_36 : decode cX11_enough 36 = .ok (.getfield 43, 3) ∧ 36 + 3 = 39 := ⟨by decide +kernel, rfl⟩
set_option maxRecDepth 20000 in
theorem dX11_enough_39 : decode cX11_enough 39 = .ok (.invokevirtual 263, 3) ∧ 39 + 3 = 42 := ⟨by decide +kernel, rfl⟩
set_option maxRecDepth 20000 in
theorem dX11_enough_42 : decode cX11_enough 42 = .ok (.aload_n 0, 1) ∧ 42 + 1 = 43 := ⟨by decide +kernel, rfl⟩
set_option maxRecDepth 20000 in
theorem dX11_enough_43 : decode cX11_enough 43 = .ok (.getfield 57, 3) ∧ 43 + 3 = 46 := ⟨by decide +kernel, rfl⟩
set_option maxRecDepth 20000 in
theorem dX11_enough_46 : decode cX11_enough 46 = .ok (.iload_n 1, 1) ∧ 46 + 1 = 47 := ⟨by decide +kernel, rfl⟩
set_option maxRecDepth 20000 in
theorem dX11_enough_47 : decode cX11_enough 47 = .ok (.aload_n 0, 1) ∧ 47 + 1 = 48 := ⟨by decide +kernel, rfl⟩
set_option maxRecDepth 20000 in
theorem dX11_enough_48 : decode cX11_enough 48 = .ok (.getfield 57, 3) ∧ 48 + 3 = 51 := ⟨by decide +kernel, rfl⟩
set_option maxRecDepth 20000 in
theorem dX11_enough_51 : decode cX11_enough 51 = .ok (.iload_n 1, 1) ∧ 51 + 1 = 52 := ⟨by decide +kernel, rfl⟩
set_option maxRecDepth 20000 in
theorem dX11_enough_52 : decode cX11_enough 52 = .ok (.iload_n 2, 1) ∧ 52 + 1 = 53 := ⟨by decide +kernel, rfl⟩
set_option maxRecDepth 20000 in
theorem dX11_enough_53 : decode cX11_enough 53 = .ok (.invokevirtual 298, 3) ∧ 53 + 3 = 56 := ⟨by decide +kernel, rfl⟩
set_option maxRecDepth 20000 in
theorem dX11_enough_56 : decode cX11_enough 56 = .ok (.iload_n 3, 1) ∧ 56 + 1 = 57 := ⟨by decide +kernel, rfl⟩
set_option maxRecDepth 20000 in
theorem dX11_enough_57 : decode cX11_enough 57 = .ok (.invokevirtual 280, 3) ∧ 57 + 3 = 60 := ⟨by decide +kernel, rfl⟩
set_option maxRecDepth 20000 in
theorem dX11_enough_60 : decode cX11_enough 60 = .ok (.ireturn, 1) := by decide +kernel
set_option maxRecDepth 20000 in
theorem dX11_bribe_0 : decode cX11_bribe 0 = .ok (.iload_n 1, 1) ∧ 0 + 1 = 1 := ⟨by decide +kernel, rfl⟩
set_option maxRecDepth 20000 in
theorem dX11_bribe_1 : decode cX11_bribe 1 = .ok (.invokestatic 203, 3) ∧ 1 + 3 = 4 := ⟨by decide +kernel, rfl⟩
set_option maxRecDepth 20000 in
theorem dX11_bribe_4 : decode cX11_bribe 4 = .ok (.ifCond .eq 17, 3) ∧ 4 + 3 = 7 ∧ ((4 : Nat) : Int) + (17) = ((21 : Nat) : Int) := ⟨by decide +kernel, rfl, by decide⟩
set_option maxRecDepth 20000 in
theorem dX11_bribe_7 : decode cX11_bribe 7 = .ok (.iload_n 2, 1) ∧ 7 + 1 = 8 := ⟨by decide +kernel, rfl⟩
set_option maxRecDepth 20000 in
theorem dX11_bribe_8 : decode cX11_bribe 8 = .ok (.aload_n 0, 1) ∧ 8 + 1 = 9 := ⟨by decide +kernel, rfl⟩
set_option maxRecDepth 20000 in
theorem dX11_bribe_9 : decode cX11_bribe 9 = .ok (.getfield 10, 3) ∧ 9 + 3 = 12 := ⟨by decide +kernel, rfl⟩
set_option maxRecDepth 20000 in
theorem dX11_bribe_12 : decode cX11_bribe 12 = .ok (.getfield 140, 3) ∧ 12 + 3 = 15 := ⟨by decide +kernel, rfl⟩
set_option maxRecDepth 20000 in
theorem dX11_bribe_15 : decode cX11_bribe 15 = .ok (.iconst (-1), 1) ∧ 15 + 1 = 16 := ⟨by decide +kernel, rfl⟩
set_option maxRecDepth 20000 in
theorem dX11_bribe_16 : decode cX11_bribe 16 = .ok (.ixor, 1) ∧ 16 + 1 = 17 := ⟨by decide +kernel, rfl⟩
set_option maxRecDepth 20000 in
theorem dX11_bribe_17 : decode cX11_bribe 17 = .ok (.iand, 1) ∧ 17 + 1 = 18 := ⟨by decide +kernel, rfl⟩
set_option maxRecDepth 20000 in
theorem dX11_bribe_18 : decode cX11_bribe 18 = .ok (.ifCond .eq 9, 3) ∧ 18 + 3 = 21 ∧ ((18 : Nat) : Int) + (9) = ((27 : Nat) : Int) := ⟨by decide +kernel, rfl, by decide⟩
set_option maxRecDepth 20000 in
theorem dX11_bribe_21 : decode cX11_bribe 21 = .ok (.aload_n 0, 1) ∧ 21 + 1 = 22 := ⟨by decide +kernel, rfl⟩
set_option maxRecDepth 20000 in
theorem dX11_bribe_22 : decode cX11_bribe 22 = .ok (.iconst (-1), 1) ∧ 22 + 1 = 23 := ⟨by decide +kernel, rfl⟩
set_option maxRecDepth 20000 in
theorem dX11_bribe_23 : decode cX11_bribe 23 = .ok (.invokevirtual 97, 3) ∧ 23 + 3 = 26 := ⟨by decide +kernel, rfl⟩
set_option maxRecDepth 20000 in
theorem dX11_bribe_26 : decode cX11_bribe 26 = .ok (.ireturn, 1) := by decide +kernel
set_option maxRecDepth 20000 in
theorem dX11_bribe_27 : decode cX11_bribe 27 = .ok (.aload_n 0, 1) ∧ 27 + 1 = 28 := ⟨by decide +kernel, rfl⟩
set_option maxRecDepth 20000 in
theorem dX11_bribe_28 : decode cX11_bribe 28 = .ok (.getfield 57, 3) ∧ 28 + 3 = 31 := ⟨by decide +kernel, rfl⟩
set_option maxRecDepth 20000 in
theorem dX11_bribe_31 : decode cX11_bribe 31 = .ok (.aload_n 0, 1) ∧ 31 + 1 = 32 := ⟨by decide +kernel, rfl⟩
set_option maxRecDepth 20000 in
theorem dX11_bribe_32 : decode cX11_bribe 32 = .ok (.getfield 10, 3) ∧ 32 + 3 = 35 := ⟨by decide +kernel, rfl⟩
set_option maxRecDepth 20000 in
theorem dX11_bribe_35 : decode cX11_bribe 35 = .ok (.aload_n 0, 1) ∧ 35 + 1 = 36 := ⟨by decide +kernel, rfl⟩
set_option maxRecDepth 20000 in
theorem dX11_bribe_36 : decode cX11_bribe 36 = .ok (.getfield 43, 3) ∧ 36 + 3 = 39 := ⟨by decide +kernel, rfl⟩
set_option maxRecDepth 20000 in
theorem dX11_bribe_39 : decode cX11_bribe 39 = .ok (.invokevirtual 263, 3) ∧ 39 + 3 = 42 := ⟨by decide +kernel, rfl⟩
set_option maxRecDepth 20000 in
theorem dX11_bribe_42 : decode cX11_bribe 42 = .ok (.aload_n 0, 1) ∧ 42 + 1 = 43 := ⟨by decide +kernel, rfl⟩
set_option maxRecDepth 20000 in
theorem dX11_bribe_43 : decode cX11_bribe 43 = .ok (.getfield 57, 3) ∧ 43 + 3 = 46 := ⟨by decide +kernel, rfl⟩
set_option maxRecDepth 20000 in
theorem dX11_bribe_46 : decode cX11_bribe 46 = .ok (.iload_n 1, 1) ∧ 46 + 1 = 47 := ⟨by decide +kernel, rfl⟩
set_option maxRecDepth 20000 in
theorem dX11_bribe_47 : decode cX11_bribe 47 = .ok (.iload_n 2, 1) ∧ 47 + 1 = 48 := ⟨by decide +kernel, rfl⟩
set_option maxRecDepth 20000 in
theorem dX11_bribe_48 : decode cX11_bribe 48 = .ok (.invokevirtual 267, 3) ∧ 48 + 3 = 51 := ⟨by decide +kernel, rfl⟩
set_option maxRecDepth 20000 in
theorem dX11_bribe_51 : decode cX11_bribe 51 = .ok (.ifCond .ne 10, 3) ∧ 51 + 3 = 54 ∧ ((51 : Nat) : Int) + (10) = ((61 : Nat) : Int) := ⟨by decide +kernel, rfl, by decide⟩
set_option maxRecDepth 20000 in
theorem dX11_bribe_54 : decode cX11_bribe 54 = .ok (.aload_n 0, 1) ∧ 54 + 1 = 55 := ⟨by decide +kernel, rfl⟩
set_option maxRecDepth 20000 in
theorem dX11_bribe_55 : decode cX11_bribe 55 = .ok (.bipush (-3), 2) ∧ 55 + 2 = 57 := ⟨by decide +kernel, rfl⟩
set_option maxRecDepth 20000 in
theorem dX11_bribe_57 : decode cX11_bribe 57 = .ok (.invokevirtual 97, 3) ∧ 57 + 3 = 60 := ⟨by decide +kernel, rfl⟩
set_option maxRecDepth 20000 in
theorem dX11_bribe_60 : decode cX11_bribe 60 = .ok (.ireturn, 1) := by decide +kernel
set_option maxRecDepth 20000 in
theorem dX11_bribe_61 : decode cX11_bribe 61 = .ok (.aload_n 0, 1) ∧ 61 + 1 = 62 := ⟨by decide +kernel, rfl⟩
set_option maxRecDepth 20000 in
theorem dX11_bribe_62 : decode cX11_bribe 62 = .ok (.getfield 57, 3) ∧ 62 + 3 = 65 := ⟨by decide +kernel, rfl⟩
set_option maxRecDepth 20000 in
theorem dX11_bribe_65 : decode cX11_bribe 65 = .ok (.iload_n 1, 1) ∧ 65 + 1 = 66 := ⟨by decide +kernel, rfl⟩
set_option maxRecDepth 20000 in
theorem dX11_bribe_66 : decode cX11_bribe 66 = .ok (.iload_n 2, 1) ∧ 66 + 1 = 67 := ⟨by decide +kernel, rfl⟩
set_option maxRecDepth 20000 in
theorem dX11_bribe_67 : decode cX11_bribe 67 = .ok (.iconst 1, 1) ∧ 67 + 1 = 68 := ⟨by decide +kernel, rfl⟩
set_option maxRecDepth 20000 in
theorem dX11_bribe_68 : decode cX11_bribe 68 = .ok (.invokevirtual 280, 3) ∧ 68 + 3 = 71 := ⟨by decide +kernel, rfl⟩
set_option maxRecDepth 20000 in
theorem dX11_bribe_71 : decode cX11_bribe 71 = .ok (.istore_n 3, 1) ∧ 71 + 1 = 72 := ⟨by decide +kernel, rfl⟩
set_option maxRecDepth 20000 in
theorem dX11_bribe_72 : decode cX11_bribe 72 = .ok (.aload_n 0, 1) ∧ 72 + 1 = 73 := ⟨by decide +kernel, rfl⟩
set_option maxRecDepth 20000 in
theorem dX11_bribe_73 : decode cX11_bribe 73 = .ok (.getfield 10, 3) ∧ 73 + 3 = 76 := ⟨by decide +kernel, rfl⟩
set_option maxRecDepth 20000 in
theorem dX11_bribe_76 : decode cX11_bribe 76 = .ok (.getfield 149, 3) ∧ 76 + 3 = 79 := ⟨by decide +kernel, rfl⟩
set_option maxRecDepth 20000 in
theorem dX11_bribe_79 : decode cX11_bribe 79 = .ok (.iconst 3, 1) ∧ 79 + 1 = 80 := ⟨by decide +kernel, rfl⟩
set_option maxRecDepth 20000 in
theorem dX11_bribe_80 : decode cX11_bribe 80 = .ok (.iload_n 1, 1) ∧ 80 + 1 = 81 := ⟨by decide +kernel, rfl⟩
set_option maxRecDepth 20000 in
theorem dX11_bribe_81 : decode cX11_bribe 81 = .ok (.iadd, 1) ∧ 81 + 1 = 82 := ⟨by decide +kernel, rfl⟩
set_option maxRecDepth 20000 in
theorem dX11_bribe_82 : decode cX11_bribe 82 = .ok (.dup2, 1) ∧ 82 + 1 = 83 := ⟨by decide +kernel, rfl⟩
set_option maxRecDepth 20000 in
theorem dX11_bribe_83 : decode cX11_bribe 83 = .ok (.iaload, 1) ∧ 83 + 1 = 84 := ⟨by decide +kernel, rfl⟩
set_option maxRecDepth 20000 in
theorem dX11_bribe_84 : decode cX11_bribe 84 = .ok (.iload_n 3, 1) ∧ 84 + 1 = 85 := ⟨by decide +kernel, rfl⟩
set_option maxRecDepth 20000 in
theorem dX11_bribe_85 : decode cX11_bribe 85 = .ok (.isub, 1) ∧ 85 + 1 = 86 := ⟨by decide +kernel, rfl⟩
set_option maxRecDepth 20000 in
theorem dX11_bribe_86 : decode cX11_bribe 86 = .ok (.iastore, 1) ∧ 86 + 1 = 87 := ⟨by decide +kernel, rfl⟩
set_option maxRecDepth 20000 in
theorem dX11_bribe_87 : decode cX11_bribe 87 = .ok (.iconst 0, 1) ∧ 87 + 1 = 88 := ⟨by decide +kernel, rfl⟩
set_option maxRecDepth 20000 in
theorem dX11_bribe_88 : decode cX11_bribe 88 = .ok (.istore 4, 2) ∧ 88 + 2 = 90 := ⟨by decide +kernel, rfl⟩
set_option maxRecDepth 20000 in
theorem dX11_bribe_90 : decode cX11_bribe 90 = .ok (.iload 4, 2) ∧ 90 + 2 = 92 := ⟨by decide +kernel, rfl⟩
set_option maxRecDepth 20000 in
theorem dX11_bribe_92 : decode cX11_bribe 92 = .ok (.aload_n 0, 1) ∧ 92 + 1 = 93 := ⟨by decide +kernel, rfl⟩
set_option maxRecDepth 20000 in
theorem dX11_bribe_93 : decode cX11_bribe 93 = .ok (.getfield 10, 3) ∧ 93 + 3 = 96 := ⟨by decide +kernel, rfl⟩
set_option maxRecDepth 20000 in
theorem dX11_bribe_96 : decode cX11_bribe 96 = .ok (.getfield 101, 3) ∧ 96 + 3 = 99 := ⟨by decide +kernel, rfl⟩
set_option maxRecDepth 20000 in
theorem dX11_bribe_99 : decode cX11_bribe 99 = .ok (.if_icmp .ge 43, 3) ∧ 99 + 3 = 102 ∧ ((99 : Nat) : Int) + (43) = ((142 : Nat) : Int) := ⟨by decide +kernel, rfl, by decide⟩
set_option maxRecDepth 20000 in
theorem dX11_bribe_102 : decode cX11_bribe 102 = .ok (.iload_n 2, 1) ∧ 102 + 1 = 103 := ⟨by decide +kernel, rfl⟩
set_option maxRecDepth 20000 in
theorem dX11_bribe_103 : decode cX11_bribe 103 = .ok (.iload 4, 2) ∧ 103 + 2 = 105 := ⟨by decide +kernel, rfl⟩
set_option maxRecDepth 20000 in
theorem dX11_bribe_105 : decode cX11_bribe 105 = .ok (.ishr, 1) ∧ 105 + 1 = 106 := ⟨by decide +kernel, rfl⟩
set_option maxRecDepth 20000 in
theorem dX11_bribe_106 : decode cX11_bribe 106 = .ok (.iconst 1, 1) ∧ 106 + 1 = 107 := ⟨by decide +kernel, rfl⟩
set_option maxRecDepth 20000 in
theorem dX11_bribe_107 : decode cX11_bribe 107 = .ok (.iand, 1) ∧ 107 + 1 = 108 := ⟨by decide +kernel, rfl⟩
set_option maxRecDepth 20000 in
theorem dX11_bribe_108 : decode cX11_bribe 108 = .ok (.iconst 1, 1) ∧ 108 + 1 = 109 := ⟨by decide +kernel, rfl⟩
set_option maxRecDepth 20000 in
theorem dX11_bribe_109 : decode cX11_bribe 109 = .ok (.if_icmp .ne 27, 3) ∧ 109 + 3 = 112 ∧ ((109 : Nat) : Int) + (27) = ((136 : Nat) : Int) := ⟨by decide +kernel, rfl, by decide⟩
set_option maxRecDepth 20000 in
theorem dX11_bribe_112 : decode cX11_bribe 112 = .ok (.aload_n 0, 1) ∧ 112 + 1 = 113 := ⟨by decide +kernel, rfl⟩
set_option maxRecDepth 20000 in
theorem dX11_bribe_113 : decode cX11_bribe 113 = .ok (.getfield 10, 3) ∧ 113 + 3 = 116 := ⟨by decide +kernel, rfl⟩
set_option maxRecDepth 20000 in
theorem dX11_bribe_116 : decode cX11_bribe 116 = .ok (.iload 4, 2) ∧ 116 + 2 = 118 := ⟨by decide +kernel, rfl⟩
set_option maxRecDepth 20000 in
theorem dX11_bribe_118 : decode cX11_bribe 118 = .ok (.iconst 5, 1) ∧ 118 + 1 = 119 := ⟨by decide +kernel, rfl⟩
set_option maxRecDepth 20000 in
theorem dX11_bribe_119 : decode cX11_bribe 119 = .ok (.aload_n 0, 1) ∧ 119 + 1 = 120 := ⟨by decide +kernel, rfl⟩
set_option maxRecDepth 20000 in
theorem dX11_bribe_120 : decode cX11_bribe 120 = .ok (.getfield 10, 3) ∧ 120 + 3 = 123 := ⟨by decide +kernel, rfl⟩
set_option maxRecDepth 20000 in
theorem dX11_bribe_123 : decode cX11_bribe 123 = .ok (.iload 4, 2) ∧ 123 + 2 = 125 := ⟨by decide +kernel, rfl⟩
set_option maxRecDepth 20000 in
theorem dX11_bribe_125 : decode cX11_bribe 125 = .ok (.iconst 5, 1) ∧ 125 + 1 = 126 := ⟨by decide +kernel, rfl⟩
set_option maxRecDepth 20000 in
theorem dX11_bribe_126 : decode cX11_bribe 126 = .ok (.invokevirtual 115, 3) ∧ 126 + 3 = 129 := ⟨by decide +kernel, rfl⟩
set_option maxRecDepth 20000 in
theorem dX11_bribe_129 : decode cX11_bribe 129 = .ok (.iconst 1, 1) ∧ 129 + 1 = 130 := ⟨by decide +kernel, rfl⟩
set_option maxRecDepth 20000 in
theorem dX11_bribe_130 : decode cX11_bribe 130 = .ok (.iload_n 1, 1) ∧ 130 + 1 = 131 := ⟨by decide +kernel, rfl⟩
set_option maxRecDepth 20000 in
theorem dX11_bribe_131 : decode cX11_bribe 131 = .ok (.ishl, 1) ∧ 131 + 1 = 132 := ⟨by decide +kernel, rfl⟩
set_option maxRecDepth 20000 in
theorem dX11_bribe_132 : decode cX11_bribe 132 = .ok (.ior, 1) ∧ 132 + 1 = 133 := ⟨by decide +kernel, rfl⟩
set_option maxRecDepth 20000 in
theorem dX11_bribe_133 : decode cX11_bribe 133 = .ok (.invokevirtual 104, 3) ∧ 133 + 3 = 136 := ⟨by decide +kernel, rfl⟩
set_option maxRecDepth 20000 in
theorem dX11_bribe_136 : decode cX11_bribe 136 = .ok (.iinc 4 1, 3) ∧ 136 + 3 = 139 := ⟨by decide +kernel, rfl⟩
set_option maxRecDepth 20000 in
theorem dX11_bribe_139 : decode cX11_bribe 139 = .ok (.goto (-49), 3) ∧ ((139 : Nat) : Int) + (-49) = ((90 : Nat) : Int) := ⟨by decide +kernel, by decide⟩
set_option maxRecDepth 20000 in
theorem dX11_bribe_142 : decode cX11_bribe 142 = .ok (.aload_n 0, 1) ∧ 142 + 1 = 143 := ⟨by decide +kernel, rfl⟩
set_option maxRecDepth 20000 in
theorem dX11_bribe_143 : decode cX11_bribe 143 = .ok (.iload_n 3, 1) ∧ 143 + 1 = 144 := ⟨by decide +kernel, rfl⟩
set_option maxRecDepth 20000 in
theorem dX11_bribe_144 : decode cX11_bribe 144 = .ok (.invokevirtual 108, 3) ∧ 144 + 3 = 147 := ⟨by decide +kernel, rfl⟩
set_option maxRecDepth 20000 in
theorem dX11_bribe_147 : decode cX11_bribe 147 = .ok (.ireturn, 1) := by decide +kernel
set_option maxRecDepth 20000 in
theorem dX11_steady_0 : decode cX11_steady 0 = .ok (.iload_n 1, 1) ∧ 0 + 1 = 1 := ⟨by decide +kernel, rfl⟩
set_option maxRecDepth 20000 in
theorem dX11_steady_1 : decode cX11_steady 1 = .ok (.iconst 1, 1) ∧ 1 + 1 = 2 := ⟨by decide +kernel, rfl⟩
set_option maxRecDepth 20000 in
theorem dX11_steady_2 : decode cX11_steady 2 = .ok (.if_icmp .lt 21, 3) ∧ 2 + 3 = 5 ∧ ((2 : Nat) : Int) + (21) = ((23 : Nat) : Int) := ⟨by decide +kernel, rfl, by decide⟩
set_option maxRecDepth 20000 in
theorem dX11_steady_5 : decode cX11_steady 5 = .ok (.iload_n 1, 1) ∧ 5 + 1 = 6 := ⟨by decide +kernel, rfl⟩
set_option maxRecDepth 20000 in
theorem dX11_steady_6 : decode cX11_steady 6 = .ok (.aload_n 0, 1) ∧ 6 + 1 = 7 := ⟨by decide +kernel, rfl⟩
set_option maxRecDepth 20000 in
theorem dX11_steady_7 : decode cX11_steady 7 = .ok (.getfield 10, 3) ∧ 7 + 3 = 10 := ⟨by decide +kernel, rfl⟩
set_option maxRecDepth 20000 in
theorem dX11_steady_10 : decode cX11_steady 10 = .ok (.getfield 101, 3) ∧ 10 + 3 = 13 := ⟨by decide +kernel, rfl⟩
set_option maxRecDepth 20000 in
theorem dX11_steady_13 : decode cX11_steady 13 = .ok (.if_icmp .gt 10, 3) ∧ 13 + 3 = 16 ∧ ((13 : Nat) : Int) + (10) = ((23 : Nat) : Int) := ⟨by decide +kernel, rfl, by decide⟩
set_option maxRecDepth 20000 in
theorem dX11_steady_16 : decode cX11_steady 16 = .ok (.iload_n 2, 1) ∧ 16 + 1 = 17 := ⟨by decide +kernel, rfl⟩
set_option maxRecDepth 20000 in
theorem dX11_steady_17 : decode cX11_steady 17 = .ok (.invokestatic 274, 3) ∧ 17 + 3 = 20 := ⟨by decide +kernel, rfl⟩
set_option maxRecDepth 20000 in
theorem dX11_steady_20 : decode cX11_steady 20 = .ok (.ifCond .ne 5, 3) ∧ 20 + 3 = 23 ∧ ((20 : Nat) : Int) + (5) = ((25 : Nat) : Int) := ⟨by decide +kernel, rfl, by decide⟩
set_option maxRecDepth 20000 in
theorem dX11_steady_23 : decode cX11_steady 23 = .ok (.iconst (-1), 1) ∧ 23 + 1 = 24 := ⟨by decide +kernel, rfl⟩
set_option maxRecDepth 20000 in
theorem dX11_steady_24 : decode cX11_steady 24 = .ok (.ireturn, 1) := by decide +kernel
set_option maxRecDepth 20000 in
theorem dX11_steady_25 : decode cX11_steady 25 = .ok (.aload_n 0, 1) ∧ 25 + 1 = 26 := ⟨by decide +kernel, rfl⟩
set_option maxRecDepth 20000 in
theorem dX11_steady_26 : decode cX11_steady 26 = .ok (.getfield 57, 3) ∧ 26 + 3 = 29 := ⟨by decide +kernel, rfl⟩
set_option maxRecDepth 20000 in
theorem dX11_steady_29 : decode cX11_steady 29 = .ok (.aload_n 0, 1) ∧ 29 + 1 = 30 := ⟨by decide +kernel, rfl⟩
set_option maxRecDepth 20000 in
theorem dX11_steady_30 : decode cX11_steady 30 = .ok (.getfield 10, 3) ∧ 30 + 3 = 33 := ⟨by decide +kernel, rfl⟩
set_option maxRecDepth 20000 in
theorem dX11_steady_33 : decode cX11_steady 33 = .ok (.aload_n 0, 1) ∧ 33 + 1 = 34 := ⟨by decide +kernel, rfl⟩
set_option maxRecDepth 20000 in
theorem dX11_steady_34 : decode cX11_steady 34 = .ok (.getfield 43, 3) ∧ 34 + 3 = 37 := ⟨by decide +kernel, rfl⟩
set_option maxRecDepth 20000 in
theorem dX11_steady_37 : decode cX11_steady 37 = .ok (.invokevirtual 263, 3) ∧ 37 + 3 = 40 := ⟨by decide +kernel, rfl⟩
set_option maxRecDepth 20000 in
theorem dX11_steady_40 : decode cX11_steady 40 = .ok (.aload_n 0, 1) ∧ 40 + 1 = 41 := ⟨by decide +kernel, rfl⟩
set_option maxRecDepth 20000 in
theorem dX11_steady_41 : decode cX11_steady 41 = .ok (.getfield 57, 3) ∧ 41 + 3 = 44 := ⟨by decide +kernel, rfl⟩
set_option maxRecDepth 20000 in
theorem dX11_steady_44 : decode cX11_steady 44 = .ok (.iload_n 1, 1) ∧ 44 + 1 = 45 := ⟨by decide +kernel, rfl⟩
set_option maxRecDepth 20000 in
theorem dX11_steady_45 : decode cX11_steady 45 = .ok (.invokevirtual 301, 3) ∧ 45 + 3 = 48 := ⟨by decide +kernel, rfl⟩
set_option maxRecDepth 20000 in
theorem dX11_steady_48 : decode cX11_steady 48 = .ok (.iload_n 2, 1) ∧ 48 + 1 = 49 := ⟨by decide +kernel, rfl⟩
set_option maxRecDepth 20000 in
theorem dX11_steady_49 : decode cX11_steady 49 = .ok (.ifCond .ne 13, 3) ∧ 49 + 3 = 52 ∧ ((49 : Nat) : Int) + (13) = ((62 : Nat) : Int) := ⟨by decide +kernel, rfl, by decide⟩
set_option maxRecDepth 20000 in
theorem dX11_steady_52 : decode cX11_steady 52 = .ok (.aload_n 0, 1) ∧ 52 + 1 = 53 := ⟨by decide +kernel, rfl⟩
set_option maxRecDepth 20000 in
theorem dX11_steady_53 : decode cX11_steady 53 = .ok (.getfield 57, 3) ∧ 53 + 3 = 56 := ⟨by decide +kernel, rfl⟩
set_option maxRecDepth 20000 in
theorem dX11_steady_56 : decode cX11_steady 56 = .ok (.getfield 304, 3) ∧ 56 + 3 = 59 := ⟨by decide +kernel, rfl⟩
set_option maxRecDepth 20000 in
theorem dX11_steady_59 : decode cX11_steady 59 = .ok (.goto 10, 3) ∧ ((59 : Nat) : Int) + (10) = ((69 : Nat) : Int) := ⟨by decide +kernel, by decide⟩
set_option maxRecDepth 20000 in
theorem dX11_steady_62 : decode cX11_steady 62 = .ok (.aload_n 0, 1) ∧ 62 + 1 = 63 := ⟨by decide +kernel, rfl⟩
set_option maxRecDepth 20000 in
theorem dX11_steady_63 : decode cX11_steady 63 = .ok (.getfield 57, 3) ∧ 63 + 3 = 66 := ⟨by decide +kernel, rfl⟩
set_option maxRecDepth 20000 in
theorem dX11_steady_66 : decode cX11_steady 66 = .ok (.getfield 307, 3) ∧ 66 + 3 = 69 := ⟨by decide +kernel, rfl⟩
set_option maxRecDepth 20000 in
theorem dX11_steady_69 : decode cX11_steady 69 = .ok (.ireturn, 1) := by decide +kernel
set_option maxRecDepth 20000 in
theorem dX11_swing_0 : decode cX11_swing 0 = .ok (.iload_n 1, 1) ∧ 0 + 1 = 1 := ⟨by decide +kernel, rfl⟩
set_option maxRecDepth 20000 in
theorem dX11_swing_1 : decode cX11_swing 1 = .ok (.iconst 1, 1) ∧ 1 + 1 = 2 := ⟨by decide +kernel, rfl⟩
set_option maxRecDepth 20000 in
theorem dX11_swing_2 : decode cX11_swing 2 = .ok (.if_icmp .lt 14, 3) ∧ 2 + 3 = 5 ∧ ((2 : Nat) : Int) + (14) = ((16 : Nat) : Int) := ⟨by decide +kernel, rfl, by decide⟩
set_option maxRecDepth 20000 in
theorem dX11_swing_5 : decode cX11_swing 5 = .ok (.iload_n 1, 1) ∧ 5 + 1 = 6 := ⟨by decide +kernel, rfl⟩
set_option maxRecDepth 20000 in
theorem dX11_swing_6 : decode cX11_swing 6 = .ok (.aload_n 0, 1) ∧ 6 + 1 = 7 := ⟨by decide +kernel, rfl⟩
set_option maxRecDepth 20000 in
theorem dX11_swing_7 : decode cX11_swing 7 = .ok (.getfield 10, 3) ∧ 7 + 3 = 10 := ⟨by decide +kernel, rfl⟩
set_option maxRecDepth 20000 in
theorem dX11_swing_10 : decode cX11_swing 10 = .ok (.getfield 101, 3) ∧ 10 + 3 = 13 := ⟨by decide +kernel, rfl⟩
set_option maxRecDepth 20000 in
theorem dX11_swing_13 : decode cX11_swing 13 = .ok (.if_icmp .le 7, 3) ∧ 13 + 3 = 16 ∧ ((13 : Nat) : Int) + (7) = ((20 : Nat) : Int) := ⟨by decide +kernel, rfl, by decide⟩
set_option maxRecDepth 20000 in
theorem dX11_swing_16 : decode cX11_swing 16 = .ok (.ldc2_w 210, 3) ∧ 16 + 3 = 19 := ⟨by decide +kernel, rfl⟩
set_option maxRecDepth 20000 in
theorem dX11_swing_19 : decode cX11_swing 19 = .ok (.lreturn, 1) := by decide +kernel
set_option maxRecDepth 20000 in
theorem dX11_swing_20 : decode cX11_swing 20 = .ok (.aload_n 0, 1) ∧ 20 + 1 = 21 := ⟨by decide +kernel, rfl⟩
set_option maxRecDepth 20000 in
theorem dX11_swing_21 : decode cX11_swing 21 = .ok (.getfield 57, 3) ∧ 21 + 3 = 24 := ⟨by decide +kernel, rfl⟩
set_option maxRecDepth 20000 in
theorem dX11_swing_24 : decode cX11_swing 24 = .ok (.aload_n 0, 1) ∧ 24 + 1 = 25 := ⟨by decide +kernel, rfl⟩
set_option maxRecDepth 20000 in
theorem dX11_swing_25 : decode cX11_swing 25 = .ok (.getfield 10, 3) ∧ 25 + 3 = 28 := ⟨by decide +kernel, rfl⟩
set_option maxRecDepth 20000 in
theorem dX11_swing_28 : decode cX11_swing 28 = .ok (.aload_n 0, 1) ∧ 28 + 1 = 29 := ⟨by decide +kernel, rfl⟩
set_option maxRecDepth 20000 in
theorem dX11_swing_29 : decode cX11_swing 29 = .ok (.getfield 43, 3) ∧ 29 + 3 = 32 := ⟨by decide +kernel, rfl⟩
set_option maxRecDepth 20000 in
theorem dX11_swing_32 : decode cX11_swing 32 = .ok (.invokevirtual 263, 3) ∧ 32 + 3 = 35 := ⟨by decide +kernel, rfl⟩
set_option maxRecDepth 20000 in
theorem dX11_swing_35 : decode cX11_swing 35 = .ok (.aload_n 0, 1) ∧ 35 + 1 = 36 := ⟨by decide +kernel, rfl⟩
set_option maxRecDepth 20000 in
theorem dX11_swing_36 : decode cX11_swing 36 = .ok (.getfield 57, 3) ∧ 36 + 3 = 39 := ⟨by decide +kernel, rfl⟩
set_option maxRecDepth 20000 in
theorem dX11_swing_39 : decode cX11_swing 39 = .ok (.iload_n 1, 1) ∧ 39 + 1 = 40 := ⟨by decide +kernel, rfl⟩
set_option maxRecDepth 20000 in
theorem dX11_swing_40 : decode cX11_swing 40 = .ok (.invokevirtual 301, 3) ∧ 40 + 3 = 43 := ⟨by decide +kernel, rfl⟩
set_option maxRecDepth 20000 in
theorem dX11_swing_43 : decode cX11_swing 43 = .ok (.aload_n 0, 1) ∧ 43 + 1 = 44 := ⟨by decide +kernel, rfl⟩
set_option maxRecDepth 20000 in
theorem dX11_swing_44 : decode cX11_swing 44 = .ok (.getfield 57, 3) ∧ 44 + 3 = 47 := ⟨by decide +kernel, rfl⟩
set_option maxRecDepth 20000 in
theorem dX11_swing_47 : decode cX11_swing 47 = .ok (.getfield 310, 3) ∧ 47 + 3 = 50 := ⟨by decide +kernel, rfl⟩
set_option maxRecDepth 20000 in
theorem dX11_swing_50 : decode cX11_swing 50 = .ok (.lreturn, 1) := by decide +kernel
set_option maxRecDepth 20000 in
theorem dX11_judged_0 : decode cX11_judged 0 = .ok (.iload_n 1, 1) ∧ 0 + 1 = 1 := ⟨by decide +kernel, rfl⟩
set_option maxRecDepth 20000 in
theorem dX11_judged_1 : decode cX11_judged 1 = .ok (.iload_n 2, 1) ∧ 1 + 1 = 2 := ⟨by decide +kernel, rfl⟩
set_option maxRecDepth 20000 in
theorem dX11_judged_2 : decode cX11_judged 2 = .ok (.iload_n 3, 1) ∧ 2 + 1 = 3 := ⟨by decide +kernel, rfl⟩
set_option maxRecDepth 20000 in
theorem dX11_judged_3 : decode cX11_judged 3 = .ok (.invokestatic 165, 3) ∧ 3 + 3 = 6 := ⟨by decide +kernel, rfl⟩
set_option maxRecDepth 20000 in
theorem dX11_judged_6 : decode cX11_judged 6 = .ok (.ifCond .ne 9, 3) ∧ 6 + 3 = 9 ∧ ((6 : Nat) : Int) + (9) = ((15 : Nat) : Int) := ⟨by decide +kernel, rfl, by decide⟩
set_option maxRecDepth 20000 in
theorem dX11_judged_9 : decode cX11_judged 9 = .ok (.aload_n 0, 1) ∧ 9 + 1 = 10 := ⟨by decide +kernel, rfl⟩
set_option maxRecDepth 20000 in
theorem dX11_judged_10 : decode cX11_judged 10 = .ok (.iconst (-1), 1) ∧ 10 + 1 = 11 := ⟨by decide +kernel, rfl⟩
set_option maxRecDepth 20000 in
theorem dX11_judged_11 : decode cX11_judged 11 = .ok (.invokevirtual 97, 3) ∧ 11 + 3 = 14 := ⟨by decide +kernel, rfl⟩
set_option maxRecDepth 20000 in
theorem dX11_judged_14 : decode cX11_judged 14 = .ok (.ireturn, 1) := by decide +kernel
set_option maxRecDepth 20000 in
theorem dX11_judged_15 : decode cX11_judged 15 = .ok (.aload_n 0, 1) ∧ 15 + 1 = 16 := ⟨by decide +kernel, rfl⟩
set_option maxRecDepth 20000 in
theorem dX11_judged_16 : decode cX11_judged 16 = .ok (.getfield 10, 3) ∧ 16 + 3 = 19 := ⟨by decide +kernel, rfl⟩
set_option maxRecDepth 20000 in
theorem dX11_judged_19 : decode cX11_judged 19 = .ok (.getfield 169, 3) ∧ 19 + 3 = 22 := ⟨by decide +kernel, rfl⟩
set_option maxRecDepth 20000 in
theorem dX11_judged_22 : decode cX11_judged 22 = .ok (.getfield 173, 3) ∧ 22 + 3 = 25 := ⟨by decide +kernel, rfl⟩
set_option maxRecDepth 20000 in
theorem dX11_judged_25 : decode cX11_judged 25 = .ok (.bipush 20, 2) ∧ 25 + 2 = 27 := ⟨by decide +kernel, rfl⟩
set_option maxRecDepth 20000 in
theorem dX11_judged_27 : decode cX11_judged 27 = .ok (.if_icmp .lt 10, 3) ∧ 27 + 3 = 30 ∧ ((27 : Nat) : Int) + (10) = ((37 : Nat) : Int) := ⟨by decide +kernel, rfl, by decide⟩
set_option maxRecDepth 20000 in
theorem dX11_judged_30 : decode cX11_judged 30 = .ok (.aload_n 0, 1) ∧ 30 + 1 = 31 := ⟨by decide +kernel, rfl⟩
set_option maxRecDepth 20000 in
theorem dX11_judged_31 : decode cX11_judged 31 = .ok (.bipush (-5), 2) ∧ 31 + 2 = 33 := ⟨by decide +kernel, rfl⟩
set_option maxRecDepth 20000 in
theorem dX11_judged_33 : decode cX11_judged 33 = .ok (.invokevirtual 97, 3) ∧ 33 + 3 = 36 := ⟨by decide +kernel, rfl⟩
set_option maxRecDepth 20000 in
theorem dX11_judged_36 : decode cX11_judged 36 = .ok (.ireturn, 1) := by decide +kernel
set_option maxRecDepth 20000 in
theorem dX11_judged_37 : decode cX11_judged 37 = .ok (.aload_n 0, 1) ∧ 37 + 1 = 38 := ⟨by decide +kernel, rfl⟩
set_option maxRecDepth 20000 in
theorem dX11_judged_38 : decode cX11_judged 38 = .ok (.getfield 10, 3) ∧ 38 + 3 = 41 := ⟨by decide +kernel, rfl⟩
set_option maxRecDepth 20000 in
theorem dX11_judged_41 : decode cX11_judged 41 = .ok (.getfield 169, 3) ∧ 41 + 3 = 44 := ⟨by decide +kernel, rfl⟩
set_option maxRecDepth 20000 in
theorem dX11_judged_44 : decode cX11_judged 44 = .ok (.iload_n 1, 1) ∧ 44 + 1 = 45 := ⟨by decide +kernel, rfl⟩
set_option maxRecDepth 20000 in
theorem dX11_judged_45 : decode cX11_judged 45 = .ok (.iload_n 2, 1) ∧ 45 + 1 = 46 := ⟨by decide +kernel, rfl⟩
set_option maxRecDepth 20000 in
theorem dX11_judged_46 : decode cX11_judged 46 = .ok (.iload_n 3, 1) ∧ 46 + 1 = 47 := ⟨by decide +kernel, rfl⟩
set_option maxRecDepth 20000 in
theorem dX11_judged_47 : decode cX11_judged 47 = .ok (.invokevirtual 178, 3) ∧ 47 + 3 = 50 := ⟨by decide +kernel, rfl⟩
set_option maxRecDepth 20000 in
theorem dX11_judged_50 : decode cX11_judged 50 = .ok (.aload_n 0, 1) ∧ 50 + 1 = 51 := ⟨by decide +kernel, rfl⟩
set_option maxRecDepth 20000 in
theorem dX11_judged_51 : decode cX11_judged 51 = .ok (.aload_n 0, 1) ∧ 51 + 1 = 52 := ⟨by decide +kernel, rfl⟩
set_option maxRecDepth 20000 in
theorem dX11_judged_52 : decode cX11_judged 52 = .ok (.getfield 10, 3) ∧ 52 + 3 = 55 := ⟨by decide +kernel, rfl⟩
set_option maxRecDepth 20000 in
theorem dX11_judged_55 : decode cX11_judged 55 = .ok (.getfield 169, 3) ∧ 55 + 3 = 58 := ⟨by decide +kernel, rfl⟩
set_option maxRecDepth 20000 in
theorem dX11_judged_58 : decode cX11_judged 58 = .ok (.getfield 173, 3) ∧ 58 + 3 = 61 := ⟨by decide +kernel, rfl⟩
set_option maxRecDepth 20000 in
theorem dX11_judged_61 : decode cX11_judged 61 = .ok (.invokevirtual 108, 3) ∧ 61 + 3 = 64 := ⟨by decide +kernel, rfl⟩
set_option maxRecDepth 20000 in
theorem dX11_judged_64 : decode cX11_judged 64 = .ok (.ireturn, 1) := by decide +kernel
set_option maxRecDepth 20000 in
theorem dX11_annul_0 : decode cX11_annul 0 = .ok (.iload_n 1, 1) ∧ 0 + 1 = 1 := ⟨by decide +kernel, rfl⟩
set_option maxRecDepth 20000 in
theorem dX11_annul_1 : decode cX11_annul 1 = .ok (.ifCond .lt 17, 3) ∧ 1 + 3 = 4 ∧ ((1 : Nat) : Int) + (17) = ((18 : Nat) : Int) := ⟨by decide +kernel, rfl, by decide⟩
set_option maxRecDepth 20000 in
theorem dX11_annul_4 : decode cX11_annul 4 = .ok (.iload_n 1, 1) ∧ 4 + 1 = 5 := ⟨by decide +kernel, rfl⟩
set_option maxRecDepth 20000 in
theorem dX11_annul_5 : decode cX11_annul 5 = .ok (.aload_n 0, 1) ∧ 5 + 1 = 6 := ⟨by decide +kernel, rfl⟩
set_option maxRecDepth 20000 in
theorem dX11_annul_6 : decode cX11_annul 6 = .ok (.getfield 10, 3) ∧ 6 + 3 = 9 := ⟨by decide +kernel, rfl⟩
set_option maxRecDepth 20000 in
theorem dX11_annul_9 : decode cX11_annul 9 = .ok (.getfield 169, 3) ∧ 9 + 3 = 12 := ⟨by decide +kernel, rfl⟩
set_option maxRecDepth 20000 in
theorem dX11_annul_12 : decode cX11_annul 12 = .ok (.getfield 173, 3) ∧ 12 + 3 = 15 := ⟨by decide +kernel, rfl⟩
set_option maxRecDepth 20000 in
theorem dX11_annul_15 : decode cX11_annul 15 = .ok (.if_icmp .lt 10, 3) ∧ 15 + 3 = 18 ∧ ((15 : Nat) : Int) + (10) = ((25 : Nat) : Int) := ⟨by decide +kernel, rfl, by decide⟩
set_option maxRecDepth 20000 in
theorem dX11_annul_18 : decode cX11_annul 18 = .ok (.aload_n 0, 1) ∧ 18 + 1 = 19 := ⟨by decide +kernel, rfl⟩
set_option maxRecDepth 20000 in
theorem dX11_annul_19 : decode cX11_annul 19 = .ok (.bipush (-2), 2) ∧ 19 + 2 = 21 := ⟨by decide +kernel, rfl⟩
set_option maxRecDepth 20000 in
theorem dX11_annul_21 : decode cX11_annul 21 = .ok (.invokevirtual 97, 3) ∧ 21 + 3 = 24 := ⟨by decide +kernel, rfl⟩
set_option maxRecDepth 20000 in
theorem dX11_annul_24 : decode cX11_annul 24 = .ok (.ireturn, 1) := by decide +kernel
set_option maxRecDepth 20000 in
theorem dX11_annul_25 : decode cX11_annul 25 = .ok (.aload_n 0, 1) ∧ 25 + 1 = 26 := ⟨by decide +kernel, rfl⟩
set_option maxRecDepth 20000 in
theorem dX11_annul_26 : decode cX11_annul 26 = .ok (.getfield 10, 3) ∧ 26 + 3 = 29 := ⟨by decide +kernel, rfl⟩
set_option maxRecDepth 20000 in
theorem dX11_annul_29 : decode cX11_annul 29 = .ok (.getfield 169, 3) ∧ 29 + 3 = 32 := ⟨by decide +kernel, rfl⟩
set_option maxRecDepth 20000 in
theorem dX11_annul_32 : decode cX11_annul 32 = .ok (.iload_n 1, 1) ∧ 32 + 1 = 33 := ⟨by decide +kernel, rfl⟩
set_option maxRecDepth 20000 in
theorem dX11_annul_33 : decode cX11_annul 33 = .ok (.invokevirtual 314, 3) ∧ 33 + 3 = 36 := ⟨by decide +kernel, rfl⟩
set_option maxRecDepth 20000 in
theorem dX11_annul_36 : decode cX11_annul 36 = .ok (.aload_n 0, 1) ∧ 36 + 1 = 37 := ⟨by decide +kernel, rfl⟩
set_option maxRecDepth 20000 in
theorem dX11_annul_37 : decode cX11_annul 37 = .ok (.aload_n 0, 1) ∧ 37 + 1 = 38 := ⟨by decide +kernel, rfl⟩
set_option maxRecDepth 20000 in
theorem dX11_annul_38 : decode cX11_annul 38 = .ok (.getfield 10, 3) ∧ 38 + 3 = 41 := ⟨by decide +kernel, rfl⟩
set_option maxRecDepth 20000 in
theorem dX11_annul_41 : decode cX11_annul 41 = .ok (.getfield 169, 3) ∧ 41 + 3 = 44 := ⟨by decide +kernel, rfl⟩
set_option maxRecDepth 20000 in
theorem dX11_annul_44 : decode cX11_annul 44 = .ok (.getfield 173, 3) ∧ 44 + 3 = 47 := ⟨by decide +kernel, rfl⟩
set_option maxRecDepth 20000 in
theorem dX11_annul_47 : decode cX11_annul 47 = .ok (.invokevirtual 108, 3) ∧ 47 + 3 = 50 := ⟨by decide +kernel, rfl⟩
set_option maxRecDepth 20000 in
theorem dX11_annul_50 : decode cX11_annul 50 = .ok (.ireturn, 1) := by decide +kernel
set_option maxRecDepth 20000 in
theorem dX11_right_0 : decode cX11_right 0 = .ok (.iload_n 1, 1) ∧ 0 + 1 = 1 := ⟨by decide +kernel, rfl⟩
set_option maxRecDepth 20000 in
theorem dX11_right_1 : decode cX11_right 1 = .ok (.iconst (-1), 1) ∧ 1 + 1 = 2 := ⟨by decide +kernel, rfl⟩
set_option maxRecDepth 20000 in
theorem dX11_right_2 : decode cX11_right 2 = .ok (.if_icmp .ne 18, 3) ∧ 2 + 3 = 5 ∧ ((2 : Nat) : Int) + (18) = ((20 : Nat) : Int) := ⟨by decide +kernel, rfl, by decide⟩
set_option maxRecDepth 20000 in
theorem dX11_right_5 : decode cX11_right 5 = .ok (.iload_n 2, 1) ∧ 5 + 1 = 6 := ⟨by decide +kernel, rfl⟩
set_option maxRecDepth 20000 in
theorem dX11_right_6 : decode cX11_right 6 = .ok (.ifCond .ne 14, 3) ∧ 6 + 3 = 9 ∧ ((6 : Nat) : Int) + (14) = ((20 : Nat) : Int) := ⟨by decide +kernel, rfl, by decide⟩
set_option maxRecDepth 20000 in
theorem dX11_right_9 : decode cX11_right 9 = .ok (.aload_n 0, 1) ∧ 9 + 1 = 10 := ⟨by decide +kernel, rfl⟩
set_option maxRecDepth 20000 in
theorem dX11_right_10 : decode cX11_right 10 = .ok (.getfield 10, 3) ∧ 10 + 3 = 13 := ⟨by decide +kernel, rfl⟩
set_option maxRecDepth 20000 in
theorem dX11_right_13 : decode cX11_right 13 = .ok (.getfield 169, 3) ∧ 13 + 3 = 16 := ⟨by decide +kernel, rfl⟩
set_option maxRecDepth 20000 in
theorem dX11_right_16 : decode cX11_right 16 = .ok (.invokevirtual 317, 3) ∧ 16 + 3 = 19 := ⟨by decide +kernel, rfl⟩
set_option maxRecDepth 20000 in
theorem dX11_right_19 : decode cX11_right 19 = .ok (.ireturn, 1) := by decide +kernel
set_option maxRecDepth 20000 in
theorem dX11_right_20 : decode cX11_right 20 = .ok (.iload_n 1, 1) ∧ 20 + 1 = 21 := ⟨by decide +kernel, rfl⟩
set_option maxRecDepth 20000 in
theorem dX11_right_21 : decode cX11_right 21 = .ok (.ifCond .lt 16, 3) ∧ 21 + 3 = 24 ∧ ((21 : Nat) : Int) + (16) = ((37 : Nat) : Int) := ⟨by decide +kernel, rfl, by decide⟩
set_option maxRecDepth 20000 in
theorem dX11_right_24 : decode cX11_right 24 = .ok (.iload_n 1, 1) ∧ 24 + 1 = 25 := ⟨by decide +kernel, rfl⟩
set_option maxRecDepth 20000 in
theorem dX11_right_25 : decode cX11_right 25 = .ok (.bipush 8, 2) ∧ 25 + 2 = 27 := ⟨by decide +kernel, rfl⟩
set_option maxRecDepth 20000 in
theorem dX11_right_27 : decode cX11_right 27 = .ok (.if_icmp .ge 10, 3) ∧ 27 + 3 = 30 ∧ ((27 : Nat) : Int) + (10) = ((37 : Nat) : Int) := ⟨by decide +kernel, rfl, by decide⟩
set_option maxRecDepth 20000 in
theorem dX11_right_30 : decode cX11_right 30 = .ok (.iload_n 2, 1) ∧ 30 + 1 = 31 := ⟨by decide +kernel, rfl⟩
set_option maxRecDepth 20000 in
theorem dX11_right_31 : decode cX11_right 31 = .ok (.invokestatic 274, 3) ∧ 31 + 3 = 34 := ⟨by decide +kernel, rfl⟩
set_option maxRecDepth 20000 in
theorem dX11_right_34 : decode cX11_right 34 = .ok (.ifCond .ne 5, 3) ∧ 34 + 3 = 37 ∧ ((34 : Nat) : Int) + (5) = ((39 : Nat) : Int) := ⟨by decide +kernel, rfl, by decide⟩
set_option maxRecDepth 20000 in
theorem dX11_right_37 : decode cX11_right 37 = .ok (.iconst (-1), 1) ∧ 37 + 1 = 38 := ⟨by decide +kernel, rfl⟩
set_option maxRecDepth 20000 in
theorem dX11_right_38 : decode cX11_right 38 = .ok (.ireturn, 1) := by decide +kernel
set_option maxRecDepth 20000 in
theorem dX11_right_39 : decode cX11_right 39 = .ok (.aload_n 0, 1) ∧ 39 + 1 = 40 := ⟨by decide +kernel, rfl⟩
set_option maxRecDepth 20000 in
theorem dX11_right_40 : decode cX11_right 40 = .ok (.getfield 10, 3) ∧ 40 + 3 = 43 := ⟨by decide +kernel, rfl⟩
set_option maxRecDepth 20000 in
theorem dX11_right_43 : decode cX11_right 43 = .ok (.getfield 169, 3) ∧ 43 + 3 = 46 := ⟨by decide +kernel, rfl⟩
set_option maxRecDepth 20000 in
theorem dX11_right_46 : decode cX11_right 46 = .ok (.iload_n 1, 1) ∧ 46 + 1 = 47 := ⟨by decide +kernel, rfl⟩
set_option maxRecDepth 20000 in
theorem dX11_right_47 : decode cX11_right 47 = .ok (.iload_n 2, 1) ∧ 47 + 1 = 48 := ⟨by decide +kernel, rfl⟩
set_option maxRecDepth 20000 in
theorem dX11_right_48 : decode cX11_right 48 = .ok (.iconst (-1), 1) ∧ 48 + 1 = 49 := ⟨by decide +kernel, rfl⟩
set_option maxRecDepth 20000 in
theorem dX11_right_49 : decode cX11_right 49 = .ok (.invokevirtual 320, 3) ∧ 49 + 3 = 52 := ⟨by decide +kernel, rfl⟩
set_option maxRecDepth 20000 in
theorem dX11_right_52 : decode cX11_right 52 = .ok (.ireturn, 1) := by decide +kernel
set_option maxRecDepth 20000 in
theorem dX11_agree_0 : decode cX11_agree 0 = .ok (.iload_n 1, 1) ∧ 0 + 1 = 1 := ⟨by decide +kernel, rfl⟩
set_option maxRecDepth 20000 in
theorem dX11_agree_1 : decode cX11_agree 1 = .ok (.ifCond .lt 23, 3) ∧ 1 + 3 = 4 ∧ ((1 : Nat) : Int) + (23) = ((24 : Nat) : Int) := ⟨by decide +kernel, rfl, by decide⟩
set_option maxRecDepth 20000 in
theorem dX11_agree_4 : decode cX11_agree 4 = .ok (.iload_n 1, 1) ∧ 4 + 1 = 5 := ⟨by decide +kernel, rfl⟩
set_option maxRecDepth 20000 in
theorem dX11_agree_5 : decode cX11_agree 5 = .ok (.bipush 8, 2) ∧ 5 + 2 = 7 := ⟨by decide +kernel, rfl⟩
set_option maxRecDepth 20000 in
theorem dX11_agree_7 : decode cX11_agree 7 = .ok (.if_icmp .ge 17, 3) ∧ 7 + 3 = 10 ∧ ((7 : Nat) : Int) + (17) = ((24 : Nat) : Int) := ⟨by decide +kernel, rfl, by decide⟩
set_option maxRecDepth 20000 in
theorem dX11_agree_10 : decode cX11_agree 10 = .ok (.iload_n 2, 1) ∧ 10 + 1 = 11 := ⟨by decide +kernel, rfl⟩
set_option maxRecDepth 20000 in
theorem dX11_agree_11 : decode cX11_agree 11 = .ok (.ifCond .lt 13, 3) ∧ 11 + 3 = 14 ∧ ((11 : Nat) : Int) + (13) = ((24 : Nat) : Int) := ⟨by decide +kernel, rfl, by decide⟩
set_option maxRecDepth 20000 in
theorem dX11_agree_14 : decode cX11_agree 14 = .ok (.iload_n 2, 1) ∧ 14 + 1 = 15 := ⟨by decide +kernel, rfl⟩
set_option maxRecDepth 20000 in
theorem dX11_agree_15 : decode cX11_agree 15 = .ok (.bipush 8, 2) ∧ 15 + 2 = 17 := ⟨by decide +kernel, rfl⟩
set_option maxRecDepth 20000 in
theorem dX11_agree_17 : decode cX11_agree 17 = .ok (.if_icmp .ge 7, 3) ∧ 17 + 3 = 20 ∧ ((17 : Nat) : Int) + (7) = ((24 : Nat) : Int) := ⟨by decide +kernel, rfl, by decide⟩
set_option maxRecDepth 20000 in
theorem dX11_agree_20 : decode cX11_agree 20 = .ok (.iconst 1, 1) ∧ 20 + 1 = 21 := ⟨by decide +kernel, rfl⟩
set_option maxRecDepth 20000 in
theorem dX11_agree_21 : decode cX11_agree 21 = .ok (.goto 4, 3) ∧ ((21 : Nat) : Int) + (4) = ((25 : Nat) : Int) := ⟨by decide +kernel, by decide⟩
set_option maxRecDepth 20000 in
theorem dX11_agree_24 : decode cX11_agree 24 = .ok (.iconst 0, 1) ∧ 24 + 1 = 25 := ⟨by decide +kernel, rfl⟩
set_option maxRecDepth 20000 in
theorem dX11_agree_25 : decode cX11_agree 25 = .ok (.istore 4, 2) ∧ 25 + 2 = 27 := ⟨by decide +kernel, rfl⟩
set_option maxRecDepth 20000 in
theorem dX11_agree_27 : decode cX11_agree 27 = .ok (.iload 4, 2) ∧ 27 + 2 = 29 := ⟨by decide +kernel, rfl⟩
set_option maxRecDepth 20000 in
theorem dX11_agree_29 : decode cX11_agree 29 = .ok (.ifCond .eq 10, 3) ∧ 29 + 3 = 32 ∧ ((29 : Nat) : Int) + (10) = ((39 : Nat) : Int) := ⟨by decide +kernel, rfl, by decide⟩
set_option maxRecDepth 20000 in
theorem dX11_agree_32 : decode cX11_agree 32 = .ok (.iload_n 3, 1) ∧ 32 + 1 = 33 := ⟨by decide +kernel, rfl⟩
set_option maxRecDepth 20000 in
theorem dX11_agree_33 : decode cX11_agree 33 = .ok (.invokestatic 274, 3) ∧ 33 + 3 = 36 := ⟨by decide +kernel, rfl⟩
set_option maxRecDepth 20000 in
theorem dX11_agree_36 : decode cX11_agree 36 = .ok (.ifCond .ne 5, 3) ∧ 36 + 3 = 39 ∧ ((36 : Nat) : Int) + (5) = ((41 : Nat) : Int) := ⟨by decide +kernel, rfl, by decide⟩
set_option maxRecDepth 20000 in
theorem dX11_agree_39 : decode cX11_agree 39 = .ok (.iconst (-1), 1) ∧ 39 + 1 = 40 := ⟨by decide +kernel, rfl⟩
set_option maxRecDepth 20000 in
theorem dX11_agree_40 : decode cX11_agree 40 = .ok (.ireturn, 1) := by decide +kernel
set_option maxRecDepth 20000 in
theorem dX11_agree_41 : decode cX11_agree 41 = .ok (.aload_n 0, 1) ∧ 41 + 1 = 42 := ⟨by decide +kernel, rfl⟩
set_option maxRecDepth 20000 in
theorem dX11_agree_42 : decode cX11_agree 42 = .ok (.getfield 10, 3) ∧ 42 + 3 = 45 := ⟨by decide +kernel, rfl⟩
set_option maxRecDepth 20000 in
theorem dX11_agree_45 : decode cX11_agree 45 = .ok (.getfield 169, 3) ∧ 45 + 3 = 48 := ⟨by decide +kernel, rfl⟩
set_option maxRecDepth 20000 in
theorem dX11_agree_48 : decode cX11_agree 48 = .ok (.iload_n 1, 1) ∧ 48 + 1 = 49 := ⟨by decide +kernel, rfl⟩
set_option maxRecDepth 20000 in
theorem dX11_agree_49 : decode cX11_agree 49 = .ok (.iload_n 2, 1) ∧ 49 + 1 = 50 := ⟨by decide +kernel, rfl⟩
set_option maxRecDepth 20000 in
theorem dX11_agree_50 : decode cX11_agree 50 = .ok (.iload_n 3, 1) ∧ 50 + 1 = 51 := ⟨by decide +kernel, rfl⟩
set_option maxRecDepth 20000 in
theorem dX11_agree_51 : decode cX11_agree 51 = .ok (.iconst 1, 1) ∧ 51 + 1 = 52 := ⟨by decide +kernel, rfl⟩
set_option maxRecDepth 20000 in
theorem dX11_agree_52 : decode cX11_agree 52 = .ok (.if_icmp .ne 7, 3) ∧ 52 + 3 = 55 ∧ ((52 : Nat) : Int) + (7) = ((59 : Nat) : Int) := ⟨by decide +kernel, rfl, by decide⟩
set_option maxRecDepth 20000 in
theorem dX11_agree_55 : decode cX11_agree 55 = .ok (.iconst 1, 1) ∧ 55 + 1 = 56 := ⟨by decide +kernel, rfl⟩
set_option maxRecDepth 20000 in
theorem dX11_agree_56 : decode cX11_agree 56 = .ok (.goto 4, 3) ∧ ((56 : Nat) : Int) + (4) = ((60 : Nat) : Int) := ⟨by decide +kernel, by decide⟩
set_option maxRecDepth 20000 in
theorem dX11_agree_59 : decode cX11_agree 59 = .ok (.iconst 0, 1) ∧ 59 + 1 = 60 := ⟨by decide +kernel, rfl⟩
set_option maxRecDepth 20000 in
theorem dX11_agree_60 : decode cX11_agree 60 = .ok (.invokevirtual 323, 3) ∧ 60 + 3 = 63 := ⟨by decide +kernel, rfl⟩
set_option maxRecDepth 20000 in
theorem dX11_agree_63 : decode cX11_agree 63 = .ok (.ireturn, 1) := by decide +kernel
set_option maxRecDepth 20000 in
theorem dX11_again_0 : decode cX11_again 0 = .ok (.iload_n 1, 1) ∧ 0 + 1 = 1 := ⟨by decide +kernel, rfl⟩
set_option maxRecDepth 20000 in
theorem dX11_again_1 : decode cX11_again 1 = .ok (.ifCond .lt 24, 3) ∧ 1 + 3 = 4 ∧ ((1 : Nat) : Int) + (24) = ((25 : Nat) : Int) := ⟨by decide +kernel, rfl, by decide⟩
set_option maxRecDepth 20000 in
theorem dX11_again_4 : decode cX11_again 4 = .ok (.iload_n 1, 1) ∧ 4 + 1 = 5 := ⟨by decide +kernel, rfl⟩
set_option maxRecDepth 20000 in
theorem dX11_again_5 : decode cX11_again 5 = .ok (.aload_n 0, 1) ∧ 5 + 1 = 6 := ⟨by decide +kernel, rfl⟩
set_option maxRecDepth 20000 in
theorem dX11_again_6 : decode cX11_again 6 = .ok (.getfield 10, 3) ∧ 6 + 3 = 9 := ⟨by decide +kernel, rfl⟩
set_option maxRecDepth 20000 in
theorem dX11_again_9 : decode cX11_again 9 = .ok (.getfield 169, 3) ∧ 9 + 3 = 12 := ⟨by decide +kernel, rfl⟩
set_option maxRecDepth 20000 in
theorem dX11_again_12 : decode cX11_again 12 = .ok (.getfield 173, 3) ∧ 12 + 3 = 15 := ⟨by decide +kernel, rfl⟩
set_option maxRecDepth 20000 in
theorem dX11_again_15 : decode cX11_again 15 = .ok (.if_icmp .ge 10, 3) ∧ 15 + 3 = 18 ∧ ((15 : Nat) : Int) + (10) = ((25 : Nat) : Int) := ⟨by decide +kernel, rfl, by decide⟩
set_option maxRecDepth 20000 in
theorem dX11_again_18 : decode cX11_again 18 = .ok (.iload_n 2, 1) ∧ 18 + 1 = 19 := ⟨by decide +kernel, rfl⟩
set_option maxRecDepth 20000 in
theorem dX11_again_19 : decode cX11_again 19 = .ok (.invokestatic 274, 3) ∧ 19 + 3 = 22 := ⟨by decide +kernel, rfl⟩
set_option maxRecDepth 20000 in
theorem dX11_again_22 : decode cX11_again 22 = .ok (.ifCond .ne 7, 3) ∧ 22 + 3 = 25 ∧ ((22 : Nat) : Int) + (7) = ((29 : Nat) : Int) := ⟨by decide +kernel, rfl, by decide⟩
set_option maxRecDepth 20000 in
theorem dX11_again_25 : decode cX11_again 25 = .ok (.ldc2_w 210, 3) ∧ 25 + 3 = 28 := ⟨by decide +kernel, rfl⟩
set_option maxRecDepth 20000 in
theorem dX11_again_28 : decode cX11_again 28 = .ok (.lreturn, 1) := by decide +kernel
set_option maxRecDepth 20000 in
theorem dX11_again_29 : decode cX11_again 29 = .ok (.aload_n 0, 1) ∧ 29 + 1 = 30 := ⟨by decide +kernel, rfl⟩
set_option maxRecDepth 20000 in
theorem dX11_again_30 : decode cX11_again 30 = .ok (.getfield 71, 3) ∧ 30 + 3 = 33 := ⟨by decide +kernel, rfl⟩
set_option maxRecDepth 20000 in
theorem dX11_again_33 : decode cX11_again 33 = .ok (.aload_n 0, 1) ∧ 33 + 1 = 34 := ⟨by decide +kernel, rfl⟩
set_option maxRecDepth 20000 in
theorem dX11_again_34 : decode cX11_again 34 = .ok (.getfield 10, 3) ∧ 34 + 3 = 37 := ⟨by decide +kernel, rfl⟩
set_option maxRecDepth 20000 in
theorem dX11_again_37 : decode cX11_again 37 = .ok (.aload_n 0, 1) ∧ 37 + 1 = 38 := ⟨by decide +kernel, rfl⟩
set_option maxRecDepth 20000 in
theorem dX11_again_38 : decode cX11_again 38 = .ok (.getfield 10, 3) ∧ 38 + 3 = 41 := ⟨by decide +kernel, rfl⟩
set_option maxRecDepth 20000 in
theorem dX11_again_41 : decode cX11_again 41 = .ok (.getfield 169, 3) ∧ 41 + 3 = 44 := ⟨by decide +kernel, rfl⟩
set_option maxRecDepth 20000 in
theorem dX11_again_44 : decode cX11_again 44 = .ok (.getfield 327, 3) ∧ 44 + 3 = 47 := ⟨by decide +kernel, rfl⟩
set_option maxRecDepth 20000 in
theorem dX11_again_47 : decode cX11_again 47 = .ok (.iload_n 1, 1) ∧ 47 + 1 = 48 := ⟨by decide +kernel, rfl⟩
set_option maxRecDepth 20000 in
theorem dX11_again_48 : decode cX11_again 48 = .ok (.iaload, 1) ∧ 48 + 1 = 49 := ⟨by decide +kernel, rfl⟩
set_option maxRecDepth 20000 in
theorem dX11_again_49 : decode cX11_again 49 = .ok (.aload_n 0, 1) ∧ 49 + 1 = 50 := ⟨by decide +kernel, rfl⟩
set_option maxRecDepth 20000 in
theorem dX11_again_50 : decode cX11_again 50 = .ok (.getfield 10, 3) ∧ 50 + 3 = 53 := ⟨by decide +kernel, rfl⟩
set_option maxRecDepth 20000 in
theorem dX11_again_53 : decode cX11_again 53 = .ok (.getfield 169, 3) ∧ 53 + 3 = 56 := ⟨by decide +kernel, rfl⟩
set_option maxRecDepth 20000 in
theorem dX11_again_56 : decode cX11_again 56 = .ok (.getfield 330, 3) ∧ 56 + 3 = 59 := ⟨by decide +kernel, rfl⟩
set_option maxRecDepth 20000 in
theorem dX11_again_59 : decode cX11_again 59 = .ok (.iload_n 1, 1) ∧ 59 + 1 = 60 := ⟨by decide +kernel, rfl⟩
set_option maxRecDepth 20000 in
theorem dX11_again_60 : decode cX11_again 60 = .ok (.iaload, 1) ∧ 60 + 1 = 61 := ⟨by decide +kernel, rfl⟩
set_option maxRecDepth 20000 in
theorem dX11_again_61 : decode cX11_again 61 = .ok (.iload_n 1, 1) ∧ 61 + 1 = 62 := ⟨by decide +kernel, rfl⟩
set_option maxRecDepth 20000 in
theorem dX11_again_62 : decode cX11_again 62 = .ok (.invokevirtual 333, 3) ∧ 62 + 3 = 65 := ⟨by decide +kernel, rfl⟩
set_option maxRecDepth 20000 in
theorem dX11_again_65 : decode cX11_again 65 = .ok (.iload_n 2, 1) ∧ 65 + 1 = 66 := ⟨by decide +kernel, rfl⟩
set_option maxRecDepth 20000 in
theorem dX11_again_66 : decode cX11_again 66 = .ok (.ifCond .ne 13, 3) ∧ 66 + 3 = 69 ∧ ((66 : Nat) : Int) + (13) = ((79 : Nat) : Int) := ⟨by decide +kernel, rfl, by decide⟩
set_option maxRecDepth 20000 in
theorem dX11_again_69 : decode cX11_again 69 = .ok (.aload_n 0, 1) ∧ 69 + 1 = 70 := ⟨by decide +kernel, rfl⟩
set_option maxRecDepth 20000 in
theorem dX11_again_70 : decode cX11_again 70 = .ok (.getfield 71, 3) ∧ 70 + 3 = 73 := ⟨by decide +kernel, rfl⟩
set_option maxRecDepth 20000 in
theorem dX11_again_73 : decode cX11_again 73 = .ok (.getfield 337, 3) ∧ 73 + 3 = 76 := ⟨by decide +kernel, rfl⟩
set_option maxRecDepth 20000 in
theorem dX11_again_76 : decode cX11_again 76 = .ok (.goto 10, 3) ∧ ((76 : Nat) : Int) + (10) = ((86 : Nat) : Int) := ⟨by decide +kernel, by decide⟩
set_option maxRecDepth 20000 in
theorem dX11_again_79 : decode cX11_again 79 = .ok (.aload_n 0, 1) ∧ 79 + 1 = 80 := ⟨by decide +kernel, rfl⟩
set_option maxRecDepth 20000 in
theorem dX11_again_80 : decode cX11_again 80 = .ok (.getfield 71, 3) ∧ 80 + 3 = 83 := ⟨by decide +kernel, rfl⟩
set_option maxRecDepth 20000 in
theorem dX11_again_83 : decode cX11_again 83 = .ok (.getfield 340, 3) ∧ 83 + 3 = 86 := ⟨by decide +kernel, rfl⟩
set_option maxRecDepth 20000 in
theorem dX11_again_86 : decode cX11_again 86 = .ok (.lreturn, 1) := by decide +kernel
set_option maxRecDepth 20000 in
theorem dX11_trusted_0 : decode cX11_trusted 0 = .ok (.iconst 0, 1) ∧ 0 + 1 = 1 := ⟨by decide +kernel, rfl⟩
set_option maxRecDepth 20000 in
theorem dX11_trusted_1 : decode cX11_trusted 1 = .ok (.istore_n 2, 1) ∧ 1 + 1 = 2 := ⟨by decide +kernel, rfl⟩
set_option maxRecDepth 20000 in
theorem dX11_trusted_2 : decode cX11_trusted 2 = .ok (.iload_n 2, 1) ∧ 2 + 1 = 3 := ⟨by decide +kernel, rfl⟩
set_option maxRecDepth 20000 in
theorem dX11_trusted_3 : decode cX11_trusted 3 = .ok (.aload_n 0, 1) ∧ 3 + 1 = 4 := ⟨by decide +kernel, rfl⟩
set_option maxRecDepth 20000 in
theorem dX11_trusted_4 : decode cX11_trusted 4 = .ok (.getfield 10, 3) ∧ 4 + 3 = 7 := ⟨by decide +kernel, rfl⟩
set_option maxRecDepth 20000 in
theorem dX11_trusted_7 : decode cX11_trusted 7 = .ok (.getfield 101, 3) ∧ 7 + 3 = 10 := ⟨by decide +kernel, rfl⟩
set_option maxRecDepth 20000 in
theorem dX11_trusted_10 : decode cX11_trusted 10 = .ok (.if_icmp .ge 58, 3) ∧ 10 + 3 = 13 ∧ ((10 : Nat) : Int) + (58) = ((68 : Nat) : Int) := ⟨by decide +kernel, rfl, by decide⟩
set_option maxRecDepth 20000 in
theorem dX11_trusted_13 : decode cX11_trusted 13 = .ok (.iconst 0, 1) ∧ 13 + 1 = 14 := ⟨by decide +kernel, rfl⟩
set_option maxRecDepth 20000 in
theorem dX11_trusted_14 : decode cX11_trusted 14 = .ok (.istore_n 3, 1) ∧ 14 + 1 = 15 := ⟨by decide +kernel, rfl⟩
set_option maxRecDepth 20000 in
theorem dX11_trusted_15 : decode cX11_trusted 15 = .ok (.iconst 0, 1) ∧ 15 + 1 = 16 := ⟨by decide +kernel, rfl⟩
set_option maxRecDepth 20000 in
theorem dX11_trusted_16 : decode cX11_trusted 16 = .ok (.istore 4, 2) ∧ 16 + 2 = 18 := ⟨by decide +kernel, rfl⟩
set_option maxRecDepth 20000 in
theorem dX11_trusted_18 : decode cX11_trusted 18 = .ok (.iload 4, 2) ∧ 18 + 2 = 20 := ⟨by decide +kernel, rfl⟩
set_option maxRecDepth 20000 in
theorem dX11_trusted_20 : decode cX11_trusted 20 = .ok (.aload_n 0, 1) ∧ 20 + 1 = 21 := ⟨by decide +kernel, rfl⟩
set_option maxRecDepth 20000 in
theorem dX11_trusted_21 : decode cX11_trusted 21 = .ok (.getfield 10, 3) ∧ 21 + 3 = 24 := ⟨by decide +kernel, rfl⟩
set_option maxRecDepth 20000 in
theorem dX11_trusted_24 : decode cX11_trusted 24 = .ok (.getfield 101, 3) ∧ 24 + 3 = 27 := ⟨by decide +kernel, rfl⟩
set_option maxRecDepth 20000 in
theorem dX11_trusted_27 : decode cX11_trusted 27 = .ok (.if_icmp .ge 28, 3) ∧ 27 + 3 = 30 ∧ ((27 : Nat) : Int) + (28) = ((55 : Nat) : Int) := ⟨by decide +kernel, rfl, by decide⟩
set_option maxRecDepth 20000 in
theorem dX11_trusted_30 : decode cX11_trusted 30 = .ok (.aload_n 0, 1) ∧ 30 + 1 = 31 := ⟨by decide +kernel, rfl⟩
set_option maxRecDepth 20000 in
theorem dX11_trusted_31 : decode cX11_trusted 31 = .ok (.getfield 10, 3) ∧ 31 + 3 = 34 := ⟨by decide +kernel, rfl⟩
set_option maxRecDepth 20000 in
theorem dX11_trusted_34 : decode cX11_trusted 34 = .ok (.getfield 169, 3) ∧ 34 + 3 = 37 := ⟨by decide +kernel, rfl⟩
set_option maxRecDepth 20000 in
theorem dX11_trusted_37 : decode cX11_trusted 37 = .ok (.iload 4, 2) ∧ 37 + 2 = 39 := ⟨by decide +kernel, rfl⟩
set_option maxRecDepth 20000 in
theorem dX11_trusted_39 : decode cX11_trusted 39 = .ok (.iload_n 2, 1) ∧ 39 + 1 = 40 := ⟨by decide +kernel, rfl⟩
set_option maxRecDepth 20000 in
theorem dX11_trusted_40 : decode cX11_trusted 40 = .ok (.invokevirtual 343, 3) ∧ 40 + 3 = 43 := ⟨by decide +kernel, rfl⟩
set_option maxRecDepth 20000 in
theorem dX11_trusted_43 : decode cX11_trusted 43 = .ok (.ifCond .eq 6, 3) ∧ 43 + 3 = 46 ∧ ((43 : Nat) : Int) + (6) = ((49 : Nat) : Int) := ⟨by decide +kernel, rfl, by decide⟩
set_option maxRecDepth 20000 in
theorem dX11_trusted_46 : decode cX11_trusted 46 = .ok (.iinc 3 1, 3) ∧ 46 + 3 = 49 := ⟨by decide +kernel, rfl⟩
set_option maxRecDepth 20000 in
theorem dX11_trusted_49 : decode cX11_trusted 49 = .ok (.iinc 4 1, 3) ∧ 49 + 3 = 52 := ⟨by decide +kernel, rfl⟩
set_option maxRecDepth 20000 in
theorem dX11_trusted_52 : decode cX11_trusted 52 = .ok (.goto (-34), 3) ∧ ((52 : Nat) : Int) + (-34) = ((18 : Nat) : Int) := ⟨by decide +kernel, by decide⟩
set_option maxRecDepth 20000 in
theorem dX11_trusted_55 : decode cX11_trusted 55 = .ok (.iload_n 3, 1) ∧ 55 + 1 = 56 := ⟨by decide +kernel, rfl⟩
set_option maxRecDepth 20000 in
theorem dX11_trusted_56 : decode cX11_trusted 56 = .ok (.iload_n 1, 1) ∧ 56 + 1 = 57 := ⟨by decide +kernel, rfl⟩
set_option maxRecDepth 20000 in
theorem dX11_trusted_57 : decode cX11_trusted 57 = .ok (.if_icmp .ne 5, 3) ∧ 57 + 3 = 60 ∧ ((57 : Nat) : Int) + (5) = ((62 : Nat) : Int) := ⟨by decide +kernel, rfl, by decide⟩
set_option maxRecDepth 20000 in
theorem dX11_trusted_60 : decode cX11_trusted 60 = .ok (.iload_n 2, 1) ∧ 60 + 1 = 61 := ⟨by decide +kernel, rfl⟩
set_option maxRecDepth 20000 in
theorem dX11_trusted_61 : decode cX11_trusted 61 = .ok (.ireturn, 1) := by decide +kernel
set_option maxRecDepth 20000 in
theorem dX11_trusted_62 : decode cX11_trusted 62 = .ok (.iinc 2 1, 3) ∧ 62 + 3 = 65 := ⟨by decide +kernel, rfl⟩
set_option maxRecDepth 20000 in
theorem dX11_trusted_65 : decode cX11_trusted 65 = .ok (.goto (-63), 3) ∧ ((65 : Nat) : Int) + (-63) = ((2 : Nat) : Int) := ⟨by decide +kernel, by decide⟩
set_option maxRecDepth 20000 in
theorem dX11_trusted_68 : decode cX11_trusted 68 = .ok (.iconst (-1), 1) ∧ 68 + 1 = 69 := ⟨by decide +kernel, rfl⟩
set_option maxRecDepth 20000 in
theorem dX11_trusted_69 : decode cX11_trusted 69 = .ok (.ireturn, 1) := by decide +kernel
set_option maxRecDepth 20000 in
theorem dX11_proof_0 : decode cX11_proof 0 = .ok (.iconst 0, 1) ∧ 0 + 1 = 1 := ⟨by decide +kernel, rfl⟩
set_option maxRecDepth 20000 in
theorem dX11_proof_1 : decode cX11_proof 1 = .ok (.iload_n 1, 1) ∧ 1 + 1 = 2 := ⟨by decide +kernel, rfl⟩
set_option maxRecDepth 20000 in
theorem dX11_proof_2 : decode cX11_proof 2 = .ok (.iload_n 2, 1) ∧ 2 + 1 = 3 := ⟨by decide +kernel, rfl⟩
set_option maxRecDepth 20000 in
theorem dX11_proof_3 : decode cX11_proof 3 = .ok (.invokestatic 165, 3) ∧ 3 + 3 = 6 := ⟨by decide +kernel, rfl⟩
set_option maxRecDepth 20000 in
theorem dX11_proof_6 : decode cX11_proof 6 = .ok (.ifCond .eq 10, 3) ∧ 6 + 3 = 9 ∧ ((6 : Nat) : Int) + (10) = ((16 : Nat) : Int) := ⟨by decide +kernel, rfl, by decide⟩
set_option maxRecDepth 20000 in
theorem dX11_proof_9 : decode cX11_proof 9 = .ok (.iload_n 3, 1) ∧ 9 + 1 = 10 := ⟨by decide +kernel, rfl⟩
set_option maxRecDepth 20000 in
theorem dX11_proof_10 : decode cX11_proof 10 = .ok (.invokestatic 274, 3) ∧ 10 + 3 = 13 := ⟨by decide +kernel, rfl⟩
set_option maxRecDepth 20000 in
theorem dX11_proof_13 : decode cX11_proof 13 = .ok (.ifCond .ne 7, 3) ∧ 13 + 3 = 16 ∧ ((13 : Nat) : Int) + (7) = ((20 : Nat) : Int) := ⟨by decide +kernel, rfl, by decide⟩
set_option maxRecDepth 20000 in
theorem dX11_proof_16 : decode cX11_proof 16 = .ok (.ldc2_w 210, 3) ∧ 16 + 3 = 19 := ⟨by decide +kernel, rfl⟩
set_option maxRecDepth 20000 in
theorem dX11_proof_19 : decode cX11_proof 19 = .ok (.lreturn, 1) := by decide +kernel
set_option maxRecDepth 20000 in
theorem dX11_proof_20 : decode cX11_proof 20 = .ok (.aload_n 0, 1) ∧ 20 + 1 = 21 := ⟨by decide +kernel, rfl⟩
set_option maxRecDepth 20000 in
theorem dX11_proof_21 : decode cX11_proof 21 = .ok (.getfield 71, 3) ∧ 21 + 3 = 24 := ⟨by decide +kernel, rfl⟩
set_option maxRecDepth 20000 in
theorem dX11_proof_24 : decode cX11_proof 24 = .ok (.aload_n 0, 1) ∧ 24 + 1 = 25 := ⟨by decide +kernel, rfl⟩
set_option maxRecDepth 20000 in
theorem dX11_proof_25 : decode cX11_proof 25 = .ok (.getfield 10, 3) ∧ 25 + 3 = 28 := ⟨by decide +kernel, rfl⟩
set_option maxRecDepth 20000 in
theorem dX11_proof_28 : decode cX11_proof 28 = .ok (.iload_n 1, 1) ∧ 28 + 1 = 29 := ⟨by decide +kernel, rfl⟩
set_option maxRecDepth 20000 in
theorem dX11_proof_29 : decode cX11_proof 29 = .ok (.iload_n 2, 1) ∧ 29 + 1 = 30 := ⟨by decide +kernel, rfl⟩
set_option maxRecDepth 20000 in
theorem dX11_proof_30 : decode cX11_proof 30 = .ok (.iconst (-1), 1) ∧ 30 + 1 = 31 := ⟨by decide +kernel, rfl⟩
set_option maxRecDepth 20000 in
theorem dX11_proof_31 : decode cX11_proof 31 = .ok (.invokevirtual 333, 3) ∧ 31 + 3 = 34 := ⟨by decide +kernel, rfl⟩
set_option maxRecDepth 20000 in
theorem dX11_proof_34 : decode cX11_proof 34 = .ok (.iload_n 3, 1) ∧ 34 + 1 = 35 := ⟨by decide +kernel, rfl⟩
set_option maxRecDepth 20000 in
theorem dX11_proof_35 : decode cX11_proof 35 = .ok (.ifCond .ne 13, 3) ∧ 35 + 3 = 38 ∧ ((35 : Nat) : Int) + (13) = ((48 : Nat) : Int) := ⟨by decide +kernel, rfl, by decide⟩
set_option maxRecDepth 20000 in
theorem dX11_proof_38 : decode cX11_proof 38 = .ok (.aload_n 0, 1) ∧ 38 + 1 = 39 := ⟨by decide +kernel, rfl⟩
set_option maxRecDepth 20000 in
theorem dX11_proof_39 : decode cX11_proof 39 = .ok (.getfield 71, 3) ∧ 39 + 3 = 42 := ⟨by decide +kernel, rfl⟩
set_option maxRecDepth 20000 in
theorem dX11_proof_42 : decode cX11_proof 42 = .ok (.getfield 337, 3) ∧ 42 + 3 = 45 := ⟨by decide +kernel, rfl⟩
set_option maxRecDepth 20000 in
theorem dX11_proof_45 : decode cX11_proof 45 = .ok (.goto 10, 3) ∧ ((45 : Nat) : Int) + (10) = ((55 : Nat) : Int) := ⟨by decide +kernel, by decide⟩
set_option maxRecDepth 20000 in
theorem dX11_proof_48 : decode cX11_proof 48 = .ok (.aload_n 0, 1) ∧ 48 + 1 = 49 := ⟨by decide +kernel, rfl⟩
set_option maxRecDepth 20000 in
theorem dX11_proof_49 : decode cX11_proof 49 = .ok (.getfield 71, 3) ∧ 49 + 3 = 52 := ⟨by decide +kernel, rfl⟩
set_option maxRecDepth 20000 in
theorem dX11_proof_52 : decode cX11_proof 52 = .ok (.getfield 340, 3) ∧ 52 + 3 = 55 := ⟨by decide +kernel, rfl⟩
set_option maxRecDepth 20000 in
theorem dX11_proof_55 : decode cX11_proof 55 = .ok (.lreturn, 1) := by decide +kernel
set_option maxRecDepth 20000 in
theorem dX11_sitting_0 : decode cX11_sitting 0 = .ok (.iload_n 1, 1) ∧ 0 + 1 = 1 := ⟨by decide +kernel, rfl⟩
set_option maxRecDepth 20000 in
theorem dX11_sitting_1 : decode cX11_sitting 1 = .ok (.ifCond .lt 10, 3) ∧ 1 + 3 = 4 ∧ ((1 : Nat) : Int) + (10) = ((11 : Nat) : Int) := ⟨by decide +kernel, rfl, by decide⟩
set_option maxRecDepth 20000 in
theorem dX11_sitting_4 : decode cX11_sitting 4 = .ok (.iload_n 1, 1) ∧ 4 + 1 = 5 := ⟨by decide +kernel, rfl⟩
set_option maxRecDepth 20000 in
theorem dX11_sitting_5 : decode cX11_sitting 5 = .ok (.ldc_w 297, 3) ∧ 5 + 3 = 8 := ⟨by decide +kernel, rfl⟩
set_option maxRecDepth 20000 in
theorem dX11_sitting_8 : decode cX11_sitting 8 = .ok (.if_icmp .le 9, 3) ∧ 8 + 3 = 11 ∧ ((8 : Nat) : Int) + (9) = ((17 : Nat) : Int) := ⟨by decide +kernel, rfl, by decide⟩
set_option maxRecDepth 20000 in
theorem dX11_sitting_11 : decode cX11_sitting 11 = .ok (.aload_n 0, 1) ∧ 11 + 1 = 12 := ⟨by decide +kernel, rfl⟩
set_option maxRecDepth 20000 in
theorem dX11_sitting_12 : decode cX11_sitting 12 = .ok (.iconst (-1), 1) ∧ 12 + 1 = 13 := ⟨by decide +kernel, rfl⟩
set_option maxRecDepth 20000 in
theorem dX11_sitting_13 : decode cX11_sitting 13 = .ok (.invokevirtual 97, 3) ∧ 13 + 3 = 16 := ⟨by decide +kernel, rfl⟩
set_option maxRecDepth 20000 in
theorem dX11_sitting_16 : decode cX11_sitting 16 = .ok (.ireturn, 1) := by decide +kernel
set_option maxRecDepth 20000 in
theorem dX11_sitting_17 : decode cX11_sitting 17 = .ok (.aload_n 0, 1) ∧ 17 + 1 = 18 := ⟨by decide +kernel, rfl⟩
set_option maxRecDepth 20000 in
theorem dX11_sitting_18 : decode cX11_sitting 18 = .ok (.aload_n 0, 1) ∧ 18 + 1 = 19 := ⟨by decide +kernel, rfl⟩
set_option maxRecDepth 20000 in
theorem dX11_sitting_19 : decode cX11_sitting 19 = .ok (.getfield 64, 3) ∧ 19 + 3 = 22 := ⟨by decide +kernel, rfl⟩
set_option maxRecDepth 20000 in
theorem dX11_sitting_22 : decode cX11_sitting 22 = .ok (.aload_n 0, 1) ∧ 22 + 1 = 23 := ⟨by decide +kernel, rfl⟩
set_option maxRecDepth 20000 in
theorem dX11_sitting_23 : decode cX11_sitting 23 = .ok (.getfield 10, 3) ∧ 23 + 3 = 26 := ⟨by decide +kernel, rfl⟩
set_option maxRecDepth 20000 in
theorem dX11_sitting_26 : decode cX11_sitting 26 = .ok (.aload_n 0, 1) ∧ 26 + 1 = 27 := ⟨by decide +kernel, rfl⟩
set_option maxRecDepth 20000 in
theorem dX11_sitting_27 : decode cX11_sitting 27 = .ok (.getfield 43, 3) ∧ 27 + 3 = 30 := ⟨by decide +kernel, rfl⟩
set_option maxRecDepth 20000 in
theorem dX11_sitting_30 : decode cX11_sitting 30 = .ok (.iload_n 1, 1) ∧ 30 + 1 = 31 := ⟨by decide +kernel, rfl⟩
set_option maxRecDepth 20000 in
theorem dX11_sitting_31 : decode cX11_sitting 31 = .ok (.invokevirtual 346, 3) ∧ 31 + 3 = 34 := ⟨by decide +kernel, rfl⟩
set_option maxRecDepth 20000 in
theorem dX11_sitting_34 : decode cX11_sitting 34 = .ok (.invokevirtual 108, 3) ∧ 34 + 3 = 37 := ⟨by decide +kernel, rfl⟩
set_option maxRecDepth 20000 in
theorem dX11_sitting_37 : decode cX11_sitting 37 = .ok (.ireturn, 1) := by decide +kernel
set_option maxRecDepth 20000 in
theorem dX11_lay_0 : decode cX11_lay 0 = .ok (.iload_n 2, 1) ∧ 0 + 1 = 1 := ⟨by decide +kernel, rfl⟩
set_option maxRecDepth 20000 in
theorem dX11_lay_1 : decode cX11_lay 1 = .ok (.invokestatic 274, 3) ∧ 1 + 3 = 4 := ⟨by decide +kernel, rfl⟩
set_option maxRecDepth 20000 in
theorem dX11_lay_4 : decode cX11_lay 4 = .ok (.ifCond .eq 13, 3) ∧ 4 + 3 = 7 ∧ ((4 : Nat) : Int) + (13) = ((17 : Nat) : Int) := ⟨by decide +kernel, rfl, by decide⟩
set_option maxRecDepth 20000 in
theorem dX11_lay_7 : decode cX11_lay 7 = .ok (.aload_n 0, 1) ∧ 7 + 1 = 8 := ⟨by decide +kernel, rfl⟩
set_option maxRecDepth 20000 in
theorem dX11_lay_8 : decode cX11_lay 8 = .ok (.getfield 64, 3) ∧ 8 + 3 = 11 := ⟨by decide +kernel, rfl⟩
set_option maxRecDepth 20000 in
theorem dX11_lay_11 : decode cX11_lay 11 = .ok (.getfield 350, 3) ∧ 11 + 3 = 14 := ⟨by decide +kernel, rfl⟩
set_option maxRecDepth 20000 in
theorem dX11_lay_14 : decode cX11_lay 14 = .ok (.ifCond .ne 5, 3) ∧ 14 + 3 = 17 ∧ ((14 : Nat) : Int) + (5) = ((19 : Nat) : Int) := ⟨by decide +kernel, rfl, by decide⟩
set_option maxRecDepth 20000 in
theorem dX11_lay_17 : decode cX11_lay 17 = .ok (.iconst (-1), 1) ∧ 17 + 1 = 18 := ⟨by decide +kernel, rfl⟩
set_option maxRecDepth 20000 in
theorem dX11_lay_18 : decode cX11_lay 18 = .ok (.ireturn, 1) := by decide +kernel
set_option maxRecDepth 20000 in
theorem dX11_lay_19 : decode cX11_lay 19 = .ok (.iload_n 1, 1) ∧ 19 + 1 = 20 := ⟨by decide +kernel, rfl⟩
set_option maxRecDepth 20000 in
theorem dX11_lay_20 : decode cX11_lay 20 = .ok (.iconst (-1), 1) ∧ 20 + 1 = 21 := ⟨by decide +kernel, rfl⟩
set_option maxRecDepth 20000 in
theorem dX11_lay_21 : decode cX11_lay 21 = .ok (.if_icmp .ne 11, 3) ∧ 21 + 3 = 24 ∧ ((21 : Nat) : Int) + (11) = ((32 : Nat) : Int) := ⟨by decide +kernel, rfl, by decide⟩
set_option maxRecDepth 20000 in
theorem dX11_lay_24 : decode cX11_lay 24 = .ok (.aload_n 0, 1) ∧ 24 + 1 = 25 := ⟨by decide +kernel, rfl⟩
set_option maxRecDepth 20000 in
theorem dX11_lay_25 : decode cX11_lay 25 = .ok (.getfield 64, 3) ∧ 25 + 3 = 28 := ⟨by decide +kernel, rfl⟩
set_option maxRecDepth 20000 in
theorem dX11_lay_28 : decode cX11_lay 28 = .ok (.getfield 354, 3) ∧ 28 + 3 = 31 := ⟨by decide +kernel, rfl⟩
set_option maxRecDepth 20000 in
theorem dX11_lay_31 : decode cX11_lay 31 = .ok (.ireturn, 1) := by decide +kernel
set_option maxRecDepth 20000 in
theorem dX11_lay_32 : decode cX11_lay 32 = .ok (.iload_n 1, 1) ∧ 32 + 1 = 33 := ⟨by decide +kernel, rfl⟩
set_option maxRecDepth 20000 in
theorem dX11_lay_33 : decode cX11_lay 33 = .ok (.ifCond .lt 22, 3) ∧ 33 + 3 = 36 ∧ ((33 : Nat) : Int) + (22) = ((55 : Nat) : Int) := ⟨by decide +kernel, rfl, by decide⟩
set_option maxRecDepth 20000 in
theorem dX11_lay_36 : decode cX11_lay 36 = .ok (.iload_n 1, 1) ∧ 36 + 1 = 37 := ⟨by decide +kernel, rfl⟩
set_option maxRecDepth 20000 in
theorem dX11_lay_37 : decode cX11_lay 37 = .ok (.bipush 8, 2) ∧ 37 + 2 = 39 := ⟨by decide +kernel, rfl⟩
set_option maxRecDepth 20000 in
theorem dX11_lay_39 : decode cX11_lay 39 = .ok (.if_icmp .ge 16, 3) ∧ 39 + 3 = 42 ∧ ((39 : Nat) : Int) + (16) = ((55 : Nat) : Int) := ⟨by decide +kernel, rfl, by decide⟩
set_option maxRecDepth 20000 in
theorem dX11_lay_42 : decode cX11_lay 42 = .ok (.aload_n 0, 1) ∧ 42 + 1 = 43 := ⟨by decide +kernel, rfl⟩
set_option maxRecDepth 20000 in
theorem dX11_lay_43 : decode cX11_lay 43 = .ok (.getfield 64, 3) ∧ 43 + 3 = 46 := ⟨by decide +kernel, rfl⟩
set_option maxRecDepth 20000 in
theorem dX11_lay_46 : decode cX11_lay 46 = .ok (.getfield 357, 3) ∧ 46 + 3 = 49 := ⟨by decide +kernel, rfl⟩
set_option maxRecDepth 20000 in
theorem dX11_lay_49 : decode cX11_lay 49 = .ok (.iload_n 1, 1) ∧ 49 + 1 = 50 := ⟨by decide +kernel, rfl⟩
set_option maxRecDepth 20000 in
theorem dX11_lay_50 : decode cX11_lay 50 = .ok (.iaload, 1) ∧ 50 + 1 = 51 := ⟨by decide +kernel, rfl⟩
set_option maxRecDepth 20000 in
theorem dX11_lay_51 : decode cX11_lay 51 = .ok (.iconst (-1), 1) ∧ 51 + 1 = 52 := ⟨by decide +kernel, rfl⟩
set_option maxRecDepth 20000 in
theorem dX11_lay_52 : decode cX11_lay 52 = .ok (.if_icmp .ne 5, 3) ∧ 52 + 3 = 55 ∧ ((52 : Nat) : Int) + (5) = ((57 : Nat) : Int) := ⟨by decide +kernel, rfl, by decide⟩
set_option maxRecDepth 20000 in
theorem dX11_lay_55 : decode cX11_lay 55 = .ok (.iconst (-1), 1) ∧ 55 + 1 = 56 := ⟨by decide +kernel, rfl⟩
set_option maxRecDepth 20000 in
theorem dX11_lay_56 : decode cX11_lay 56 = .ok (.ireturn, 1) := by decide +kernel
set_option maxRecDepth 20000 in
theorem dX11_lay_57 : decode cX11_lay 57 = .ok (.iload_n 2, 1) ∧ 57 + 1 = 58 := ⟨by decide +kernel, rfl⟩
set_option maxRecDepth 20000 in
theorem dX11_lay_58 : decode cX11_lay 58 = .ok (.ifCond .ne 15, 3) ∧ 58 + 3 = 61 ∧ ((58 : Nat) : Int) + (15) = ((73 : Nat) : Int) := ⟨by decide +kernel, rfl, by decide⟩
set_option maxRecDepth 20000 in
theorem dX11_lay_61 : decode cX11_lay 61 = .ok (.aload_n 0, 1) ∧ 61 + 1 = 62 := ⟨by decide +kernel, rfl⟩
set_option maxRecDepth 20000 in
theorem dX11_lay_62 : decode cX11_lay 62 = .ok (.getfield 64, 3) ∧ 62 + 3 = 65 := ⟨by decide +kernel, rfl⟩
set_option maxRecDepth 20000 in
theorem dX11_lay_65 : decode cX11_lay 65 = .ok (.getfield 357, 3) ∧ 65 + 3 = 68 := ⟨by decide +kernel, rfl⟩
set_option maxRecDepth 20000 in
theorem dX11_lay_68 : decode cX11_lay 68 = .ok (.iload_n 1, 1) ∧ 68 + 1 = 69 := ⟨by decide +kernel, rfl⟩
set_option maxRecDepth 20000 in
theorem dX11_lay_69 : decode cX11_lay 69 = .ok (.iaload, 1) ∧ 69 + 1 = 70 := ⟨by decide +kernel, rfl⟩
set_option maxRecDepth 20000 in
theorem dX11_lay_70 : decode cX11_lay 70 = .ok (.goto 12, 3) ∧ ((70 : Nat) : Int) + (12) = ((82 : Nat) : Int) := ⟨by decide +kernel, by decide⟩
set_option maxRecDepth 20000 in
theorem dX11_lay_73 : decode cX11_lay 73 = .ok (.aload_n 0, 1) ∧ 73 + 1 = 74 := ⟨by decide +kernel, rfl⟩
set_option maxRecDepth 20000 in
theorem dX11_lay_74 : decode cX11_lay 74 = .ok (.getfield 64, 3) ∧ 74 + 3 = 77 := ⟨by decide +kernel, rfl⟩
set_option maxRecDepth 20000 in
theorem dX11_lay_77 : decode cX11_lay 77 = .ok (.getfield 360, 3) ∧ 77 + 3 = 80 := ⟨by decide +kernel, rfl⟩
set_option maxRecDepth 20000 in
theorem dX11_lay_80 : decode cX11_lay 80 = .ok (.iload_n 1, 1) ∧ 80 + 1 = 81 := ⟨by decide +kernel, rfl⟩
set_option maxRecDepth 20000 in
theorem dX11_lay_81 : decode cX11_lay 81 = .ok (.iaload, 1) ∧ 81 + 1 = 82 := ⟨by decide +kernel, rfl⟩
set_option maxRecDepth 20000 in
theorem dX11_lay_82 : decode cX11_lay 82 = .ok (.ireturn, 1) := by decide +kernel
set_option maxRecDepth 20000 in
theorem dX11_image_0 : decode cX11_image 0 = .ok (.iload_n 1, 1) ∧ 0 + 1 = 1 := ⟨by decide +kernel, rfl⟩
set_option maxRecDepth 20000 in
theorem dX11_image_1 : decode cX11_image 1 = .ok (.invokestatic 274, 3) ∧ 1 + 3 = 4 := ⟨by decide +kernel, rfl⟩
set_option maxRecDepth 20000 in
theorem dX11_image_4 : decode cX11_image 4 = .ok (.ifCond .ne 9, 3) ∧ 4 + 3 = 7 ∧ ((4 : Nat) : Int) + (9) = ((13 : Nat) : Int) := ⟨by decide +kernel, rfl, by decide⟩
set_option maxRecDepth 20000 in
theorem dX11_image_7 : decode cX11_image 7 = .ok (.aload_n 0, 1) ∧ 7 + 1 = 8 := ⟨by decide +kernel, rfl⟩
set_option maxRecDepth 20000 in
theorem dX11_image_8 : decode cX11_image 8 = .ok (.iconst (-1), 1) ∧ 8 + 1 = 9 := ⟨by decide +kernel, rfl⟩
set_option maxRecDepth 20000 in
theorem dX11_image_9 : decode cX11_image 9 = .ok (.invokevirtual 97, 3) ∧ 9 + 3 = 12 := ⟨by decide +kernel, rfl⟩
set_option maxRecDepth 20000 in
theorem dX11_image_12 : decode cX11_image 12 = .ok (.ireturn, 1) := by decide +kernel
set_option maxRecDepth 20000 in
theorem dX11_image_13 : decode cX11_image 13 = .ok (.aload_n 0, 1) ∧ 13 + 1 = 14 := ⟨by decide +kernel, rfl⟩
set_option maxRecDepth 20000 in
theorem dX11_image_14 : decode cX11_image 14 = .ok (.getfield 16, 3) ∧ 14 + 3 = 17 := ⟨by decide +kernel, rfl⟩
set_option maxRecDepth 20000 in
theorem dX11_image_17 : decode cX11_image 17 = .ok (.iload_n 1, 1) ∧ 17 + 1 = 18 := ⟨by decide +kernel, rfl⟩
set_option maxRecDepth 20000 in
theorem dX11_image_18 : decode cX11_image 18 = .ok (.aaload, 1) ∧ 18 + 1 = 19 := ⟨by decide +kernel, rfl⟩
set_option maxRecDepth 20000 in
theorem dX11_image_19 : decode cX11_image 19 = .ok (.aload_n 0, 1) ∧ 19 + 1 = 20 := ⟨by decide +kernel, rfl⟩
set_option maxRecDepth 20000 in
theorem dX11_image_20 : decode cX11_image 20 = .ok (.getfield 10, 3) ∧ 20 + 3 = 23 := ⟨by decide +kernel, rfl⟩
set_option maxRecDepth 20000 in
theorem dX11_image_23 : decode cX11_image 23 = .ok (.invokevirtual 363, 3) ∧ 23 + 3 = 26 := ⟨by decide +kernel, rfl⟩
set_option maxRecDepth 20000 in
theorem dX11_image_26 : decode cX11_image 26 = .ok (.aload_n 0, 1) ∧ 26 + 1 = 27 := ⟨by decide +kernel, rfl⟩
set_option maxRecDepth 20000 in
theorem dX11_image_27 : decode cX11_image 27 = .ok (.getfield 20, 3) ∧ 27 + 3 = 30 := ⟨by decide +kernel, rfl⟩
set_option maxRecDepth 20000 in
theorem dX11_image_30 : decode cX11_image 30 = .ok (.iload_n 1, 1) ∧ 30 + 1 = 31 := ⟨by decide +kernel, rfl⟩
set_option maxRecDepth 20000 in
theorem dX11_image_31 : decode cX11_image 31 = .ok (.iconst 1, 1) ∧ 31 + 1 = 32 := ⟨by decide +kernel, rfl⟩
set_option maxRecDepth 20000 in
theorem dX11_image_32 : decode cX11_image 32 = .ok (.bastore, 1) ∧ 32 + 1 = 33 := ⟨by decide +kernel, rfl⟩
set_option maxRecDepth 20000 in
theorem dX11_image_33 : decode cX11_image 33 = .ok (.aload_n 0, 1) ∧ 33 + 1 = 34 := ⟨by decide +kernel, rfl⟩
set_option maxRecDepth 20000 in
theorem dX11_image_34 : decode cX11_image 34 = .ok (.iconst 0, 1) ∧ 34 + 1 = 35 := ⟨by decide +kernel, rfl⟩
set_option maxRecDepth 20000 in
theorem dX11_image_35 : decode cX11_image 35 = .ok (.invokevirtual 108, 3) ∧ 35 + 3 = 38 := ⟨by decide +kernel, rfl⟩
set_option maxRecDepth 20000 in
theorem dX11_image_38 : decode cX11_image 38 = .ok (.ireturn, 1) := by decide +kernel
set_option maxRecDepth 20000 in
theorem dX11_back_0 : decode cX11_back 0 = .ok (.iload_n 1, 1) ∧ 0 + 1 = 1 := ⟨by decide +kernel, rfl⟩
set_option maxRecDepth 20000 in
theorem dX11_back_1 : decode cX11_back 1 = .ok (.invokestatic 274, 3) ∧ 1 + 3 = 4 := ⟨by decide +kernel, rfl⟩
set_option maxRecDepth 20000 in
theorem dX11_back_4 : decode cX11_back 4 = .ok (.ifCond .ne 9, 3) ∧ 4 + 3 = 7 ∧ ((4 : Nat) : Int) + (9) = ((13 : Nat) : Int) := ⟨by decide +kernel, rfl, by decide⟩
set_option maxRecDepth 20000 in
theorem dX11_back_7 : decode cX11_back 7 = .ok (.aload_n 0, 1) ∧ 7 + 1 = 8 := ⟨by decide +kernel, rfl⟩
set_option maxRecDepth 20000 in
theorem dX11_back_8 : decode cX11_back 8 = .ok (.iconst (-1), 1) ∧ 8 + 1 = 9 := ⟨by decide +kernel, rfl⟩
set_option maxRecDepth 20000 in
theorem dX11_back_9 : decode cX11_back 9 = .ok (.invokevirtual 97, 3) ∧ 9 + 3 = 12 := ⟨by decide +kernel, rfl⟩
set_option maxRecDepth 20000 in
theorem dX11_back_12 : decode cX11_back 12 = .ok (.ireturn, 1) := by decide +kernel
set_option maxRecDepth 20000 in
theorem dX11_back_13 : decode cX11_back 13 = .ok (.aload_n 0, 1) ∧ 13 + 1 = 14 := ⟨by decide +kernel, rfl⟩
set_option maxRecDepth 20000 in
theorem dX11_back_14 : decode cX11_back 14 = .ok (.getfield 20, 3) ∧ 14 + 3 = 17 := ⟨by decide +kernel, rfl⟩
set_option maxRecDepth 20000 in
theorem dX11_back_17 : decode cX11_back 17 = .ok (.iload_n 1, 1) ∧ 17 + 1 = 18 := ⟨by decide +kernel, rfl⟩
set_option maxRecDepth 20000 in
theorem dX11_back_18 : decode cX11_back 18 = .ok (.baload, 1) ∧ 18 + 1 = 19 := ⟨by decide +kernel, rfl⟩
set_option maxRecDepth 20000 in
theorem dX11_back_19 : decode cX11_back 19 = .ok (.ifCond .ne 10, 3) ∧ 19 + 3 = 22 ∧ ((19 : Nat) : Int) + (10) = ((29 : Nat) : Int) := ⟨by decide +kernel, rfl, by decide⟩
set_option maxRecDepth 20000 in
theorem dX11_back_22 : decode cX11_back 22 = .ok (.aload_n 0, 1) ∧ 22 + 1 = 23 := ⟨by decide +kernel, rfl⟩
set_option maxRecDepth 20000 in
theorem dX11_back_23 : decode cX11_back 23 = .ok (.bipush (-2), 2) ∧ 23 + 2 = 25 := ⟨by decide +kernel, rfl⟩
set_option maxRecDepth 20000 in
theorem dX11_back_25 : decode cX11_back 25 = .ok (.invokevirtual 97, 3) ∧ 25 + 3 = 28 := ⟨by decide +kernel, rfl⟩
set_option maxRecDepth 20000 in
theorem dX11_back_28 : decode cX11_back 28 = .ok (.ireturn, 1) := by decide +kernel
set_option maxRecDepth 20000 in
theorem dX11_back_29 : decode cX11_back 29 = .ok (.aload_n 0, 1) ∧ 29 + 1 = 30 := ⟨by decide +kernel, rfl⟩
set_option maxRecDepth 20000 in
theorem dX11_back_30 : decode cX11_back 30 = .ok (.getfield 10, 3) ∧ 30 + 3 = 33 := ⟨by decide +kernel, rfl⟩
set_option maxRecDepth 20000 in
theorem dX11_back_33 : decode cX11_back 33 = .ok (.aload_n 0, 1) ∧ 33 + 1 = 34 := ⟨by decide +kernel, rfl⟩
set_option maxRecDepth 20000 in
theorem dX11_back_34 : decode cX11_back 34 = .ok (.getfield 16, 3) ∧ 34 + 3 = 37 := ⟨by decide +kernel, rfl⟩
set_option maxRecDepth 20000 in
theorem dX11_back_37 : decode cX11_back 37 = .ok (.iload_n 1, 1) ∧ 37 + 1 = 38 := ⟨by decide +kernel, rfl⟩
set_option maxRecDepth 20000 in
theorem dX11_back_38 : decode cX11_back 38 = .ok (.aaload, 1) ∧ 38 + 1 = 39 := ⟨by decide +kernel, rfl⟩
set_option maxRecDepth 20000 in
theorem dX11_back_39 : decode cX11_back 39 = .ok (.invokevirtual 363, 3) ∧ 39 + 3 = 42 := ⟨by decide +kernel, rfl⟩
set_option maxRecDepth 20000 in
theorem dX11_back_42 : decode cX11_back 42 = .ok (.aload_n 0, 1) ∧ 42 + 1 = 43 := ⟨by decide +kernel, rfl⟩
set_option maxRecDepth 20000 in
theorem dX11_back_43 : decode cX11_back 43 = .ok (.iconst 0, 1) ∧ 43 + 1 = 44 := ⟨by decide +kernel, rfl⟩
set_option maxRecDepth 20000 in
theorem dX11_back_44 : decode cX11_back 44 = .ok (.invokevirtual 108, 3) ∧ 44 + 3 = 47 := ⟨by decide +kernel, rfl⟩
set_option maxRecDepth 20000 in
theorem dX11_back_47 : decode cX11_back 47 = .ok (.ireturn, 1) := by decide +kernel
set_option maxRecDepth 20000 in
theorem dX11_count_0 : decode cX11_count 0 = .ok (.iload_n 1, 1) ∧ 0 + 1 = 1 := ⟨by decide +kernel, rfl⟩
set_option maxRecDepth 20000 in
theorem dX11_count_1 : decode cX11_count 1 = .ok (.bipush 6, 2) ∧ 1 + 2 = 3 := ⟨by decide +kernel, rfl⟩
set_option maxRecDepth 20000 in
theorem dX11_count_3 : decode cX11_count 3 = .ok (.if_icmp .lt 23, 3) ∧ 3 + 3 = 6 ∧ ((3 : Nat) : Int) + (23) = ((26 : Nat) : Int) := ⟨by decide +kernel, rfl, by decide⟩
set_option maxRecDepth 20000 in
theorem dX11_count_6 : decode cX11_count 6 = .ok (.iload_n 1, 1) ∧ 6 + 1 = 7 := ⟨by decide +kernel, rfl⟩
set_option maxRecDepth 20000 in
theorem dX11_count_7 : decode cX11_count 7 = .ok (.bipush 10, 2) ∧ 7 + 2 = 9 := ⟨by decide +kernel, rfl⟩
set_option maxRecDepth 20000 in
theorem dX11_count_9 : decode cX11_count 9 = .ok (.if_icmp .gt 17, 3) ∧ 9 + 3 = 12 ∧ ((9 : Nat) : Int) + (17) = ((26 : Nat) : Int) := ⟨by decide +kernel, rfl, by decide⟩
set_option maxRecDepth 20000 in
theorem dX11_count_12 : decode cX11_count 12 = .ok (.aload_n 0, 1) ∧ 12 + 1 = 13 := ⟨by decide +kernel, rfl⟩
set_option maxRecDepth 20000 in
theorem dX11_count_13 : decode cX11_count 13 = .ok (.getfield 85, 3) ∧ 13 + 3 = 16 := ⟨by decide +kernel, rfl⟩
set_option maxRecDepth 20000 in
theorem dX11_count_16 : decode cX11_count 16 = .ok (.getstatic 366, 3) ∧ 16 + 3 = 19 := ⟨by decide +kernel, rfl⟩
set_option maxRecDepth 20000 in
theorem dX11_count_19 : decode cX11_count 19 = .ok (.iload_n 1, 1) ∧ 19 + 1 = 20 := ⟨by decide +kernel, rfl⟩
set_option maxRecDepth 20000 in
theorem dX11_count_20 : decode cX11_count 20 = .ok (.bipush 6, 2) ∧ 20 + 2 = 22 := ⟨by decide +kernel, rfl⟩
set_option maxRecDepth 20000 in
theorem dX11_count_22 : decode cX11_count 22 = .ok (.isub, 1) ∧ 22 + 1 = 23 := ⟨by decide +kernel, rfl⟩
set_option maxRecDepth 20000 in
theorem dX11_count_23 : decode cX11_count 23 = .ok (.iaload, 1) ∧ 23 + 1 = 24 := ⟨by decide +kernel, rfl⟩
set_option maxRecDepth 20000 in
theorem dX11_count_24 : decode cX11_count 24 = .ok (.iaload, 1) ∧ 24 + 1 = 25 := ⟨by decide +kernel, rfl⟩
set_option maxRecDepth 20000 in
theorem dX11_count_25 : decode cX11_count 25 = .ok (.ireturn, 1) := by decide +kernel
set_option maxRecDepth 20000 in
theorem dX11_count_26 : decode cX11_count 26 = .ok (.iload_n 1, 1) ∧ 26 + 1 = 27 := ⟨by decide +kernel, rfl⟩
set_option maxRecDepth 20000 in
theorem dX11_count_27 : decode cX11_count 27 = .ok (.bipush 12, 2) ∧ 27 + 2 = 29 := ⟨by decide +kernel, rfl⟩
set_option maxRecDepth 20000 in
theorem dX11_count_29 : decode cX11_count 29 = .ok (.if_icmp .lt 22, 3) ∧ 29 + 3 = 32 ∧ ((29 : Nat) : Int) + (22) = ((51 : Nat) : Int) := ⟨by decide +kernel, rfl, by decide⟩
set_option maxRecDepth 20000 in
theorem dX11_count_32 : decode cX11_count 32 = .ok (.iload_n 1, 1) ∧ 32 + 1 = 33 := ⟨by decide +kernel, rfl⟩
set_option maxRecDepth 20000 in
theorem dX11_count_33 : decode cX11_count 33 = .ok (.bipush 18, 2) ∧ 33 + 2 = 35 := ⟨by decide +kernel, rfl⟩
set_option maxRecDepth 20000 in
theorem dX11_count_35 : decode cX11_count 35 = .ok (.if_icmp .ge 16, 3) ∧ 35 + 3 = 38 ∧ ((35 : Nat) : Int) + (16) = ((51 : Nat) : Int) := ⟨by decide +kernel, rfl, by decide⟩
set_option maxRecDepth 20000 in
theorem dX11_count_38 : decode cX11_count 38 = .ok (.aload_n 0, 1) ∧ 38 + 1 = 39 := ⟨by decide +kernel, rfl⟩
set_option maxRecDepth 20000 in
theorem dX11_count_39 : decode cX11_count 39 = .ok (.getfield 10, 3) ∧ 39 + 3 = 42 := ⟨by decide +kernel, rfl⟩
set_option maxRecDepth 20000 in
theorem dX11_count_42 : decode cX11_count 42 = .ok (.getfield 149, 3) ∧ 42 + 3 = 45 := ⟨by decide +kernel, rfl⟩
set_option maxRecDepth 20000 in
theorem dX11_count_45 : decode cX11_count 45 = .ok (.iload_n 1, 1) ∧ 45 + 1 = 46 := ⟨by decide +kernel, rfl⟩
set_option maxRecDepth 20000 in
theorem dX11_count_46 : decode cX11_count 46 = .ok (.bipush 12, 2) ∧ 46 + 2 = 48 := ⟨by decide +kernel, rfl⟩
set_option maxRecDepth 20000 in
theorem dX11_count_48 : decode cX11_count 48 = .ok (.isub, 1) ∧ 48 + 1 = 49 := ⟨by decide +kernel, rfl⟩
set_option maxRecDepth 20000 in
theorem dX11_count_49 : decode cX11_count 49 = .ok (.iaload, 1) ∧ 49 + 1 = 50 := ⟨by decide +kernel, rfl⟩
set_option maxRecDepth 20000 in
theorem dX11_count_50 : decode cX11_count 50 = .ok (.ireturn, 1) := by decide +kernel
set_option maxRecDepth 20000 in
theorem dX11_count_51 : decode cX11_count 51 = .ok (.iload_n 1, 1) ∧ 51 + 1 = 52 := ⟨by decide +kernel, rfl⟩
set_option maxRecDepth 20000 in
theorem dX11_count_52 : decode cX11_count 52 = .ok (.tableswitch 126 0 11 #[64, 72, 80, 88, 99, 110, 126, 126, 126, 126, 126, 118], 64) := by decide +kernel
set_option maxRecDepth 20000 in
theorem dX11_count_116 : decode cX11_count 116 = .ok (.aload_n 0, 1) ∧ 116 + 1 = 117 := ⟨by decide +kernel, rfl⟩
set_option maxRecDepth 20000 in
theorem dX11_count_117 : decode cX11_count 117 = .ok (.getfield 10, 3) ∧ 117 + 3 = 120 := ⟨by decide +kernel, rfl⟩
set_option maxRecDepth 20000 in
theorem dX11_count_120 : decode cX11_count 120 = .ok (.getfield 101, 3) ∧ 120 + 3 = 123 := ⟨by decide +kernel, rfl⟩
set_option maxRecDepth 20000 in
theorem dX11_count_123 : decode cX11_count 123 = .ok (.ireturn, 1) := by decide +kernel
set_option maxRecDepth 20000 in
theorem dX11_count_124 : decode cX11_count 124 = .ok (.aload_n 0, 1) ∧ 124 + 1 = 125 := ⟨by decide +kernel, rfl⟩
set_option maxRecDepth 20000 in
theorem dX11_count_125 : decode cX11_count 125 = .ok (.getfield 10, 3) ∧ 125 + 3 = 128 := ⟨by decide +kernel, rfl⟩
set_option maxRecDepth 20000 in
theorem dX11_count_128 : decode cX11_count 128 = .ok (.getfield 122, 3) ∧ 128 + 3 = 131 := ⟨by decide +kernel, rfl⟩
set_option maxRecDepth 20000 in
theorem dX11_count_131 : decode cX11_count 131 = .ok (.ireturn, 1) := by decide +kernel
set_option maxRecDepth 20000 in
theorem dX11_count_132 : decode cX11_count 132 = .ok (.aload_n 0, 1) ∧ 132 + 1 = 133 := ⟨by decide +kernel, rfl⟩
set_option maxRecDepth 20000 in
theorem dX11_count_133 : decode cX11_count 133 = .ok (.getfield 10, 3) ∧ 133 + 3 = 136 := ⟨by decide +kernel, rfl⟩
set_option maxRecDepth 20000 in
theorem dX11_count_136 : decode cX11_count 136 = .ok (.getfield 181, 3) ∧ 136 + 3 = 139 := ⟨by decide +kernel, rfl⟩
set_option maxRecDepth 20000 in
theorem dX11_count_139 : decode cX11_count 139 = .ok (.ireturn, 1) := by decide +kernel
set_option maxRecDepth 20000 in
theorem dX11_count_140 : decode cX11_count 140 = .ok (.aload_n 0, 1) ∧ 140 + 1 = 141 := ⟨by decide +kernel, rfl⟩
set_option maxRecDepth 20000 in
theorem dX11_count_141 : decode cX11_count 141 = .ok (.getfield 10, 3) ∧ 141 + 3 = 144 := ⟨by decide +kernel, rfl⟩
set_option maxRecDepth 20000 in
theorem dX11_count_144 : decode cX11_count 144 = .ok (.getfield 169, 3) ∧ 144 + 3 = 147 := ⟨by decide +kernel, rfl⟩
set_option maxRecDepth 20000 in
theorem dX11_count_147 : decode cX11_count 147 = .ok (.getfield 173, 3) ∧ 147 + 3 = 150 := ⟨by decide +kernel, rfl⟩
set_option maxRecDepth 20000 in
theorem dX11_count_150 : decode cX11_count 150 = .ok (.ireturn, 1) := by decide +kernel
set_option maxRecDepth 20000 in
theorem dX11_count_151 : decode cX11_count 151 = .ok (.aload_n 0, 1) ∧ 151 + 1 = 152 := ⟨by decide +kernel, rfl⟩
set_option maxRecDepth 20000 in
theorem dX11_count_152 : decode cX11_count 152 = .ok (.getfield 10, 3) ∧ 152 + 3 = 155 := ⟨by decide +kernel, rfl⟩
set_option maxRecDepth 20000 in
theorem dX11_count_155 : decode cX11_count 155 = .ok (.getfield 140, 3) ∧ 155 + 3 = 158 := ⟨by decide +kernel, rfl⟩
set_option maxRecDepth 20000 in
theorem dX11_count_158 : decode cX11_count 158 = .ok (.invokestatic 226, 3) ∧ 158 + 3 = 161 := ⟨by decide +kernel, rfl⟩
set_option maxRecDepth 20000 in
theorem dX11_count_161 : decode cX11_count 161 = .ok (.ireturn, 1) := by decide +kernel
set_option maxRecDepth 20000 in
theorem dX11_count_162 : decode cX11_count 162 = .ok (.aload_n 0, 1) ∧ 162 + 1 = 163 := ⟨by decide +kernel, rfl⟩
set_option maxRecDepth 20000 in
theorem dX11_count_163 : decode cX11_count 163 = .ok (.getfield 27, 3) ∧ 163 + 3 = 166 := ⟨by decide +kernel, rfl⟩
set_option maxRecDepth 20000 in
theorem dX11_count_166 : decode cX11_count 166 = .ok (.getfield 152, 3) ∧ 166 + 3 = 169 := ⟨by decide +kernel, rfl⟩
set_option maxRecDepth 20000 in
theorem dX11_count_169 : decode cX11_count 169 = .ok (.ireturn, 1) := by decide +kernel
set_option maxRecDepth 20000 in
theorem dX11_count_170 : decode cX11_count 170 = .ok (.aload_n 0, 1) ∧ 170 + 1 = 171 := ⟨by decide +kernel, rfl⟩
set_option maxRecDepth 20000 in
theorem dX11_count_171 : decode cX11_count 171 = .ok (.getfield 10, 3) ∧ 171 + 3 = 174 := ⟨by decide +kernel, rfl⟩
set_option maxRecDepth 20000 in
theorem dX11_count_174 : decode cX11_count 174 = .ok (.getfield 196, 3) ∧ 174 + 3 = 177 := ⟨by decide +kernel, rfl⟩
set_option maxRecDepth 20000 in
theorem dX11_count_177 : decode cX11_count 177 = .ok (.ireturn, 1) := by decide +kernel
set_option maxRecDepth 20000 in
theorem dX11_count_178 : decode cX11_count 178 = .ok (.iconst (-1), 1) ∧ 178 + 1 = 179 := ⟨by decide +kernel, rfl⟩
set_option maxRecDepth 20000 in
theorem dX11_count_179 : decode cX11_count 179 = .ok (.ireturn, 1) := by decide +kernel
set_option maxRecDepth 20000 in
theorem dX11_status_0 : decode cX11_status 0 = .ok (.aload_n 0, 1) ∧ 0 + 1 = 1 := ⟨by decide +kernel, rfl⟩
set_option maxRecDepth 20000 in
theorem dX11_status_1 : decode cX11_status 1 = .ok (.getfield 369, 3) ∧ 1 + 3 = 4 := ⟨by decide +kernel, rfl⟩
set_option maxRecDepth 20000 in
theorem dX11_status_4 : decode cX11_status 4 = .ok (.ireturn, 1) := by decide +kernel
set_option maxRecDepth 20000 in
theorem dX11_refuse_0 : decode cX11_refuse 0 = .ok (.aload_n 0, 1) ∧ 0 + 1 = 1 := ⟨by decide +kernel, rfl⟩
set_option maxRecDepth 20000 in
theorem dX11_refuse_1 : decode cX11_refuse 1 = .ok (.getfield 85, 3) ∧ 1 + 3 = 4 := ⟨by decide +kernel, rfl⟩
set_option maxRecDepth 20000 in
theorem dX11_refuse_4 : decode cX11_refuse 4 = .ok (.iload_n 1, 1) ∧ 4 + 1 = 5 := ⟨by decide +kernel, rfl⟩
set_option maxRecDepth 20000 in
theorem dX11_refuse_5 : decode cX11_refuse 5 = .ok (.ineg, 1) ∧ 5 + 1 = 6 := ⟨by decide +kernel, rfl⟩
set_option maxRecDepth 20000 in
theorem dX11_refuse_6 : decode cX11_refuse 6 = .ok (.dup2, 1) ∧ 6 + 1 = 7 := ⟨by decide +kernel, rfl⟩
set_option maxRecDepth 20000 in
theorem dX11_refuse_7 : decode cX11_refuse 7 = .ok (.iaload, 1) ∧ 7 + 1 = 8 := ⟨by decide +kernel, rfl⟩
set_option maxRecDepth 20000 in
theorem dX11_refuse_8 : decode cX11_refuse 8 = .ok (.iconst 1, 1) ∧ 8 + 1 = 9 := ⟨by decide +kernel, rfl⟩
set_option maxRecDepth 20000 in
theorem dX11_refuse_9 : decode cX11_refuse 9 = .ok (.iadd, 1) ∧ 9 + 1 = 10 := ⟨by decide +kernel, rfl⟩
set_option maxRecDepth 20000 in
theorem dX11_refuse_10 : decode cX11_refuse 10 = .ok (.iastore, 1) ∧ 10 + 1 = 11 := ⟨by decide +kernel, rfl⟩
set_option maxRecDepth 20000 in
theorem dX11_refuse_11 : decode cX11_refuse 11 = .ok (.aload_n 0, 1) ∧ 11 + 1 = 12 := ⟨by decide +kernel, rfl⟩
set_option maxRecDepth 20000 in
theorem dX11_refuse_12 : decode cX11_refuse 12 = .ok (.iload_n 1, 1) ∧ 12 + 1 = 13 := ⟨by decide +kernel, rfl⟩
set_option maxRecDepth 20000 in
theorem dX11_refuse_13 : decode cX11_refuse 13 = .ok (.putfield 369, 3) ∧ 13 + 3 = 16 := ⟨by decide +kernel, rfl⟩
set_option maxRecDepth 20000 in
theorem dX11_refuse_16 : decode cX11_refuse 16 = .ok (.iload_n 1, 1) ∧ 16 + 1 = 17 := ⟨by decide +kernel, rfl⟩
set_option maxRecDepth 20000 in
theorem dX11_refuse_17 : decode cX11_refuse 17 = .ok (.ireturn, 1) := by decide +kernel
set_option maxRecDepth 20000 in
theorem dX11_accept_0 : decode cX11_accept 0 = .ok (.aload_n 0, 1) ∧ 0 + 1 = 1 := ⟨by decide +kernel, rfl⟩
set_option maxRecDepth 20000 in
theorem dX11_accept_1 : decode cX11_accept 1 = .ok (.getfield 57, 3) ∧ 1 + 3 = 4 := ⟨by decide +kernel, rfl⟩
set_option maxRecDepth 20000 in
theorem dX11_accept_4 : decode cX11_accept 4 = .ok (.invokevirtual 134, 3) ∧ 4 + 3 = 7 := ⟨by decide +kernel, rfl⟩
set_option maxRecDepth 20000 in
theorem dX11_accept_7 : decode cX11_accept 7 = .ok (.aload_n 0, 1) ∧ 7 + 1 = 8 := ⟨by decide +kernel, rfl⟩
set_option maxRecDepth 20000 in
theorem dX11_accept_8 : decode cX11_accept 8 = .ok (.iconst 0, 1) ∧ 8 + 1 = 9 := ⟨by decide +kernel, rfl⟩
set_option maxRecDepth 20000 in
theorem dX11_accept_9 : decode cX11_accept 9 = .ok (.putfield 369, 3) ∧ 9 + 3 = 12 := ⟨by decide +kernel, rfl⟩
set_option maxRecDepth 20000 in
theorem dX11_accept_12 : decode cX11_accept 12 = .ok (.iload_n 1, 1) ∧ 12 + 1 = 13 := ⟨by decide +kernel, rfl⟩
set_option maxRecDepth 20000 in
theorem dX11_accept_13 : decode cX11_accept 13 = .ok (.ireturn, 1) := by decide +kernel
set_option maxRecDepth 20000 in
theorem dX11_tallyBench_0 : decode cX11_tallyBench 0 = .ok (.aload_n 0, 1) ∧ 0 + 1 = 1 := ⟨by decide +kernel, rfl⟩
set_option maxRecDepth 20000 in
theorem dX11_tallyBench_1 : decode cX11_tallyBench 1 = .ok (.getfield 50, 3) ∧ 1 + 3 = 4 := ⟨by decide +kernel, rfl⟩
set_option maxRecDepth 20000 in
theorem dX11_tallyBench_4 : decode cX11_tallyBench 4 = .ok (.invokevirtual 372, 3) ∧ 4 + 3 = 7 := ⟨by decide +kernel, rfl⟩
set_option maxRecDepth 20000 in
theorem dX11_tallyBench_7 : decode cX11_tallyBench 7 = .ok (.iconst 0, 1) ∧ 7 + 1 = 8 := ⟨by decide +kernel, rfl⟩
set_option maxRecDepth 20000 in
theorem dX11_tallyBench_8 : decode cX11_tallyBench 8 = .ok (.istore_n 3, 1) ∧ 8 + 1 = 9 := ⟨by decide +kernel, rfl⟩
set_option maxRecDepth 20000 in
theorem dX11_tallyBench_9 : decode cX11_tallyBench 9 = .ok (.iload_n 3, 1) ∧ 9 + 1 = 10 := ⟨by decide +kernel, rfl⟩
set_option maxRecDepth 20000 in
theorem dX11_tallyBench_10 : decode cX11_tallyBench 10 = .ok (.aload_n 0, 1) ∧ 10 + 1 = 11 := ⟨by decide +kernel, rfl⟩
set_option maxRecDepth 20000 in
theorem dX11_tallyBench_11 : decode cX11_tallyBench 11 = .ok (.getfield 10, 3) ∧ 11 + 3 = 14 := ⟨by decide +kernel, rfl⟩
set_option maxRecDepth 20000 in
theorem dX11_tallyBench_14 : decode cX11_tallyBench 14 = .ok (.getfield 101, 3) ∧ 14 + 3 = 17 := ⟨by decide +kernel, rfl⟩
set_option maxRecDepth 20000 in
theorem dX11_tallyBench_17 : decode cX11_tallyBench 17 = .ok (.if_icmp .ge 55, 3) ∧ 17 + 3 = 20 ∧ ((17 : Nat) : Int) + (55) = ((72 : Nat) : Int) := ⟨by decide +kernel, rfl, by decide⟩
set_option maxRecDepth 20000 in
theorem dX11_tallyBench_20 : decode cX11_tallyBench 20 = .ok (.aload_n 0, 1) ∧ 20 + 1 = 21 := ⟨by decide +kernel, rfl⟩
set_option maxRecDepth 20000 in
theorem dX11_tallyBench_21 : decode cX11_tallyBench 21 = .ok (.getfield 10, 3) ∧ 21 + 3 = 24 := ⟨by decide +kernel, rfl⟩
set_option maxRecDepth 20000 in
theorem dX11_tallyBench_24 : decode cX11_tallyBench 24 = .ok (.iload_n 3, 1) ∧ 24 + 1 = 25 := ⟨by decide +kernel, rfl⟩
set_option maxRecDepth 20000 in
theorem dX11_tallyBench_25 : decode cX11_tallyBench 25 = .ok (.invokevirtual 223, 3) ∧ 25 + 3 = 28 := ⟨by decide +kernel, rfl⟩
set_option maxRecDepth 20000 in
theorem dX11_tallyBench_28 : decode cX11_tallyBench 28 = .ok (.ifCond .eq 38, 3) ∧ 28 + 3 = 31 ∧ ((28 : Nat) : Int) + (38) = ((66 : Nat) : Int) := ⟨by decide +kernel, rfl, by decide⟩
set_option maxRecDepth 20000 in
theorem dX11_tallyBench_31 : decode cX11_tallyBench 31 = .ok (.iload_n 3, 1) ∧ 31 + 1 = 32 := ⟨by decide +kernel, rfl⟩
set_option maxRecDepth 20000 in
theorem dX11_tallyBench_32 : decode cX11_tallyBench 32 = .ok (.iload_n 2, 1) ∧ 32 + 1 = 33 := ⟨by decide +kernel, rfl⟩
set_option maxRecDepth 20000 in
theorem dX11_tallyBench_33 : decode cX11_tallyBench 33 = .ok (.if_icmp .eq 33, 3) ∧ 33 + 3 = 36 ∧ ((33 : Nat) : Int) + (33) = ((66 : Nat) : Int) := ⟨by decide +kernel, rfl, by decide⟩
set_option maxRecDepth 20000 in
theorem dX11_tallyBench_36 : decode cX11_tallyBench 36 = .ok (.aload_n 0, 1) ∧ 36 + 1 = 37 := ⟨by decide +kernel, rfl⟩
set_option maxRecDepth 20000 in
theorem dX11_tallyBench_37 : decode cX11_tallyBench 37 = .ok (.getfield 50, 3) ∧ 37 + 3 = 40 := ⟨by decide +kernel, rfl⟩
set_option maxRecDepth 20000 in
theorem dX11_tallyBench_40 : decode cX11_tallyBench 40 = .ok (.aload_n 0, 1) ∧ 40 + 1 = 41 := ⟨by decide +kernel, rfl⟩
set_option maxRecDepth 20000 in
theorem dX11_tallyBench_41 : decode cX11_tallyBench 41 = .ok (.getfield 43, 3) ∧ 41 + 3 = 44 := ⟨by decide +kernel, rfl⟩
set_option maxRecDepth 20000 in
theorem dX11_tallyBench_44 : decode cX11_tallyBench 44 = .ok (.aload_n 0, 1) ∧ 44 + 1 = 45 := ⟨by decide +kernel, rfl⟩
set_option maxRecDepth 20000 in
theorem dX11_tallyBench_45 : decode cX11_tallyBench 45 = .ok (.getfield 10, 3) ∧ 45 + 3 = 48 := ⟨by decide +kernel, rfl⟩
set_option maxRecDepth 20000 in
theorem dX11_tallyBench_48 : decode cX11_tallyBench 48 = .ok (.iload_n 3, 1) ∧ 48 + 1 = 49 := ⟨by decide +kernel, rfl⟩
set_option maxRecDepth 20000 in
theorem dX11_tallyBench_49 : decode cX11_tallyBench 49 = .ok (.iload_n 1, 1) ∧ 49 + 1 = 50 := ⟨by decide +kernel, rfl⟩
set_option maxRecDepth 20000 in
theorem dX11_tallyBench_50 : decode cX11_tallyBench 50 = .ok (.aload_n 0, 1) ∧ 50 + 1 = 51 := ⟨by decide +kernel, rfl⟩
set_option maxRecDepth 20000 in
theorem dX11_tallyBench_51 : decode cX11_tallyBench 51 = .ok (.getfield 10, 3) ∧ 51 + 3 = 54 := ⟨by decide +kernel, rfl⟩
set_option maxRecDepth 20000 in
theorem dX11_tallyBench_54 : decode cX11_tallyBench 54 = .ok (.iload_n 3, 1) ∧ 54 + 1 = 55 := ⟨by decide +kernel, rfl⟩
set_option maxRecDepth 20000 in
theorem dX11_tallyBench_55 : decode cX11_tallyBench 55 = .ok (.iconst 5, 1) ∧ 55 + 1 = 56 := ⟨by decide +kernel, rfl⟩
set_option maxRecDepth 20000 in
theorem dX11_tallyBench_56 : decode cX11_tallyBench 56 = .ok (.invokevirtual 115, 3) ∧ 56 + 3 = 59 := ⟨by decide +kernel, rfl⟩
set_option maxRecDepth 20000 in
theorem dX11_tallyBench_59 : decode cX11_tallyBench 59 = .ok (.iconst 0, 1) ∧ 59 + 1 = 60 := ⟨by decide +kernel, rfl⟩
set_option maxRecDepth 20000 in
theorem dX11_tallyBench_60 : decode cX11_tallyBench 60 = .ok (.invokevirtual 199, 3) ∧ 60 + 3 = 63 := ⟨by decide +kernel, rfl⟩
set_option maxRecDepth 20000 in
theorem dX11_tallyBench_63 : decode cX11_tallyBench 63 = .ok (.invokevirtual 375, 3) ∧ 63 + 3 = 66 := ⟨by decide +kernel, rfl⟩
set_option maxRecDepth 20000 in
theorem dX11_tallyBench_66 : decode cX11_tallyBench 66 = .ok (.iinc 3 1, 3) ∧ 66 + 3 = 69 := ⟨by decide +kernel, rfl⟩
set_option maxRecDepth 20000 in
theorem dX11_tallyBench_69 : decode cX11_tallyBench 69 = .ok (.goto (-60), 3) ∧ ((69 : Nat) : Int) + (-60) = ((9 : Nat) : Int) := ⟨by decide +kernel, by decide⟩
set_option maxRecDepth 20000 in
theorem dX11_tallyBench_72 : decode cX11_tallyBench 72 = .ok (.return_, 1) := by decide +kernel
set_option maxRecDepth 20000 in
theorem dX11_fitsTrait_0 : decode cX11_fitsTrait 0 = .ok (.iload_n 0, 1) ∧ 0 + 1 = 1 := ⟨by decide +kernel, rfl⟩
set_option maxRecDepth 20000 in
theorem dX11_fitsTrait_1 : decode cX11_fitsTrait 1 = .ok (.ifCond .lt 26, 3) ∧ 1 + 3 = 4 ∧ ((1 : Nat) : Int) + (26) = ((27 : Nat) : Int) := ⟨by decide +kernel, rfl, by decide⟩
set_option maxRecDepth 20000 in
theorem dX11_fitsTrait_4 : decode cX11_fitsTrait 4 = .ok (.iload_n 0, 1) ∧ 4 + 1 = 5 := ⟨by decide +kernel, rfl⟩
set_option maxRecDepth 20000 in
theorem dX11_fitsTrait_5 : decode cX11_fitsTrait 5 = .ok (.bipush 6, 2) ∧ 5 + 2 = 7 := ⟨by decide +kernel, rfl⟩
set_option maxRecDepth 20000 in
theorem dX11_fitsTrait_7 : decode cX11_fitsTrait 7 = .ok (.if_icmp .ge 20, 3) ∧ 7 + 3 = 10 ∧ ((7 : Nat) : Int) + (20) = ((27 : Nat) : Int) := ⟨by decide +kernel, rfl, by decide⟩
set_option maxRecDepth 20000 in
theorem dX11_fitsTrait_10 : decode cX11_fitsTrait 10 = .ok (.iload_n 1, 1) ∧ 10 + 1 = 11 := ⟨by decide +kernel, rfl⟩
set_option maxRecDepth 20000 in
theorem dX11_fitsTrait_11 : decode cX11_fitsTrait 11 = .ok (.ifCond .lt 16, 3) ∧ 11 + 3 = 14 ∧ ((11 : Nat) : Int) + (16) = ((27 : Nat) : Int) := ⟨by decide +kernel, rfl, by decide⟩
set_option maxRecDepth 20000 in
theorem dX11_fitsTrait_14 : decode cX11_fitsTrait 14 = .ok (.iload_n 1, 1) ∧ 14 + 1 = 15 := ⟨by decide +kernel, rfl⟩
set_option maxRecDepth 20000 in
theorem dX11_fitsTrait_15 : decode cX11_fitsTrait 15 = .ok (.getstatic 378, 3) ∧ 15 + 3 = 18 := ⟨by decide +kernel, rfl⟩
set_option maxRecDepth 20000 in
theorem dX11_fitsTrait_18 : decode cX11_fitsTrait 18 = .ok (.iload_n 0, 1) ∧ 18 + 1 = 19 := ⟨by decide +kernel, rfl⟩
set_option maxRecDepth 20000 in
theorem dX11_fitsTrait_19 : decode cX11_fitsTrait 19 = .ok (.iaload, 1) ∧ 19 + 1 = 20 := ⟨by decide +kernel, rfl⟩
set_option maxRecDepth 20000 in
theorem dX11_fitsTrait_20 : decode cX11_fitsTrait 20 = .ok (.if_icmp .gt 7, 3) ∧ 20 + 3 = 23 ∧ ((20 : Nat) : Int) + (7) = ((27 : Nat) : Int) := ⟨by decide +kernel, rfl, by decide⟩
set_option maxRecDepth 20000 in
theorem dX11_fitsTrait_23 : decode cX11_fitsTrait 23 = .ok (.iconst 1, 1) ∧ 23 + 1 = 24 := ⟨by decide +kernel, rfl⟩
set_option maxRecDepth 20000 in
theorem dX11_fitsTrait_24 : decode cX11_fitsTrait 24 = .ok (.goto 4, 3) ∧ ((24 : Nat) : Int) + (4) = ((28 : Nat) : Int) := ⟨by decide +kernel, by decide⟩
set_option maxRecDepth 20000 in
theorem dX11_fitsTrait_27 : decode cX11_fitsTrait 27 = .ok (.iconst 0, 1) ∧ 27 + 1 = 28 := ⟨by decide +kernel, rfl⟩
set_option maxRecDepth 20000 in
theorem dX11_fitsTrait_28 : decode cX11_fitsTrait 28 = .ok (.ireturn, 1) := by decide +kernel
set_option maxRecDepth 20000 in
theorem dX11_isHour_0 : decode cX11_isHour 0 = .ok (.iload_n 0, 1) ∧ 0 + 1 = 1 := ⟨by decide +kernel, rfl⟩
set_option maxRecDepth 20000 in
theorem dX11_isHour_1 : decode cX11_isHour 1 = .ok (.ifCond .lt 13, 3) ∧ 1 + 3 = 4 ∧ ((1 : Nat) : Int) + (13) = ((14 : Nat) : Int) := ⟨by decide +kernel, rfl, by decide⟩
set_option maxRecDepth 20000 in
theorem dX11_isHour_4 : decode cX11_isHour 4 = .ok (.iload_n 0, 1) ∧ 4 + 1 = 5 := ⟨by decide +kernel, rfl⟩
set_option maxRecDepth 20000 in
theorem dX11_isHour_5 : decode cX11_isHour 5 = .ok (.bipush 24, 2) ∧ 5 + 2 = 7 := ⟨by decide +kernel, rfl⟩
set_option maxRecDepth 20000 in
theorem dX11_isHour_7 : decode cX11_isHour 7 = .ok (.if_icmp .ge 7, 3) ∧ 7 + 3 = 10 ∧ ((7 : Nat) : Int) + (7) = ((14 : Nat) : Int) := ⟨by decide +kernel, rfl, by decide⟩
set_option maxRecDepth 20000 in
theorem dX11_isHour_10 : decode cX11_isHour 10 = .ok (.iconst 1, 1) ∧ 10 + 1 = 11 := ⟨by decide +kernel, rfl⟩
set_option maxRecDepth 20000 in
theorem dX11_isHour_11 : decode cX11_isHour 11 = .ok (.goto 4, 3) ∧ ((11 : Nat) : Int) + (4) = ((15 : Nat) : Int) := ⟨by decide +kernel, by decide⟩
set_option maxRecDepth 20000 in
theorem dX11_isHour_14 : decode cX11_isHour 14 = .ok (.iconst 0, 1) ∧ 14 + 1 = 15 := ⟨by decide +kernel, rfl⟩
set_option maxRecDepth 20000 in
theorem dX11_isHour_15 : decode cX11_isHour 15 = .ok (.ireturn, 1) := by decide +kernel
set_option maxRecDepth 20000 in
theorem dX11_isSide_0 : decode cX11_isSide 0 = .ok (.iload_n 0, 1) ∧ 0 + 1 = 1 := ⟨by decide +kernel, rfl⟩
set_option maxRecDepth 20000 in
theorem dX11_isSide_1 : decode cX11_isSide 1 = .ok (.ifCond .eq 8, 3) ∧ 1 + 3 = 4 ∧ ((1 : Nat) : Int) + (8) = ((9 : Nat) : Int) := ⟨by decide +kernel, rfl, by decide⟩
set_option maxRecDepth 20000 in
theorem dX11_isSide_4 : decode cX11_isSide 4 = .ok (.iload_n 0, 1) ∧ 4 + 1 = 5 := ⟨by decide +kernel, rfl⟩
set_option maxRecDepth 20000 in
theorem dX11_isSide_5 : decode cX11_isSide 5 = .ok (.iconst 1, 1) ∧ 5 + 1 = 6 := ⟨by decide +kernel, rfl⟩
set_option maxRecDepth 20000 in
theorem dX11_isSide_6 : decode cX11_isSide 6 = .ok (.if_icmp .ne 7, 3) ∧ 6 + 3 = 9 ∧ ((6 : Nat) : Int) + (7) = ((13 : Nat) : Int) := ⟨by decide +kernel, rfl, by decide⟩
set_option maxRecDepth 20000 in
theorem dX11_isSide_9 : decode cX11_isSide 9 = .ok (.iconst 1, 1) ∧ 9 + 1 = 10 := ⟨by decide +kernel, rfl⟩
set_option maxRecDepth 20000 in
theorem dX11_isSide_10 : decode cX11_isSide 10 = .ok (.goto 4, 3) ∧ ((10 : Nat) : Int) + (4) = ((14 : Nat) : Int) := ⟨by decide +kernel, by decide⟩
set_option maxRecDepth 20000 in
theorem dX11_isSide_13 : decode cX11_isSide 13 = .ok (.iconst 0, 1) ∧ 13 + 1 = 14 := ⟨by decide +kernel, rfl⟩
set_option maxRecDepth 20000 in
theorem dX11_isSide_14 : decode cX11_isSide 14 = .ok (.ireturn, 1) := by decide +kernel
set_option maxRecDepth 20000 in
theorem dX11_isEither_0 : decode cX11_isEither 0 = .ok (.iload_n 0, 1) ∧ 0 + 1 = 1 := ⟨by decide +kernel, rfl⟩
set_option maxRecDepth 20000 in
theorem dX11_isEither_1 : decode cX11_isEither 1 = .ok (.ifCond .eq 8, 3) ∧ 1 + 3 = 4 ∧ ((1 : Nat) : Int) + (8) = ((9 : Nat) : Int) := ⟨by decide +kernel, rfl, by decide⟩
set_option maxRecDepth 20000 in
theorem dX11_isEither_4 : decode cX11_isEither 4 = .ok (.iload_n 0, 1) ∧ 4 + 1 = 5 := ⟨by decide +kernel, rfl⟩
set_option maxRecDepth 20000 in
theorem dX11_isEither_5 : decode cX11_isEither 5 = .ok (.iconst 1, 1) ∧ 5 + 1 = 6 := ⟨by decide +kernel, rfl⟩
set_option maxRecDepth 20000 in
theorem dX11_isEither_6 : decode cX11_isEither 6 = .ok (.if_icmp .ne 7, 3) ∧ 6 + 3 = 9 ∧ ((6 : Nat) : Int) + (7) = ((13 : Nat) : Int) := ⟨by decide +kernel, rfl, by decide⟩
set_option maxRecDepth 20000 in
theorem dX11_isEither_9 : decode cX11_isEither 9 = .ok (.iconst 1, 1) ∧ 9 + 1 = 10 := ⟨by decide +kernel, rfl⟩
set_option maxRecDepth 20000 in
theorem dX11_isEither_10 : decode cX11_isEither 10 = .ok (.goto 4, 3) ∧ ((10 : Nat) : Int) + (4) = ((14 : Nat) : Int) := ⟨by decide +kernel, by decide⟩
set_option maxRecDepth 20000 in
theorem dX11_isEither_13 : decode cX11_isEither 13 = .ok (.iconst 0, 1) ∧ 13 + 1 = 14 := ⟨by decide +kernel, rfl⟩
set_option maxRecDepth 20000 in
theorem dX11_isEither_14 : decode cX11_isEither 14 = .ok (.ireturn, 1) := by decide +kernel
set_option maxRecDepth 20000 in
theorem dX11_canJudge_0 : decode cX11_canJudge 0 = .ok (.iload_n 0, 1) ∧ 0 + 1 = 1 := ⟨by decide +kernel, rfl⟩
set_option maxRecDepth 20000 in
theorem dX11_canJudge_1 : decode cX11_canJudge 1 = .ok (.invokestatic 203, 3) ∧ 1 + 3 = 4 := ⟨by decide +kernel, rfl⟩
set_option maxRecDepth 20000 in
theorem dX11_canJudge_4 : decode cX11_canJudge 4 = .ok (.ifCond .eq 26, 3) ∧ 4 + 3 = 7 ∧ ((4 : Nat) : Int) + (26) = ((30 : Nat) : Int) := ⟨by decide +kernel, rfl, by decide⟩
set_option maxRecDepth 20000 in
theorem dX11_canJudge_7 : decode cX11_canJudge 7 = .ok (.iload_n 1, 1) ∧ 7 + 1 = 8 := ⟨by decide +kernel, rfl⟩
set_option maxRecDepth 20000 in
theorem dX11_canJudge_8 : decode cX11_canJudge 8 = .ok (.ifCond .lt 22, 3) ∧ 8 + 3 = 11 ∧ ((8 : Nat) : Int) + (22) = ((30 : Nat) : Int) := ⟨by decide +kernel, rfl, by decide⟩
set_option maxRecDepth 20000 in
theorem dX11_canJudge_11 : decode cX11_canJudge 11 = .ok (.iload_n 1, 1) ∧ 11 + 1 = 12 := ⟨by decide +kernel, rfl⟩
set_option maxRecDepth 20000 in
theorem dX11_canJudge_12 : decode cX11_canJudge 12 = .ok (.sipush 256, 3) ∧ 12 + 3 = 15 := ⟨by decide +kernel, rfl⟩
set_option maxRecDepth 20000 in
theorem dX11_canJudge_15 : decode cX11_canJudge 15 = .ok (.if_icmp .ge 15, 3) ∧ 15 + 3 = 18 ∧ ((15 : Nat) : Int) + (15) = ((30 : Nat) : Int) := ⟨by decide +kernel, rfl, by decide⟩
set_option maxRecDepth 20000 in
theorem dX11_canJudge_18 : decode cX11_canJudge 18 = .ok (.iload_n 2, 1) ∧ 18 + 1 = 19 := ⟨by decide +kernel, rfl⟩
set_option maxRecDepth 20000 in
theorem dX11_canJudge_19 : decode cX11_canJudge 19 = .ok (.iload_n 1, 1) ∧ 19 + 1 = 20 := ⟨by decide +kernel, rfl⟩
set_option maxRecDepth 20000 in
theorem dX11_canJudge_20 : decode cX11_canJudge 20 = .ok (.iconst (-1), 1) ∧ 20 + 1 = 21 := ⟨by decide +kernel, rfl⟩
set_option maxRecDepth 20000 in
theorem dX11_canJudge_21 : decode cX11_canJudge 21 = .ok (.ixor, 1) ∧ 21 + 1 = 22 := ⟨by decide +kernel, rfl⟩
set_option maxRecDepth 20000 in
theorem dX11_canJudge_22 : decode cX11_canJudge 22 = .ok (.iand, 1) ∧ 22 + 1 = 23 := ⟨by decide +kernel, rfl⟩
set_option maxRecDepth 20000 in
theorem dX11_canJudge_23 : decode cX11_canJudge 23 = .ok (.ifCond .ne 7, 3) ∧ 23 + 3 = 26 ∧ ((23 : Nat) : Int) + (7) = ((30 : Nat) : Int) := ⟨by decide +kernel, rfl, by decide⟩
set_option maxRecDepth 20000 in
theorem dX11_canJudge_26 : decode cX11_canJudge 26 = .ok (.iconst 1, 1) ∧ 26 + 1 = 27 := ⟨by decide +kernel, rfl⟩
set_option maxRecDepth 20000 in
theorem dX11_canJudge_27 : decode cX11_canJudge 27 = .ok (.goto 4, 3) ∧ ((27 : Nat) : Int) + (4) = ((31 : Nat) : Int) := ⟨by decide +kernel, by decide⟩
set_option maxRecDepth 20000 in
theorem dX11_canJudge_30 : decode cX11_canJudge 30 = .ok (.iconst 0, 1) ∧ 30 + 1 = 31 := ⟨by decide +kernel, rfl⟩
set_option maxRecDepth 20000 in
theorem dX11_canJudge_31 : decode cX11_canJudge 31 = .ok (.ireturn, 1) := by decide +kernel
set_option maxRecDepth 20000 in
theorem dX11_power_0 : decode cX11_power 0 = .ok (.lconst 1, 1) ∧ 0 + 1 = 1 := ⟨by decide +kernel, rfl⟩
set_option maxRecDepth 20000 in
theorem dX11_power_1 : decode cX11_power 1 = .ok (.lstore_n 1, 1) ∧ 1 + 1 = 2 := ⟨by decide +kernel, rfl⟩
set_option maxRecDepth 20000 in
theorem dX11_power_2 : decode cX11_power 2 = .ok (.iconst 0, 1) ∧ 2 + 1 = 3 := ⟨by decide +kernel, rfl⟩
set_option maxRecDepth 20000 in
theorem dX11_power_3 : decode cX11_power 3 = .ok (.istore_n 3, 1) ∧ 3 + 1 = 4 := ⟨by decide +kernel, rfl⟩
set_option maxRecDepth 20000 in
theorem dX11_power_4 : decode cX11_power 4 = .ok (.iload_n 3, 1) ∧ 4 + 1 = 5 := ⟨by decide +kernel, rfl⟩
set_option maxRecDepth 20000 in
theorem dX11_power_5 : decode cX11_power 5 = .ok (.iload_n 0, 1) ∧ 5 + 1 = 6 := ⟨by decide +kernel, rfl⟩
set_option maxRecDepth 20000 in
theorem dX11_power_6 : decode cX11_power 6 = .ok (.if_icmp .ge 21, 3) ∧ 6 + 3 = 9 ∧ ((6 : Nat) : Int) + (21) = ((27 : Nat) : Int) := ⟨by decide +kernel, rfl, by decide⟩
set_option maxRecDepth 20000 in
theorem dX11_power_9 : decode cX11_power 9 = .ok (.iload_n 3, 1) ∧ 9 + 1 = 10 := ⟨by decide +kernel, rfl⟩
set_option maxRecDepth 20000 in
theorem dX11_power_10 : decode cX11_power 10 = .ok (.bipush 8, 2) ∧ 10 + 2 = 12 := ⟨by decide +kernel, rfl⟩
set_option maxRecDepth 20000 in
theorem dX11_power_12 : decode cX11_power 12 = .ok (.if_icmp .ge 15, 3) ∧ 12 + 3 = 15 ∧ ((12 : Nat) : Int) + (15) = ((27 : Nat) : Int) := ⟨by decide +kernel, rfl, by decide⟩
set_option maxRecDepth 20000 in
theorem dX11_power_15 : decode cX11_power 15 = .ok (.lload_n 1, 1) ∧ 15 + 1 = 16 := ⟨by decide +kernel, rfl⟩
set_option maxRecDepth 20000 in
theorem dX11_power_16 : decode cX11_power 16 = .ok (.ldc2_w 381, 3) ∧ 16 + 3 = 19 := ⟨by decide +kernel, rfl⟩
set_option maxRecDepth 20000 in
theorem dX11_power_19 : decode cX11_power 19 = .ok (.lmul, 1) ∧ 19 + 1 = 20 := ⟨by decide +kernel, rfl⟩
set_option maxRecDepth 20000 in
theorem dX11_power_20 : decode cX11_power 20 = .ok (.lstore_n 1, 1) ∧ 20 + 1 = 21 := ⟨by decide +kernel, rfl⟩
set_option maxRecDepth 20000 in
theorem dX11_power_21 : decode cX11_power 21 = .ok (.iinc 3 1, 3) ∧ 21 + 3 = 24 := ⟨by decide +kernel, rfl⟩
set_option maxRecDepth 20000 in
theorem dX11_power_24 : decode cX11_power 24 = .ok (.goto (-20), 3) ∧ ((24 : Nat) : Int) + (-20) = ((4 : Nat) : Int) := ⟨by decide +kernel, by decide⟩
set_option maxRecDepth 20000 in
theorem dX11_power_27 : decode cX11_power 27 = .ok (.lload_n 1, 1) ∧ 27 + 1 = 28 := ⟨by decide +kernel, rfl⟩
set_option maxRecDepth 20000 in
theorem dX11_power_28 : decode cX11_power 28 = .ok (.lreturn, 1) := by decide +kernel
set_option maxRecDepth 20000 in
theorem dX11_ways_0 : decode cX11_ways 0 = .ok (.iconst 1, 1) ∧ 0 + 1 = 1 := ⟨by decide +kernel, rfl⟩
set_option maxRecDepth 20000 in
theorem dX11_ways_1 : decode cX11_ways 1 = .ok (.istore_n 2, 1) ∧ 1 + 1 = 2 := ⟨by decide +kernel, rfl⟩
set_option maxRecDepth 20000 in
theorem dX11_ways_2 : decode cX11_ways 2 = .ok (.iconst 1, 1) ∧ 2 + 1 = 3 := ⟨by decide +kernel, rfl⟩
set_option maxRecDepth 20000 in
theorem dX11_ways_3 : decode cX11_ways 3 = .ok (.istore_n 3, 1) ∧ 3 + 1 = 4 := ⟨by decide +kernel, rfl⟩
set_option maxRecDepth 20000 in
theorem dX11_ways_4 : decode cX11_ways 4 = .ok (.iload_n 3, 1) ∧ 4 + 1 = 5 := ⟨by decide +kernel, rfl⟩
set_option maxRecDepth 20000 in
theorem dX11_ways_5 : decode cX11_ways 5 = .ok (.iload_n 1, 1) ∧ 5 + 1 = 6 := ⟨by decide +kernel, rfl⟩
set_option maxRecDepth 20000 in
theorem dX11_ways_6 : decode cX11_ways 6 = .ok (.if_icmp .gt 19, 3) ∧ 6 + 3 = 9 ∧ ((6 : Nat) : Int) + (19) = ((25 : Nat) : Int) := ⟨by decide +kernel, rfl, by decide⟩
set_option maxRecDepth 20000 in
theorem dX11_ways_9 : decode cX11_ways 9 = .ok (.iload_n 2, 1) ∧ 9 + 1 = 10 := ⟨by decide +kernel, rfl⟩
set_option maxRecDepth 20000 in
theorem dX11_ways_10 : decode cX11_ways 10 = .ok (.iload_n 0, 1) ∧ 10 + 1 = 11 := ⟨by decide +kernel, rfl⟩
set_option maxRecDepth 20000 in
theorem dX11_ways_11 : decode cX11_ways 11 = .ok (.iload_n 3, 1) ∧ 11 + 1 = 12 := ⟨by decide +kernel, rfl⟩
set_option maxRecDepth 20000 in
theorem dX11_ways_12 : decode cX11_ways 12 = .ok (.isub, 1) ∧ 12 + 1 = 13 := ⟨by decide +kernel, rfl⟩
set_option maxRecDepth 20000 in
theorem dX11_ways_13 : decode cX11_ways 13 = .ok (.iconst 1, 1) ∧ 13 + 1 = 14 := ⟨by decide +kernel, rfl⟩
set_option maxRecDepth 20000 in
theorem dX11_ways_14 : decode cX11_ways 14 = .ok (.iadd, 1) ∧ 14 + 1 = 15 := ⟨by decide +kernel, rfl⟩
set_option maxRecDepth 20000 in
theorem dX11_ways_15 : decode cX11_ways 15 = .ok (.imul, 1) ∧ 15 + 1 = 16 := ⟨by decide +kernel, rfl⟩
set_option maxRecDepth 20000 in
theorem dX11_ways_16 : decode cX11_ways 16 = .ok (.iload_n 3, 1) ∧ 16 + 1 = 17 := ⟨by decide +kernel, rfl⟩
set_option maxRecDepth 20000 in
theorem dX11_ways_17 : decode cX11_ways 17 = .ok (.idiv, 1) ∧ 17 + 1 = 18 := ⟨by decide +kernel, rfl⟩
set_option maxRecDepth 20000 in
theorem dX11_ways_18 : decode cX11_ways 18 = .ok (.istore_n 2, 1) ∧ 18 + 1 = 19 := ⟨by decide +kernel, rfl⟩
set_option maxRecDepth 20000 in
theorem dX11_ways_19 : decode cX11_ways 19 = .ok (.iinc 3 1, 3) ∧ 19 + 3 = 22 := ⟨by decide +kernel, rfl⟩
set_option maxRecDepth 20000 in
theorem dX11_ways_22 : decode cX11_ways 22 = .ok (.goto (-18), 3) ∧ ((22 : Nat) : Int) + (-18) = ((4 : Nat) : Int) := ⟨by decide +kernel, by decide⟩
set_option maxRecDepth 20000 in
theorem dX11_ways_25 : decode cX11_ways 25 = .ok (.iload_n 2, 1) ∧ 25 + 1 = 26 := ⟨by decide +kernel, rfl⟩
set_option maxRecDepth 20000 in
theorem dX11_ways_26 : decode cX11_ways 26 = .ok (.ireturn, 1) := by decide +kernel
set_option maxRecDepth 20000 in
theorem dJ6_numberOfLeadingZeros_0f7a4_0 : decode cJ6_numberOfLeadingZeros_0f7a4 0 = .ok (.iload_n 0, 1) ∧ 0 + 1 = 1 := ⟨by decide +kernel, rfl⟩
set_option maxRecDepth 20000 in
theorem dJ6_numberOfLeadingZeros_0f7a4_1 : decode cJ6_numberOfLeadingZeros_0f7a4 1 = .ok (.ifCond .gt 14, 3) ∧ 1 + 3 = 4 ∧ ((1 : Nat) : Int) + (14) = ((15 : Nat) : Int) := ⟨by decide +kernel, rfl, by decide⟩
set_option maxRecDepth 20000 in
theorem dJ6_numberOfLeadingZeros_0f7a4_4 : decode cJ6_numberOfLeadingZeros_0f7a4 4 = .ok (.iload_n 0, 1) ∧ 4 + 1 = 5 := ⟨by decide +kernel, rfl⟩
set_option maxRecDepth 20000 in
theorem dJ6_numberOfLeadingZeros_0f7a4_5 : decode cJ6_numberOfLeadingZeros_0f7a4 5 = .ok (.ifCond .ne 8, 3) ∧ 5 + 3 = 8 ∧ ((5 : Nat) : Int) + (8) = ((13 : Nat) : Int) := ⟨by decide +kernel, rfl, by decide⟩
set_option maxRecDepth 20000 in
theorem dJ6_numberOfLeadingZeros_0f7a4_8 : decode cJ6_numberOfLeadingZeros_0f7a4 8 = .ok (.bipush 32, 2) ∧ 8 + 2 = 10 := ⟨by decide +kernel, rfl⟩
set_option maxRecDepth 20000 in
theorem dJ6_numberOfLeadingZeros_0f7a4_10 : decode cJ6_numberOfLeadingZeros_0f7a4 10 = .ok (.goto 4, 3) ∧ ((10 : Nat) : Int) + (4) = ((14 : Nat) : Int) := ⟨by decide +kernel, by decide⟩
set_option maxRecDepth 20000 in
theorem dJ6_numberOfLeadingZeros_0f7a4_13 : decode cJ6_numberOfLeadingZeros_0f7a4 13 = .ok (.iconst 0, 1) ∧ 13 + 1 = 14 := ⟨by decide +kernel, rfl⟩
set_option maxRecDepth 20000 in
theorem dJ6_numberOfLeadingZeros_0f7a4_14 : decode cJ6_numberOfLeadingZeros_0f7a4 14 = .ok (.ireturn, 1) := by decide +kernel
set_option maxRecDepth 20000 in
theorem dJ6_numberOfLeadingZeros_0f7a4_15 : decode cJ6_numberOfLeadingZeros_0f7a4 15 = .ok (.bipush 31, 2) ∧ 15 + 2 = 17 := ⟨by decide +kernel, rfl⟩
set_option maxRecDepth 20000 in
theorem dJ6_numberOfLeadingZeros_0f7a4_17 : decode cJ6_numberOfLeadingZeros_0f7a4 17 = .ok (.istore_n 1, 1) ∧ 17 + 1 = 18 := ⟨by decide +kernel, rfl⟩
set_option maxRecDepth 20000 in
theorem dJ6_numberOfLeadingZeros_0f7a4_18 : decode cJ6_numberOfLeadingZeros_0f7a4 18 = .ok (.iload_n 0, 1) ∧ 18 + 1 = 19 := ⟨by decide +kernel, rfl⟩
set_option maxRecDepth 20000 in
theorem dJ6_numberOfLeadingZeros_0f7a4_19 : decode cJ6_numberOfLeadingZeros_0f7a4 19 = .ok (.ldc_w 264, 3) ∧ 19 + 3 = 22 := ⟨by decide +kernel, rfl⟩
set_option maxRecDepth 20000 in
theorem dJ6_numberOfLeadingZeros_0f7a4_22 : decode cJ6_numberOfLeadingZeros_0f7a4 22 = .ok (.if_icmp .lt 11, 3) ∧ 22 + 3 = 25 ∧ ((22 : Nat) : Int) + (11) = ((33 : Nat) : Int) := ⟨by decide +kernel, rfl, by decide⟩
set_option maxRecDepth 20000 in
theorem dJ6_numberOfLeadingZeros_0f7a4_25 : decode cJ6_numberOfLeadingZeros_0f7a4 25 = .ok (.iinc 1 (-16), 3) ∧ 25 + 3 = 28 := ⟨by decide +kernel, rfl⟩
set_option maxRecDepth 20000 in
theorem dJ6_numberOfLeadingZeros_0f7a4_28 : decode cJ6_numberOfLeadingZeros_0f7a4 28 = .ok (.iload_n 0, 1) ∧ 28 + 1 = 29 := ⟨by decide +kernel, rfl⟩
set_option maxRecDepth 20000 in
theorem dJ6_numberOfLeadingZeros_0f7a4_29 : decode cJ6_numberOfLeadingZeros_0f7a4 29 = .ok (.bipush 16, 2) ∧ 29 + 2 = 31 := ⟨by decide +kernel, rfl⟩
set_option maxRecDepth 20000 in
theorem dJ6_numberOfLeadingZeros_0f7a4_31 : decode cJ6_numberOfLeadingZeros_0f7a4 31 = .ok (.iushr, 1) ∧ 31 + 1 = 32 := ⟨by decide +kernel, rfl⟩
set_option maxRecDepth 20000 in
theorem dJ6_numberOfLeadingZeros_0f7a4_32 : decode cJ6_numberOfLeadingZeros_0f7a4 32 = .ok (.istore_n 0, 1) ∧ 32 + 1 = 33 := ⟨by decide +kernel, rfl⟩
set_option maxRecDepth 20000 in
theorem dJ6_numberOfLeadingZeros_0f7a4_33 : decode cJ6_numberOfLeadingZeros_0f7a4 33 = .ok (.iload_n 0, 1) ∧ 33 + 1 = 34 := ⟨by decide +kernel, rfl⟩
set_option maxRecDepth 20000 in
theorem dJ6_numberOfLeadingZeros_0f7a4_34 : decode cJ6_numberOfLeadingZeros_0f7a4 34 = .ok (.sipush 256, 3) ∧ 34 + 3 = 37 := ⟨by decide +kernel, rfl⟩
set_option maxRecDepth 20000 in
theorem dJ6_numberOfLeadingZeros_0f7a4_37 : decode cJ6_numberOfLeadingZeros_0f7a4 37 = .ok (.if_icmp .lt 11, 3) ∧ 37 + 3 = 40 ∧ ((37 : Nat) : Int) + (11) = ((48 : Nat) : Int) := ⟨by decide +kernel, rfl, by decide⟩
set_option maxRecDepth 20000 in
theorem dJ6_numberOfLeadingZeros_0f7a4_40 : decode cJ6_numberOfLeadingZeros_0f7a4 40 = .ok (.iinc 1 (-8), 3) ∧ 40 + 3 = 43 := ⟨by decide +kernel, rfl⟩
set_option maxRecDepth 20000 in
theorem dJ6_numberOfLeadingZeros_0f7a4_43 : decode cJ6_numberOfLeadingZeros_0f7a4 43 = .ok (.iload_n 0, 1) ∧ 43 + 1 = 44 := ⟨by decide +kernel, rfl⟩
set_option maxRecDepth 20000 in
theorem dJ6_numberOfLeadingZeros_0f7a4_44 : decode cJ6_numberOfLeadingZeros_0f7a4 44 = .ok (.bipush 8, 2) ∧ 44 + 2 = 46 := ⟨by decide +kernel, rfl⟩
set_option maxRecDepth 20000 in
theorem dJ6_numberOfLeadingZeros_0f7a4_46 : decode cJ6_numberOfLeadingZeros_0f7a4 46 = .ok (.iushr, 1) ∧ 46 + 1 = 47 := ⟨by decide +kernel, rfl⟩
set_option maxRecDepth 20000 in
theorem dJ6_numberOfLeadingZeros_0f7a4_47 : decode cJ6_numberOfLeadingZeros_0f7a4 47 = .ok (.istore_n 0, 1) ∧ 47 + 1 = 48 := ⟨by decide +kernel, rfl⟩
set_option maxRecDepth 20000 in
theorem dJ6_numberOfLeadingZeros_0f7a4_48 : decode cJ6_numberOfLeadingZeros_0f7a4 48 = .ok (.iload_n 0, 1) ∧ 48 + 1 = 49 := ⟨by decide +kernel, rfl⟩
set_option maxRecDepth 20000 in
theorem dJ6_numberOfLeadingZeros_0f7a4_49 : decode cJ6_numberOfLeadingZeros_0f7a4 49 = .ok (.bipush 16, 2) ∧ 49 + 2 = 51 := ⟨by decide +kernel, rfl⟩
set_option maxRecDepth 20000 in
theorem dJ6_numberOfLeadingZeros_0f7a4_51 : decode cJ6_numberOfLeadingZeros_0f7a4 51 = .ok (.if_icmp .lt 10, 3) ∧ 51 + 3 = 54 ∧ ((51 : Nat) : Int) + (10) = ((61 : Nat) : Int) := ⟨by decide +kernel, rfl, by decide⟩
set_option maxRecDepth 20000 in
theorem dJ6_numberOfLeadingZeros_0f7a4_54 : decode cJ6_numberOfLeadingZeros_0f7a4 54 = .ok (.iinc 1 (-4), 3) ∧ 54 + 3 = 57 := ⟨by decide +kernel, rfl⟩
set_option maxRecDepth 20000 in
theorem dJ6_numberOfLeadingZeros_0f7a4_57 : decode cJ6_numberOfLeadingZeros_0f7a4 57 = .ok (.iload_n 0, 1) ∧ 57 + 1 = 58 := ⟨by decide +kernel, rfl⟩
set_option maxRecDepth 20000 in
theorem dJ6_numberOfLeadingZeros_0f7a4_58 : decode cJ6_numberOfLeadingZeros_0f7a4 58 = .ok (.iconst 4, 1) ∧ 58 + 1 = 59 := ⟨by decide +kernel, rfl⟩
set_option maxRecDepth 20000 in
theorem dJ6_numberOfLeadingZeros_0f7a4_59 : decode cJ6_numberOfLeadingZeros_0f7a4 59 = .ok (.iushr, 1) ∧ 59 + 1 = 60 := ⟨by decide +kernel, rfl⟩
set_option maxRecDepth 20000 in
theorem dJ6_numberOfLeadingZeros_0f7a4_60 : decode cJ6_numberOfLeadingZeros_0f7a4 60 = .ok (.istore_n 0, 1) ∧ 60 + 1 = 61 := ⟨by decide +kernel, rfl⟩
set_option maxRecDepth 20000 in
theorem dJ6_numberOfLeadingZeros_0f7a4_61 : decode cJ6_numberOfLeadingZeros_0f7a4 61 = .ok (.iload_n 0, 1) ∧ 61 + 1 = 62 := ⟨by decide +kernel, rfl⟩
set_option maxRecDepth 20000 in
theorem dJ6_numberOfLeadingZeros_0f7a4_62 : decode cJ6_numberOfLeadingZeros_0f7a4 62 = .ok (.iconst 4, 1) ∧ 62 + 1 = 63 := ⟨by decide +kernel, rfl⟩
set_option maxRecDepth 20000 in
theorem dJ6_numberOfLeadingZeros_0f7a4_63 : decode cJ6_numberOfLeadingZeros_0f7a4 63 = .ok (.if_icmp .lt 10, 3) ∧ 63 + 3 = 66 ∧ ((63 : Nat) : Int) + (10) = ((73 : Nat) : Int) := ⟨by decide +kernel, rfl, by decide⟩
set_option maxRecDepth 20000 in
theorem dJ6_numberOfLeadingZeros_0f7a4_66 : decode cJ6_numberOfLeadingZeros_0f7a4 66 = .ok (.iinc 1 (-2), 3) ∧ 66 + 3 = 69 := ⟨by decide +kernel, rfl⟩
set_option maxRecDepth 20000 in
theorem dJ6_numberOfLeadingZeros_0f7a4_69 : decode cJ6_numberOfLeadingZeros_0f7a4 69 = .ok (.iload_n 0, 1) ∧ 69 + 1 = 70 := ⟨by decide +kernel, rfl⟩
set_option maxRecDepth 20000 in
theorem dJ6_numberOfLeadingZeros_0f7a4_70 : decode cJ6_numberOfLeadingZeros_0f7a4 70 = .ok (.iconst 2, 1) ∧ 70 + 1 = 71 := ⟨by decide +kernel, rfl⟩
set_option maxRecDepth 20000 in
theorem dJ6_numberOfLeadingZeros_0f7a4_71 : decode cJ6_numberOfLeadingZeros_0f7a4 71 = .ok (.iushr, 1) ∧ 71 + 1 = 72 := ⟨by decide +kernel, rfl⟩
set_option maxRecDepth 20000 in
theorem dJ6_numberOfLeadingZeros_0f7a4_72 : decode cJ6_numberOfLeadingZeros_0f7a4 72 = .ok (.istore_n 0, 1) ∧ 72 + 1 = 73 := ⟨by decide +kernel, rfl⟩
set_option maxRecDepth 20000 in
theorem dJ6_numberOfLeadingZeros_0f7a4_73 : decode cJ6_numberOfLeadingZeros_0f7a4 73 = .ok (.iload_n 1, 1) ∧ 73 + 1 = 74 := ⟨by decide +kernel, rfl⟩
set_option maxRecDepth 20000 in
theorem dJ6_numberOfLeadingZeros_0f7a4_74 : decode cJ6_numberOfLeadingZeros_0f7a4 74 = .ok (.iload_n 0, 1) ∧ 74 + 1 = 75 := ⟨by decide +kernel, rfl⟩
set_option maxRecDepth 20000 in
theorem dJ6_numberOfLeadingZeros_0f7a4_75 : decode cJ6_numberOfLeadingZeros_0f7a4 75 = .ok (.iconst 1, 1) ∧ 75 + 1 = 76 := ⟨by decide +kernel, rfl⟩
set_option maxRecDepth 20000 in
theorem dJ6_numberOfLeadingZeros_0f7a4_76 : decode cJ6_numberOfLeadingZeros_0f7a4 76 = .ok (.iushr, 1) ∧ 76 + 1 = 77 := ⟨by decide +kernel, rfl⟩
set_option maxRecDepth 20000 in
theorem dJ6_numberOfLeadingZeros_0f7a4_77 : decode cJ6_numberOfLeadingZeros_0f7a4 77 = .ok (.isub, 1) ∧ 77 + 1 = 78 := ⟨by decide +kernel, rfl⟩
set_option maxRecDepth 20000 in
theorem dJ6_numberOfLeadingZeros_0f7a4_78 : decode cJ6_numberOfLeadingZeros_0f7a4 78 = .ok (.ireturn, 1) := by decide +kernel
set_option maxRecDepth 20000 in
theorem dJ6_numberOfTrailingZeros_0f7a4_0 : decode cJ6_numberOfTrailingZeros_0f7a4 0 = .ok (.iload_n 0, 1) ∧ 0 + 1 = 1 := ⟨by decide +kernel, rfl⟩
set_option maxRecDepth 20000 in
theorem dJ6_numberOfTrailingZeros_0f7a4_1 : decode cJ6_numberOfTrailingZeros_0f7a4 1 = .ok (.iconst (-1), 1) ∧ 1 + 1 = 2 := ⟨by decide +kernel, rfl⟩
set_option maxRecDepth 20000 in
theorem dJ6_numberOfTrailingZeros_0f7a4_2 : decode cJ6_numberOfTrailingZeros_0f7a4 2 = .ok (.ixor, 1) ∧ 2 + 1 = 3 := ⟨by decide +kernel, rfl⟩
set_option maxRecDepth 20000 in
theorem dJ6_numberOfTrailingZeros_0f7a4_3 : decode cJ6_numberOfTrailingZeros_0f7a4 3 = .ok (.iload_n 0, 1) ∧ 3 + 1 = 4 := ⟨by decide +kernel, rfl⟩
set_option maxRecDepth 20000 in
theorem dJ6_numberOfTrailingZeros_0f7a4_4 : decode cJ6_numberOfTrailingZeros_0f7a4 4 = .ok (.iconst 1, 1) ∧ 4 + 1 = 5 := ⟨by decide +kernel, rfl⟩
set_option maxRecDepth 20000 in
theorem dJ6_numberOfTrailingZeros_0f7a4_5 : decode cJ6_numberOfTrailingZeros_0f7a4 5 = .ok (.isub, 1) ∧ 5 + 1 = 6 := ⟨by decide +kernel, rfl⟩
set_option maxRecDepth 20000 in
theorem dJ6_numberOfTrailingZeros_0f7a4_6 : decode cJ6_numberOfTrailingZeros_0f7a4 6 = .ok (.iand, 1) ∧ 6 + 1 = 7 := ⟨by decide +kernel, rfl⟩
set_option maxRecDepth 20000 in
theorem dJ6_numberOfTrailingZeros_0f7a4_7 : decode cJ6_numberOfTrailingZeros_0f7a4 7 = .ok (.istore_n 0, 1) ∧ 7 + 1 = 8 := ⟨by decide +kernel, rfl⟩
set_option maxRecDepth 20000 in
theorem dJ6_numberOfTrailingZeros_0f7a4_8 : decode cJ6_numberOfTrailingZeros_0f7a4 8 = .ok (.iload_n 0, 1) ∧ 8 + 1 = 9 := ⟨by decide +kernel, rfl⟩
set_option maxRecDepth 20000 in
theorem dJ6_numberOfTrailingZeros_0f7a4_9 : decode cJ6_numberOfTrailingZeros_0f7a4 9 = .ok (.ifCond .gt 8, 3) ∧ 9 + 3 = 12 ∧ ((9 : Nat) : Int) + (8) = ((17 : Nat) : Int) := ⟨by decide +kernel, rfl, by decide⟩
set_option maxRecDepth 20000 in
theorem dJ6_numberOfTrailingZeros_0f7a4_12 : decode cJ6_numberOfTrailingZeros_0f7a4 12 = .ok (.iload_n 0, 1) ∧ 12 + 1 = 13 := ⟨by decide +kernel, rfl⟩
set_option maxRecDepth 20000 in
theorem dJ6_numberOfTrailingZeros_0f7a4_13 : decode cJ6_numberOfTrailingZeros_0f7a4 13 = .ok (.bipush 32, 2) ∧ 13 + 2 = 15 := ⟨by decide +kernel, rfl⟩
set_option maxRecDepth 20000 in
theorem dJ6_numberOfTrailingZeros_0f7a4_15 : decode cJ6_numberOfTrailingZeros_0f7a4 15 = .ok (.iand, 1) ∧ 15 + 1 = 16 := ⟨by decide +kernel, rfl⟩
set_option maxRecDepth 20000 in
theorem dJ6_numberOfTrailingZeros_0f7a4_16 : decode cJ6_numberOfTrailingZeros_0f7a4 16 = .ok (.ireturn, 1) := by decide +kernel
set_option maxRecDepth 20000 in
theorem dJ6_numberOfTrailingZeros_0f7a4_17 : decode cJ6_numberOfTrailingZeros_0f7a4 17 = .ok (.iconst 1, 1) ∧ 17 + 1 = 18 := ⟨by decide +kernel, rfl⟩
set_option maxRecDepth 20000 in
theorem dJ6_numberOfTrailingZeros_0f7a4_18 : decode cJ6_numberOfTrailingZeros_0f7a4 18 = .ok (.istore_n 1, 1) ∧ 18 + 1 = 19 := ⟨by decide +kernel, rfl⟩
set_option maxRecDepth 20000 in
theorem dJ6_numberOfTrailingZeros_0f7a4_19 : decode cJ6_numberOfTrailingZeros_0f7a4 19 = .ok (.iload_n 0, 1) ∧ 19 + 1 = 20 := ⟨by decide +kernel, rfl⟩
set_option maxRecDepth 20000 in
theorem dJ6_numberOfTrailingZeros_0f7a4_20 : decode cJ6_numberOfTrailingZeros_0f7a4 20 = .ok (.ldc_w 264, 3) ∧ 20 + 3 = 23 := ⟨by decide +kernel, rfl⟩
set_option maxRecDepth 20000 in
theorem dJ6_numberOfTrailingZeros_0f7a4_23 : decode cJ6_numberOfTrailingZeros_0f7a4 23 = .ok (.if_icmp .le 11, 3) ∧ 23 + 3 = 26 ∧ ((23 : Nat) : Int) + (11) = ((34 : Nat) : Int) := ⟨by decide +kernel, rfl, by decide⟩
set_option maxRecDepth 20000 in
theorem dJ6_numberOfTrailingZeros_0f7a4_26 : decode cJ6_numberOfTrailingZeros_0f7a4 26 = .ok (.iinc 1 16, 3) ∧ 26 + 3 = 29 := ⟨by decide +kernel, rfl⟩
set_option maxRecDepth 20000 in
theorem dJ6_numberOfTrailingZeros_0f7a4_29 : decode cJ6_numberOfTrailingZeros_0f7a4 29 = .ok (.iload_n 0, 1) ∧ 29 + 1 = 30 := ⟨by decide +kernel, rfl⟩
set_option maxRecDepth 20000 in
theorem dJ6_numberOfTrailingZeros_0f7a4_30 : decode cJ6_numberOfTrailingZeros_0f7a4 30 = .ok (.bipush 16, 2) ∧ 30 + 2 = 32 := ⟨by decide +kernel, rfl⟩
set_option maxRecDepth 20000 in
theorem dJ6_numberOfTrailingZeros_0f7a4_32 : decode cJ6_numberOfTrailingZeros_0f7a4 32 = .ok (.iushr, 1) ∧ 32 + 1 = 33 := ⟨by decide +kernel, rfl⟩
set_option maxRecDepth 20000 in
theorem dJ6_numberOfTrailingZeros_0f7a4_33 : decode cJ6_numberOfTrailingZeros_0f7a4 33 = .ok (.istore_n 0, 1) ∧ 33 + 1 = 34 := ⟨by decide +kernel, rfl⟩
set_option maxRecDepth 20000 in
theorem dJ6_numberOfTrailingZeros_0f7a4_34 : decode cJ6_numberOfTrailingZeros_0f7a4 34 = .ok (.iload_n 0, 1) ∧ 34 + 1 = 35 := ⟨by decide +kernel, rfl⟩
set_option maxRecDepth 20000 in
theorem dJ6_numberOfTrailingZeros_0f7a4_35 : decode cJ6_numberOfTrailingZeros_0f7a4 35 = .ok (.sipush 256, 3) ∧ 35 + 3 = 38 := ⟨by decide +kernel, rfl⟩
set_option maxRecDepth 20000 in
theorem dJ6_numberOfTrailingZeros_0f7a4_38 : decode cJ6_numberOfTrailingZeros_0f7a4 38 = .ok (.if_icmp .le 11, 3) ∧ 38 + 3 = 41 ∧ ((38 : Nat) : Int) + (11) = ((49 : Nat) : Int) := ⟨by decide +kernel, rfl, by decide⟩
set_option maxRecDepth 20000 in
theorem dJ6_numberOfTrailingZeros_0f7a4_41 : decode cJ6_numberOfTrailingZeros_0f7a4 41 = .ok (.iinc 1 8, 3) ∧ 41 + 3 = 44 := ⟨by decide +kernel, rfl⟩
set_option maxRecDepth 20000 in
theorem dJ6_numberOfTrailingZeros_0f7a4_44 : decode cJ6_numberOfTrailingZeros_0f7a4 44 = .ok (.iload_n 0, 1) ∧ 44 + 1 = 45 := ⟨by decide +kernel, rfl⟩
set_option maxRecDepth 20000 in
theorem dJ6_numberOfTrailingZeros_0f7a4_45 : decode cJ6_numberOfTrailingZeros_0f7a4 45 = .ok (.bipush 8, 2) ∧ 45 + 2 = 47 := ⟨by decide +kernel, rfl⟩
set_option maxRecDepth 20000 in
theorem dJ6_numberOfTrailingZeros_0f7a4_47 : decode cJ6_numberOfTrailingZeros_0f7a4 47 = .ok (.iushr, 1) ∧ 47 + 1 = 48 := ⟨by decide +kernel, rfl⟩
set_option maxRecDepth 20000 in
theorem dJ6_numberOfTrailingZeros_0f7a4_48 : decode cJ6_numberOfTrailingZeros_0f7a4 48 = .ok (.istore_n 0, 1) ∧ 48 + 1 = 49 := ⟨by decide +kernel, rfl⟩
set_option maxRecDepth 20000 in
theorem dJ6_numberOfTrailingZeros_0f7a4_49 : decode cJ6_numberOfTrailingZeros_0f7a4 49 = .ok (.iload_n 0, 1) ∧ 49 + 1 = 50 := ⟨by decide +kernel, rfl⟩
set_option maxRecDepth 20000 in
theorem dJ6_numberOfTrailingZeros_0f7a4_50 : decode cJ6_numberOfTrailingZeros_0f7a4 50 = .ok (.bipush 16, 2) ∧ 50 + 2 = 52 := ⟨by decide +kernel, rfl⟩
set_option maxRecDepth 20000 in
theorem dJ6_numberOfTrailingZeros_0f7a4_52 : decode cJ6_numberOfTrailingZeros_0f7a4 52 = .ok (.if_icmp .le 10, 3) ∧ 52 + 3 = 55 ∧ ((52 : Nat) : Int) + (10) = ((62 : Nat) : Int) := ⟨by decide +kernel, rfl, by decide⟩
set_option maxRecDepth 20000 in
theorem dJ6_numberOfTrailingZeros_0f7a4_55 : decode cJ6_numberOfTrailingZeros_0f7a4 55 = .ok (.iinc 1 4, 3) ∧ 55 + 3 = 58 := ⟨by decide +kernel, rfl⟩
set_option maxRecDepth 20000 in
theorem dJ6_numberOfTrailingZeros_0f7a4_58 : decode cJ6_numberOfTrailingZeros_0f7a4 58 = .ok (.iload_n 0, 1) ∧ 58 + 1 = 59 := ⟨by decide +kernel, rfl⟩
set_option maxRecDepth 20000 in
theorem dJ6_numberOfTrailingZeros_0f7a4_59 : decode cJ6_numberOfTrailingZeros_0f7a4 59 = .ok (.iconst 4, 1) ∧ 59 + 1 = 60 := ⟨by decide +kernel, rfl⟩
set_option maxRecDepth 20000 in
theorem dJ6_numberOfTrailingZeros_0f7a4_60 : decode cJ6_numberOfTrailingZeros_0f7a4 60 = .ok (.iushr, 1) ∧ 60 + 1 = 61 := ⟨by decide +kernel, rfl⟩
set_option maxRecDepth 20000 in
theorem dJ6_numberOfTrailingZeros_0f7a4_61 : decode cJ6_numberOfTrailingZeros_0f7a4 61 = .ok (.istore_n 0, 1) ∧ 61 + 1 = 62 := ⟨by decide +kernel, rfl⟩
set_option maxRecDepth 20000 in
theorem dJ6_numberOfTrailingZeros_0f7a4_62 : decode cJ6_numberOfTrailingZeros_0f7a4 62 = .ok (.iload_n 0, 1) ∧ 62 + 1 = 63 := ⟨by decide +kernel, rfl⟩
set_option maxRecDepth 20000 in
theorem dJ6_numberOfTrailingZeros_0f7a4_63 : decode cJ6_numberOfTrailingZeros_0f7a4 63 = .ok (.iconst 4, 1) ∧ 63 + 1 = 64 := ⟨by decide +kernel, rfl⟩
set_option maxRecDepth 20000 in
theorem dJ6_numberOfTrailingZeros_0f7a4_64 : decode cJ6_numberOfTrailingZeros_0f7a4 64 = .ok (.if_icmp .le 10, 3) ∧ 64 + 3 = 67 ∧ ((64 : Nat) : Int) + (10) = ((74 : Nat) : Int) := ⟨by decide +kernel, rfl, by decide⟩
set_option maxRecDepth 20000 in
theorem dJ6_numberOfTrailingZeros_0f7a4_67 : decode cJ6_numberOfTrailingZeros_0f7a4 67 = .ok (.iinc 1 2, 3) ∧ 67 + 3 = 70 := ⟨by decide +kernel, rfl⟩
set_option maxRecDepth 20000 in
theorem dJ6_numberOfTrailingZeros_0f7a4_70 : decode cJ6_numberOfTrailingZeros_0f7a4 70 = .ok (.iload_n 0, 1) ∧ 70 + 1 = 71 := ⟨by decide +kernel, rfl⟩
set_option maxRecDepth 20000 in
theorem dJ6_numberOfTrailingZeros_0f7a4_71 : decode cJ6_numberOfTrailingZeros_0f7a4 71 = .ok (.iconst 2, 1) ∧ 71 + 1 = 72 := ⟨by decide +kernel, rfl⟩
set_option maxRecDepth 20000 in
theorem dJ6_numberOfTrailingZeros_0f7a4_72 : decode cJ6_numberOfTrailingZeros_0f7a4 72 = .ok (.iushr, 1) ∧ 72 + 1 = 73 := ⟨by decide +kernel, rfl⟩
set_option maxRecDepth 20000 in
theorem dJ6_numberOfTrailingZeros_0f7a4_73 : decode cJ6_numberOfTrailingZeros_0f7a4 73 = .ok (.istore_n 0, 1) ∧ 73 + 1 = 74 := ⟨by decide +kernel, rfl⟩
set_option maxRecDepth 20000 in
theorem dJ6_numberOfTrailingZeros_0f7a4_74 : decode cJ6_numberOfTrailingZeros_0f7a4 74 = .ok (.iload_n 1, 1) ∧ 74 + 1 = 75 := ⟨by decide +kernel, rfl⟩
set_option maxRecDepth 20000 in
theorem dJ6_numberOfTrailingZeros_0f7a4_75 : decode cJ6_numberOfTrailingZeros_0f7a4 75 = .ok (.iload_n 0, 1) ∧ 75 + 1 = 76 := ⟨by decide +kernel, rfl⟩
set_option maxRecDepth 20000 in
theorem dJ6_numberOfTrailingZeros_0f7a4_76 : decode cJ6_numberOfTrailingZeros_0f7a4 76 = .ok (.iconst 1, 1) ∧ 76 + 1 = 77 := ⟨by decide +kernel, rfl⟩
set_option maxRecDepth 20000 in
theorem dJ6_numberOfTrailingZeros_0f7a4_77 : decode cJ6_numberOfTrailingZeros_0f7a4 77 = .ok (.iushr, 1) ∧ 77 + 1 = 78 := ⟨by decide +kernel, rfl⟩
set_option maxRecDepth 20000 in
theorem dJ6_numberOfTrailingZeros_0f7a4_78 : decode cJ6_numberOfTrailingZeros_0f7a4 78 = .ok (.iadd, 1) ∧ 78 + 1 = 79 := ⟨by decide +kernel, rfl⟩
set_option maxRecDepth 20000 in
theorem dJ6_numberOfTrailingZeros_0f7a4_79 : decode cJ6_numberOfTrailingZeros_0f7a4 79 = .ok (.ireturn, 1) := by decide +kernel
set_option maxRecDepth 20000 in
theorem dJ6_bitCount_0f7a4_0 : decode cJ6_bitCount_0f7a4 0 = .ok (.iload_n 0, 1) ∧ 0 + 1 = 1 := ⟨by decide +kernel, rfl⟩
set_option maxRecDepth 20000 in
theorem dJ6_bitCount_0f7a4_1 : decode cJ6_bitCount_0f7a4 1 = .ok (.iload_n 0, 1) ∧ 1 + 1 = 2 := ⟨by decide +kernel, rfl⟩
set_option maxRecDepth 20000 in
theorem dJ6_bitCount_0f7a4_2 : decode cJ6_bitCount_0f7a4 2 = .ok (.iconst 1, 1) ∧ 2 + 1 = 3 := ⟨by decide +kernel, rfl⟩
set_option maxRecDepth 20000 in
theorem dJ6_bitCount_0f7a4_3 : decode cJ6_bitCount_0f7a4 3 = .ok (.iushr, 1) ∧ 3 + 1 = 4 := ⟨by decide +kernel, rfl⟩
set_option maxRecDepth 20000 in
theorem dJ6_bitCount_0f7a4_4 : decode cJ6_bitCount_0f7a4 4 = .ok (.ldc_w 265, 3) ∧ 4 + 3 = 7 := ⟨by decide +kernel, rfl⟩
set_option maxRecDepth 20000 in
theorem dJ6_bitCount_0f7a4_7 : decode cJ6_bitCount_0f7a4 7 = .ok (.iand, 1) ∧ 7 + 1 = 8 := ⟨by decide +kernel, rfl⟩
set_option maxRecDepth 20000 in
theorem dJ6_bitCount_0f7a4_8 : decode cJ6_bitCount_0f7a4 8 = .ok (.isub, 1) ∧ 8 + 1 = 9 := ⟨by decide +kernel, rfl⟩
set_option maxRecDepth 20000 in
theorem dJ6_bitCount_0f7a4_9 : decode cJ6_bitCount_0f7a4 9 = .ok (.istore_n 0, 1) ∧ 9 + 1 = 10 := ⟨by decide +kernel, rfl⟩
set_option maxRecDepth 20000 in
theorem dJ6_bitCount_0f7a4_10 : decode cJ6_bitCount_0f7a4 10 = .ok (.iload_n 0, 1) ∧ 10 + 1 = 11 := ⟨by decide +kernel, rfl⟩
set_option maxRecDepth 20000 in
theorem dJ6_bitCount_0f7a4_11 : decode cJ6_bitCount_0f7a4 11 = .ok (.ldc_w 266, 3) ∧ 11 + 3 = 14 := ⟨by decide +kernel, rfl⟩
set_option maxRecDepth 20000 in
theorem dJ6_bitCount_0f7a4_14 : decode cJ6_bitCount_0f7a4 14 = .ok (.iand, 1) ∧ 14 + 1 = 15 := ⟨by decide +kernel, rfl⟩
set_option maxRecDepth 20000 in
theorem dJ6_bitCount_0f7a4_15 : decode cJ6_bitCount_0f7a4 15 = .ok (.iload_n 0, 1) ∧ 15 + 1 = 16 := ⟨by decide +kernel, rfl⟩
set_option maxRecDepth 20000 in
theorem dJ6_bitCount_0f7a4_16 : decode cJ6_bitCount_0f7a4 16 = .ok (.iconst 2, 1) ∧ 16 + 1 = 17 := ⟨by decide +kernel, rfl⟩
set_option maxRecDepth 20000 in
theorem dJ6_bitCount_0f7a4_17 : decode cJ6_bitCount_0f7a4 17 = .ok (.iushr, 1) ∧ 17 + 1 = 18 := ⟨by decide +kernel, rfl⟩
set_option maxRecDepth 20000 in
theorem dJ6_bitCount_0f7a4_18 : decode cJ6_bitCount_0f7a4 18 = .ok (.ldc_w 266, 3) ∧ 18 + 3 = 21 := ⟨by decide +kernel, rfl⟩
set_option maxRecDepth 20000 in
theorem dJ6_bitCount_0f7a4_21 : decode cJ6_bitCount_0f7a4 21 = .ok (.iand, 1) ∧ 21 + 1 = 22 := ⟨by decide +kernel, rfl⟩
set_option maxRecDepth 20000 in
theorem dJ6_bitCount_0f7a4_22 : decode cJ6_bitCount_0f7a4 22 = .ok (.iadd, 1) ∧ 22 + 1 = 23 := ⟨by decide +kernel, rfl⟩
set_option maxRecDepth 20000 in
theorem dJ6_bitCount_0f7a4_23 : decode cJ6_bitCount_0f7a4 23 = .ok (.istore_n 0, 1) ∧ 23 + 1 = 24 := ⟨by decide +kernel, rfl⟩
set_option maxRecDepth 20000 in
theorem dJ6_bitCount_0f7a4_24 : decode cJ6_bitCount_0f7a4 24 = .ok (.iload_n 0, 1) ∧ 24 + 1 = 25 := ⟨by decide +kernel, rfl⟩
set_option maxRecDepth 20000 in
theorem dJ6_bitCount_0f7a4_25 : decode cJ6_bitCount_0f7a4 25 = .ok (.iload_n 0, 1) ∧ 25 + 1 = 26 := ⟨by decide +kernel, rfl⟩
set_option maxRecDepth 20000 in
theorem dJ6_bitCount_0f7a4_26 : decode cJ6_bitCount_0f7a4 26 = .ok (.iconst 4, 1) ∧ 26 + 1 = 27 := ⟨by decide +kernel, rfl⟩
set_option maxRecDepth 20000 in
theorem dJ6_bitCount_0f7a4_27 : decode cJ6_bitCount_0f7a4 27 = .ok (.iushr, 1) ∧ 27 + 1 = 28 := ⟨by decide +kernel, rfl⟩
set_option maxRecDepth 20000 in
theorem dJ6_bitCount_0f7a4_28 : decode cJ6_bitCount_0f7a4 28 = .ok (.iadd, 1) ∧ 28 + 1 = 29 := ⟨by decide +kernel, rfl⟩
set_option maxRecDepth 20000 in
theorem dJ6_bitCount_0f7a4_29 : decode cJ6_bitCount_0f7a4 29 = .ok (.ldc_w 267, 3) ∧ 29 + 3 = 32 := ⟨by decide +kernel, rfl⟩
set_option maxRecDepth 20000 in
theorem dJ6_bitCount_0f7a4_32 : decode cJ6_bitCount_0f7a4 32 = .ok (.iand, 1) ∧ 32 + 1 = 33 := ⟨by decide +kernel, rfl⟩
set_option maxRecDepth 20000 in
theorem dJ6_bitCount_0f7a4_33 : decode cJ6_bitCount_0f7a4 33 = .ok (.istore_n 0, 1) ∧ 33 + 1 = 34 := ⟨by decide +kernel, rfl⟩
set_option maxRecDepth 20000 in
theorem dJ6_bitCount_0f7a4_34 : decode cJ6_bitCount_0f7a4 34 = .ok (.iload_n 0, 1) ∧ 34 + 1 = 35 := ⟨by decide +kernel, rfl⟩
set_option maxRecDepth 20000 in
theorem dJ6_bitCount_0f7a4_35 : decode cJ6_bitCount_0f7a4 35 = .ok (.iload_n 0, 1) ∧ 35 + 1 = 36 := ⟨by decide +kernel, rfl⟩
set_option maxRecDepth 20000 in
theorem dJ6_bitCount_0f7a4_36 : decode cJ6_bitCount_0f7a4 36 = .ok (.bipush 8, 2) ∧ 36 + 2 = 38 := ⟨by decide +kernel, rfl⟩
set_option maxRecDepth 20000 in
theorem dJ6_bitCount_0f7a4_38 : decode cJ6_bitCount_0f7a4 38 = .ok (.iushr, 1) ∧ 38 + 1 = 39 := ⟨by decide +kernel, rfl⟩
set_option maxRecDepth 20000 in
theorem dJ6_bitCount_0f7a4_39 : decode cJ6_bitCount_0f7a4 39 = .ok (.iadd, 1) ∧ 39 + 1 = 40 := ⟨by decide +kernel, rfl⟩
set_option maxRecDepth 20000 in
theorem dJ6_bitCount_0f7a4_40 : decode cJ6_bitCount_0f7a4 40 = .ok (.istore_n 0, 1) ∧ 40 + 1 = 41 := ⟨by decide +kernel, rfl⟩
set_option maxRecDepth 20000 in
theorem dJ6_bitCount_0f7a4_41 : decode cJ6_bitCount_0f7a4 41 = .ok (.iload_n 0, 1) ∧ 41 + 1 = 42 := ⟨by decide +kernel, rfl⟩
set_option maxRecDepth 20000 in
theorem dJ6_bitCount_0f7a4_42 : decode cJ6_bitCount_0f7a4 42 = .ok (.iload_n 0, 1) ∧ 42 + 1 = 43 := ⟨by decide +kernel, rfl⟩
set_option maxRecDepth 20000 in
theorem dJ6_bitCount_0f7a4_43 : decode cJ6_bitCount_0f7a4 43 = .ok (.bipush 16, 2) ∧ 43 + 2 = 45 := ⟨by decide +kernel, rfl⟩
set_option maxRecDepth 20000 in
theorem dJ6_bitCount_0f7a4_45 : decode cJ6_bitCount_0f7a4 45 = .ok (.iushr, 1) ∧ 45 + 1 = 46 := ⟨by decide +kernel, rfl⟩
set_option maxRecDepth 20000 in
theorem dJ6_bitCount_0f7a4_46 : decode cJ6_bitCount_0f7a4 46 = .ok (.iadd, 1) ∧ 46 + 1 = 47 := ⟨by decide +kernel, rfl⟩
set_option maxRecDepth 20000 in
theorem dJ6_bitCount_0f7a4_47 : decode cJ6_bitCount_0f7a4 47 = .ok (.istore_n 0, 1) ∧ 47 + 1 = 48 := ⟨by decide +kernel, rfl⟩
set_option maxRecDepth 20000 in
theorem dJ6_bitCount_0f7a4_48 : decode cJ6_bitCount_0f7a4 48 = .ok (.iload_n 0, 1) ∧ 48 + 1 = 49 := ⟨by decide +kernel, rfl⟩
set_option maxRecDepth 20000 in
theorem dJ6_bitCount_0f7a4_49 : decode cJ6_bitCount_0f7a4 49 = .ok (.bipush 63, 2) ∧ 49 + 2 = 51 := ⟨by decide +kernel, rfl⟩
set_option maxRecDepth 20000 in
theorem dJ6_bitCount_0f7a4_51 : decode cJ6_bitCount_0f7a4 51 = .ok (.iand, 1) ∧ 51 + 1 = 52 := ⟨by decide +kernel, rfl⟩
set_option maxRecDepth 20000 in
theorem dJ6_bitCount_0f7a4_52 : decode cJ6_bitCount_0f7a4 52 = .ok (.ireturn, 1) := by decide +kernel
set_option maxRecDepth 20000 in
theorem dJ9_abs_067f4_0 : decode cJ9_abs_067f4 0 = .ok (.lload_n 0, 1) ∧ 0 + 1 = 1 := ⟨by decide +kernel, rfl⟩
set_option maxRecDepth 20000 in
theorem dJ9_abs_067f4_1 : decode cJ9_abs_067f4 1 = .ok (.lconst 0, 1) ∧ 1 + 1 = 2 := ⟨by decide +kernel, rfl⟩
set_option maxRecDepth 20000 in
theorem dJ9_abs_067f4_2 : decode cJ9_abs_067f4 2 = .ok (.lcmp, 1) ∧ 2 + 1 = 3 := ⟨by decide +kernel, rfl⟩
set_option maxRecDepth 20000 in
theorem dJ9_abs_067f4_3 : decode cJ9_abs_067f4 3 = .ok (.ifCond .ge 8, 3) ∧ 3 + 3 = 6 ∧ ((3 : Nat) : Int) + (8) = ((11 : Nat) : Int) := ⟨by decide +kernel, rfl, by decide⟩
set_option maxRecDepth 20000 in
theorem dJ9_abs_067f4_6 : decode cJ9_abs_067f4 6 = .ok (.lload_n 0, 1) ∧ 6 + 1 = 7 := ⟨by decide +kernel, rfl⟩
set_option maxRecDepth 20000 in
theorem dJ9_abs_067f4_7 : decode cJ9_abs_067f4 7 = .ok (.lneg, 1) ∧ 7 + 1 = 8 := ⟨by decide +kernel, rfl⟩
set_option maxRecDepth 20000 in
theorem dJ9_abs_067f4_8 : decode cJ9_abs_067f4 8 = .ok (.goto 4, 3) ∧ ((8 : Nat) : Int) + (4) = ((12 : Nat) : Int) := ⟨by decide +kernel, by decide⟩
set_option maxRecDepth 20000 in
theorem dJ9_abs_067f4_11 : decode cJ9_abs_067f4 11 = .ok (.lload_n 0, 1) ∧ 11 + 1 = 12 := ⟨by decide +kernel, rfl⟩
set_option maxRecDepth 20000 in
theorem dJ9_abs_067f4_12 : decode cJ9_abs_067f4 12 = .ok (.lreturn, 1) := by decide +kernel
set_option maxRecDepth 20000 in
theorem dJ9_max_7cf53_0 : decode cJ9_max_7cf53 0 = .ok (.iload_n 0, 1) ∧ 0 + 1 = 1 := ⟨by decide +kernel, rfl⟩
set_option maxRecDepth 20000 in
theorem dJ9_max_7cf53_1 : decode cJ9_max_7cf53 1 = .ok (.iload_n 1, 1) ∧ 1 + 1 = 2 := ⟨by decide +kernel, rfl⟩
set_option maxRecDepth 20000 in
theorem dJ9_max_7cf53_2 : decode cJ9_max_7cf53 2 = .ok (.if_icmp .lt 7, 3) ∧ 2 + 3 = 5 ∧ ((2 : Nat) : Int) + (7) = ((9 : Nat) : Int) := ⟨by decide +kernel, rfl, by decide⟩
set_option maxRecDepth 20000 in
theorem dJ9_max_7cf53_5 : decode cJ9_max_7cf53 5 = .ok (.iload_n 0, 1) ∧ 5 + 1 = 6 := ⟨by decide +kernel, rfl⟩
set_option maxRecDepth 20000 in
theorem dJ9_max_7cf53_6 : decode cJ9_max_7cf53 6 = .ok (.goto 4, 3) ∧ ((6 : Nat) : Int) + (4) = ((10 : Nat) : Int) := ⟨by decide +kernel, by decide⟩
set_option maxRecDepth 20000 in
theorem dJ9_max_7cf53_9 : decode cJ9_max_7cf53 9 = .ok (.iload_n 1, 1) ∧ 9 + 1 = 10 := ⟨by decide +kernel, rfl⟩
set_option maxRecDepth 20000 in
theorem dJ9_max_7cf53_10 : decode cJ9_max_7cf53 10 = .ok (.ireturn, 1) := by decide +kernel
set_option maxRecDepth 20000 in
theorem dJ9_max_f86c9_0 : decode cJ9_max_f86c9 0 = .ok (.lload_n 0, 1) ∧ 0 + 1 = 1 := ⟨by decide +kernel, rfl⟩
set_option maxRecDepth 20000 in
theorem dJ9_max_f86c9_1 : decode cJ9_max_f86c9 1 = .ok (.lload_n 2, 1) ∧ 1 + 1 = 2 := ⟨by decide +kernel, rfl⟩
set_option maxRecDepth 20000 in
theorem dJ9_max_f86c9_2 : decode cJ9_max_f86c9 2 = .ok (.lcmp, 1) ∧ 2 + 1 = 3 := ⟨by decide +kernel, rfl⟩
set_option maxRecDepth 20000 in
theorem dJ9_max_f86c9_3 : decode cJ9_max_f86c9 3 = .ok (.ifCond .lt 7, 3) ∧ 3 + 3 = 6 ∧ ((3 : Nat) : Int) + (7) = ((10 : Nat) : Int) := ⟨by decide +kernel, rfl, by decide⟩
set_option maxRecDepth 20000 in
theorem dJ9_max_f86c9_6 : decode cJ9_max_f86c9 6 = .ok (.lload_n 0, 1) ∧ 6 + 1 = 7 := ⟨by decide +kernel, rfl⟩
set_option maxRecDepth 20000 in
theorem dJ9_max_f86c9_7 : decode cJ9_max_f86c9 7 = .ok (.goto 4, 3) ∧ ((7 : Nat) : Int) + (4) = ((11 : Nat) : Int) := ⟨by decide +kernel, by decide⟩
set_option maxRecDepth 20000 in
theorem dJ9_max_f86c9_10 : decode cJ9_max_f86c9 10 = .ok (.lload_n 2, 1) ∧ 10 + 1 = 11 := ⟨by decide +kernel, rfl⟩
set_option maxRecDepth 20000 in
theorem dJ9_max_f86c9_11 : decode cJ9_max_f86c9 11 = .ok (.lreturn, 1) := by decide +kernel
set_option maxRecDepth 20000 in
theorem dJ9_min_7cf53_0 : decode cJ9_min_7cf53 0 = .ok (.iload_n 0, 1) ∧ 0 + 1 = 1 := ⟨by decide +kernel, rfl⟩
set_option maxRecDepth 20000 in
theorem dJ9_min_7cf53_1 : decode cJ9_min_7cf53 1 = .ok (.iload_n 1, 1) ∧ 1 + 1 = 2 := ⟨by decide +kernel, rfl⟩
set_option maxRecDepth 20000 in
theorem dJ9_min_7cf53_2 : decode cJ9_min_7cf53 2 = .ok (.if_icmp .gt 7, 3) ∧ 2 + 3 = 5 ∧ ((2 : Nat) : Int) + (7) = ((9 : Nat) : Int) := ⟨by decide +kernel, rfl, by decide⟩
set_option maxRecDepth 20000 in
theorem dJ9_min_7cf53_5 : decode cJ9_min_7cf53 5 = .ok (.iload_n 0, 1) ∧ 5 + 1 = 6 := ⟨by decide +kernel, rfl⟩
set_option maxRecDepth 20000 in
theorem dJ9_min_7cf53_6 : decode cJ9_min_7cf53 6 = .ok (.goto 4, 3) ∧ ((6 : Nat) : Int) + (4) = ((10 : Nat) : Int) := ⟨by decide +kernel, by decide⟩
set_option maxRecDepth 20000 in
theorem dJ9_min_7cf53_9 : decode cJ9_min_7cf53 9 = .ok (.iload_n 1, 1) ∧ 9 + 1 = 10 := ⟨by decide +kernel, rfl⟩
set_option maxRecDepth 20000 in
theorem dJ9_min_7cf53_10 : decode cJ9_min_7cf53 10 = .ok (.ireturn, 1) := by decide +kernel
set_option maxRecDepth 20000 in
theorem dJ9_min_f86c9_0 : decode cJ9_min_f86c9 0 = .ok (.lload_n 0, 1) ∧ 0 + 1 = 1 := ⟨by decide +kernel, rfl⟩
set_option maxRecDepth 20000 in
theorem dJ9_min_f86c9_1 : decode cJ9_min_f86c9 1 = .ok (.lload_n 2, 1) ∧ 1 + 1 = 2 := ⟨by decide +kernel, rfl⟩
set_option maxRecDepth 20000 in
theorem dJ9_min_f86c9_2 : decode cJ9_min_f86c9 2 = .ok (.lcmp, 1) ∧ 2 + 1 = 3 := ⟨by decide +kernel, rfl⟩
set_option maxRecDepth 20000 in
theorem dJ9_min_f86c9_3 : decode cJ9_min_f86c9 3 = .ok (.ifCond .gt 7, 3) ∧ 3 + 3 = 6 ∧ ((3 : Nat) : Int) + (7) = ((10 : Nat) : Int) := ⟨by decide +kernel, rfl, by decide⟩
set_option maxRecDepth 20000 in
theorem dJ9_min_f86c9_6 : decode cJ9_min_f86c9 6 = .ok (.lload_n 0, 1) ∧ 6 + 1 = 7 := ⟨by decide +kernel, rfl⟩
set_option maxRecDepth 20000 in
theorem dJ9_min_f86c9_7 : decode cJ9_min_f86c9 7 = .ok (.goto 4, 3) ∧ ((7 : Nat) : Int) + (4) = ((11 : Nat) : Int) := ⟨by decide +kernel, by decide⟩
set_option maxRecDepth 20000 in
theorem dJ9_min_f86c9_10 : decode cJ9_min_f86c9 10 = .ok (.lload_n 2, 1) ∧ 10 + 1 = 11 := ⟨by decide +kernel, rfl⟩
set_option maxRecDepth 20000 in
theorem dJ9_min_f86c9_11 : decode cJ9_min_f86c9 11 = .ok (.lreturn, 1) := by decide +kernel
set_option maxRecDepth 20000 in
theorem dJ0_length_8abf5_0 : decode cJ0_length_8abf5 0 = .ok (.aload_n 0, 1) ∧ 0 + 1 = 1 := ⟨by decide +kernel, rfl⟩
set_option maxRecDepth 20000 in
theorem dJ0_length_8abf5_1 : decode cJ0_length_8abf5 1 = .ok (.getfield 9, 3) ∧ 1 + 3 = 4 := ⟨by decide +kernel, rfl⟩
set_option maxRecDepth 20000 in
theorem dJ0_length_8abf5_4 : decode cJ0_length_8abf5 4 = .ok (.arraylength, 1) ∧ 4 + 1 = 5 := ⟨by decide +kernel, rfl⟩
set_option maxRecDepth 20000 in
theorem dJ0_length_8abf5_5 : decode cJ0_length_8abf5 5 = .ok (.aload_n 0, 1) ∧ 5 + 1 = 6 := ⟨by decide +kernel, rfl⟩
set_option maxRecDepth 20000 in
theorem dJ0_length_8abf5_6 : decode cJ0_length_8abf5 6 = .ok (.invokevirtual 335, 3) ∧ 6 + 3 = 9 := ⟨by decide +kernel, rfl⟩
set_option maxRecDepth 20000 in
theorem dJ0_length_8abf5_9 : decode cJ0_length_8abf5 9 = .ok (.ishr, 1) ∧ 9 + 1 = 10 := ⟨by decide +kernel, rfl⟩
set_option maxRecDepth 20000 in
theorem dJ0_length_8abf5_10 : decode cJ0_length_8abf5 10 = .ok (.ireturn, 1) := by decide +kernel
set_option maxRecDepth 20000 in
theorem dJ0_charAt_5068e_0 : decode cJ0_charAt_5068e 0 = .ok (.aload_n 0, 1) ∧ 0 + 1 = 1 := ⟨by decide +kernel, rfl⟩
set_option maxRecDepth 20000 in
theorem dJ0_charAt_5068e_1 : decode cJ0_charAt_5068e 1 = .ok (.invokevirtual 492, 3) ∧ 1 + 3 = 4 := ⟨by decide +kernel, rfl⟩
set_option maxRecDepth 20000 in
theorem dJ0_charAt_5068e_4 : decode cJ0_charAt_5068e 4 = .ok (.ifCond .eq 12, 3) ∧ 4 + 3 = 7 ∧ ((4 : Nat) : Int) + (12) = ((16 : Nat) : Int) := ⟨by decide +kernel, rfl, by decide⟩
set_option maxRecDepth 20000 in
theorem dJ0_charAt_5068e_7 : decode cJ0_charAt_5068e 7 = .ok (.aload_n 0, 1) ∧ 7 + 1 = 8 := ⟨by decide +kernel, rfl⟩
set_option maxRecDepth 20000 in
theorem dJ0_charAt_5068e_8 : decode cJ0_charAt_5068e 8 = .ok (.getfield 9, 3) ∧ 8 + 3 = 11 := ⟨by decide +kernel, rfl⟩
set_option maxRecDepth 20000 in
theorem dJ0_charAt_5068e_11 : decode cJ0_charAt_5068e 11 = .ok (.iload_n 1, 1) ∧ 11 + 1 = 12 := ⟨by decide +kernel, rfl⟩
set_option maxRecDepth 20000 in
theorem dJ0_charAt_5068e_12 : decode cJ0_charAt_5068e 12 = .ok (.invokestatic 495, 3) ∧ 12 + 3 = 15 := ⟨by decide +kernel, rfl⟩
set_option maxRecDepth 20000 in
theorem dJ0_charAt_5068e_15 : decode cJ0_charAt_5068e 15 = .ok (.ireturn, 1) := by decide +kernel
set_option maxRecDepth 20000 in
theorem dJ0_charAt_5068e_16 : decode cJ0_charAt_5068e 16 = .ok (.aload_n 0, 1) ∧ 16 + 1 = 17 := ⟨by decide +kernel, rfl⟩
set_option maxRecDepth 20000 in
theorem dJ0_charAt_5068e_17 : decode cJ0_charAt_5068e 17 = .ok (.getfield 9, 3) ∧ 17 + 3 = 20 := ⟨by decide +kernel, rfl⟩
set_option maxRecDepth 20000 in
theorem dJ0_charAt_5068e_20 : decode cJ0_charAt_5068e 20 = .ok (.iload_n 1, 1) ∧ 20 + 1 = 21 := ⟨by decide +kernel, rfl⟩
set_option maxRecDepth 20000 in
theorem dJ0_charAt_5068e_21 : decode cJ0_charAt_5068e 21 = .ok (.invokestatic 498, 3) ∧ 21 + 3 = 24 := ⟨by decide +kernel, rfl⟩
set_option maxRecDepth 20000 in
theorem dJ0_charAt_5068e_24 : decode cJ0_charAt_5068e 24 = .ok (.ireturn, 1) := by decide +kernel
set_option maxRecDepth 20000 in
theorem dJ0_coder_7d493_0 : decode cJ0_coder_7d493 0 = .ok (.getstatic 38, 3) ∧ 0 + 3 = 3 := ⟨by decide +kernel, rfl⟩
set_option maxRecDepth 20000 in
theorem dJ0_coder_7d493_3 : decode cJ0_coder_7d493 3 = .ok (.ifCond .eq 10, 3) ∧ 3 + 3 = 6 ∧ ((3 : Nat) : Int) + (10) = ((13 : Nat) : Int) := ⟨by decide +kernel, rfl, by decide⟩
set_option maxRecDepth 20000 in
theorem dJ0_coder_7d493_6 : decode cJ0_coder_7d493 6 = .ok (.aload_n 0, 1) ∧ 6 + 1 = 7 := ⟨by decide +kernel, rfl⟩
set_option maxRecDepth 20000 in
theorem dJ0_coder_7d493_7 : decode cJ0_coder_7d493 7 = .ok (.getfield 15, 3) ∧ 7 + 3 = 10 := ⟨by decide +kernel, rfl⟩
set_option maxRecDepth 20000 in
theorem dJ0_coder_7d493_10 : decode cJ0_coder_7d493 10 = .ok (.goto 4, 3) ∧ ((10 : Nat) : Int) + (4) = ((14 : Nat) : Int) := ⟨by decide +kernel, by decide⟩
set_option maxRecDepth 20000 in
theorem dJ0_coder_7d493_13 : decode cJ0_coder_7d493 13 = .ok (.iconst 1, 1) ∧ 13 + 1 = 14 := ⟨by decide +kernel, rfl⟩
set_option maxRecDepth 20000 in
theorem dJ0_coder_7d493_14 : decode cJ0_coder_7d493 14 = .ok (.ireturn, 1) := by decide +kernel
set_option maxRecDepth 20000 in
theorem dJ0_isLatin1_aae02_0 : decode cJ0_isLatin1_aae02 0 = .ok (.getstatic 38, 3) ∧ 0 + 3 = 3 := ⟨by decide +kernel, rfl⟩
set_option maxRecDepth 20000 in
theorem dJ0_isLatin1_aae02_3 : decode cJ0_isLatin1_aae02 3 = .ok (.ifCond .eq 14, 3) ∧ 3 + 3 = 6 ∧ ((3 : Nat) : Int) + (14) = ((17 : Nat) : Int) := ⟨by decide +kernel, rfl, by decide⟩
set_option maxRecDepth 20000 in
theorem dJ0_isLatin1_aae02_6 : decode cJ0_isLatin1_aae02 6 = .ok (.aload_n 0, 1) ∧ 6 + 1 = 7 := ⟨by decide +kernel, rfl⟩
set_option maxRecDepth 20000 in
theorem dJ0_isLatin1_aae02_7 : decode cJ0_isLatin1_aae02 7 = .ok (.getfield 15, 3) ∧ 7 + 3 = 10 := ⟨by decide +kernel, rfl⟩
set_option maxRecDepth 20000 in
theorem dJ0_isLatin1_aae02_10 : decode cJ0_isLatin1_aae02 10 = .ok (.ifCond .ne 7, 3) ∧ 10 + 3 = 13 ∧ ((10 : Nat) : Int) + (7) = ((17 : Nat) : Int) := ⟨by decide +kernel, rfl, by decide⟩
set_option maxRecDepth 20000 in
theorem dJ0_isLatin1_aae02_13 : decode cJ0_isLatin1_aae02 13 = .ok (.iconst 1, 1) ∧ 13 + 1 = 14 := ⟨by decide +kernel, rfl⟩
set_option maxRecDepth 20000 in
theorem dJ0_isLatin1_aae02_14 : decode cJ0_isLatin1_aae02 14 = .ok (.goto 4, 3) ∧ ((14 : Nat) : Int) + (4) = ((18 : Nat) : Int) := ⟨by decide +kernel, by decide⟩
set_option maxRecDepth 20000 in
theorem dJ0_isLatin1_aae02_17 : decode cJ0_isLatin1_aae02 17 = .ok (.iconst 0, 1) ∧ 17 + 1 = 18 := ⟨by decide +kernel, rfl⟩
set_option maxRecDepth 20000 in
theorem dJ0_isLatin1_aae02_18 : decode cJ0_isLatin1_aae02 18 = .ok (.ireturn, 1) := by decide +kernel
set_option maxRecDepth 20000 in
theorem dJ0_checkIndex_df160_0 : decode cJ0_checkIndex_df160 0 = .ok (.iload_n 0, 1) ∧ 0 + 1 = 1 := ⟨by decide +kernel, rfl⟩
set_option maxRecDepth 20000 in
theorem dJ0_checkIndex_df160_1 : decode cJ0_checkIndex_df160 1 = .ok (.iload_n 1, 1) ∧ 1 + 1 = 2 := ⟨by decide +kernel, rfl⟩
set_option maxRecDepth 20000 in
theorem dJ0_checkIndex_df160_2 : decode cJ0_checkIndex_df160 2 = .ok (.getstatic 1053, 3) ∧ 2 + 3 = 5 := ⟨by decide +kernel, rfl⟩
set_option maxRecDepth 20000 in
theorem dJ0_checkIndex_df160_5 : decode cJ0_checkIndex_df160 5 = .ok (.invokestatic 1059, 3) ∧ 5 + 3 = 8 := ⟨by decide +kernel, rfl⟩
set_option maxRecDepth 20000 in
theorem dJ0_checkIndex_df160_8 : decode cJ0_checkIndex_df160 8 = .ok (.pop, 1) ∧ 8 + 1 = 9 := ⟨by decide +kernel, rfl⟩
set_option maxRecDepth 20000 in
theorem dJ0_checkIndex_df160_9 : decode cJ0_checkIndex_df160 9 = .ok (.return_, 1) := by decide +kernel
set_option maxRecDepth 20000 in
theorem dJ1_charAt_3b067_0 : decode cJ1_charAt_3b067 0 = .ok (.iload_n 1, 1) ∧ 0 + 1 = 1 := ⟨by decide +kernel, rfl⟩
set_option maxRecDepth 20000 in
theorem dJ1_charAt_3b067_1 : decode cJ1_charAt_3b067 1 = .ok (.aload_n 0, 1) ∧ 1 + 1 = 2 := ⟨by decide +kernel, rfl⟩
set_option maxRecDepth 20000 in
theorem dJ1_charAt_3b067_2 : decode cJ1_charAt_3b067 2 = .ok (.arraylength, 1) ∧ 2 + 1 = 3 := ⟨by decide +kernel, rfl⟩
set_option maxRecDepth 20000 in
theorem dJ1_charAt_3b067_3 : decode cJ1_charAt_3b067 3 = .ok (.invokestatic 9, 3) ∧ 3 + 3 = 6 := ⟨by decide +kernel, rfl⟩
set_option maxRecDepth 20000 in
theorem dJ1_charAt_3b067_6 : decode cJ1_charAt_3b067 6 = .ok (.aload_n 0, 1) ∧ 6 + 1 = 7 := ⟨by decide +kernel, rfl⟩
set_option maxRecDepth 20000 in
theorem dJ1_charAt_3b067_7 : decode cJ1_charAt_3b067 7 = .ok (.iload_n 1, 1) ∧ 7 + 1 = 8 := ⟨by decide +kernel, rfl⟩
set_option maxRecDepth 20000 in
theorem dJ1_charAt_3b067_8 : decode cJ1_charAt_3b067 8 = .ok (.baload, 1) ∧ 8 + 1 = 9 := ⟨by decide +kernel, rfl⟩
set_option maxRecDepth 20000 in
theorem dJ1_charAt_3b067_9 : decode cJ1_charAt_3b067 9 = .ok (.sipush 255, 3) ∧ 9 + 3 = 12 := ⟨by decide +kernel, rfl⟩
set_option maxRecDepth 20000 in
theorem dJ1_charAt_3b067_12 : decode cJ1_charAt_3b067 12 = .ok (.iand, 1) ∧ 12 + 1 = 13 := ⟨by decide +kernel, rfl⟩
set_option maxRecDepth 20000 in
theorem dJ1_charAt_3b067_13 : decode cJ1_charAt_3b067 13 = .ok (.i2c, 1) ∧ 13 + 1 = 14 := ⟨by decide +kernel, rfl⟩
set_option maxRecDepth 20000 in
theorem dJ1_charAt_3b067_14 : decode cJ1_charAt_3b067 14 = .ok (.ireturn, 1) := by decide +kernel
set_option maxRecDepth 20000 in
theorem dJ2_getChar_3b067_0 : decode cJ2_getChar_3b067 0 = .ok (.getstatic 44, 3) ∧ 0 + 3 = 3 := ⟨by decide +kernel, rfl⟩
set_option maxRecDepth 20000 in
theorem dJ2_getChar_3b067_3 : decode cJ2_getChar_3b067 3 = .ok (.ifCond .ne 25, 3) ∧ 3 + 3 = 6 ∧ ((3 : Nat) : Int) + (25) = ((28 : Nat) : Int) := ⟨by decide +kernel, rfl, by decide⟩
set_option maxRecDepth 20000 in
theorem dJ2_getChar_3b067_6 : decode cJ2_getChar_3b067 6 = .ok (.iload_n 1, 1) ∧ 6 + 1 = 7 := ⟨by decide +kernel, rfl⟩
set_option maxRecDepth 20000 in
theorem dJ2_getChar_3b067_7 : decode cJ2_getChar_3b067 7 = .ok (.ifCond .lt 11, 3) ∧ 7 + 3 = 10 ∧ ((7 : Nat) : Int) + (11) = ((18 : Nat) : Int) := ⟨by decide +kernel, rfl, by decide⟩
set_option maxRecDepth 20000 in
theorem dJ2_getChar_3b067_10 : decode cJ2_getChar_3b067 10 = .ok (.iload_n 1, 1) ∧ 10 + 1 = 11 := ⟨by decide +kernel, rfl⟩
set_option maxRecDepth 20000 in
theorem dJ2_getChar_3b067_11 : decode cJ2_getChar_3b067 11 = .ok (.aload_n 0, 1) ∧ 11 + 1 = 12 := ⟨by decide +kernel, rfl⟩
set_option maxRecDepth 20000 in
theorem dJ2_getChar_3b067_12 : decode cJ2_getChar_3b067 12 = .ok (.invokestatic 48, 3) ∧ 12 + 3 = 15 := ⟨by decide +kernel, rfl⟩
set_option maxRecDepth 20000 in
theorem dJ2_getChar_3b067_15 : decode cJ2_getChar_3b067 15 = .ok (.if_icmp .lt 13, 3) ∧ 15 + 3 = 18 ∧ ((15 : Nat) : Int) + (13) = ((28 : Nat) : Int) := ⟨by decide +kernel, rfl, by decide⟩
set_option maxRecDepth 20000 in
theorem dJ2_getChar_3b067_18 : decode cJ2_getChar_3b067 18 = .ok (.new 52, 3) ∧ 18 + 3 = 21 := ⟨by decide +kernel, rfl⟩
set_option maxRecDepth 20000 in
theorem dJ2_getChar_3b067_21 : decode cJ2_getChar_3b067 21 = .ok (.dup, 1) ∧ 21 + 1 = 22 := ⟨by decide +kernel, rfl⟩
set_option maxRecDepth 20000 in
theorem dJ2_getChar_3b067_22 : decode cJ2_getChar_3b067 22 = .ok (.ldc 54, 2) ∧ 22 + 2 = 24 := ⟨by decide +kernel, rfl⟩
set_option maxRecDepth 20000 in
theorem dJ2_getChar_3b067_24 : decode cJ2_getChar_3b067 24 = .ok (.invokespecial 56, 3) ∧ 24 + 3 = 27 := ⟨by decide +kernel, rfl⟩
set_option maxRecDepth 20000 in
theorem dJ2_getChar_3b067_27 : decode cJ2_getChar_3b067 27 = .ok (.athrow, 1) := by decide +kernel
set_option maxRecDepth 20000 in
theorem dJ2_getChar_3b067_28 : decode cJ2_getChar_3b067 28 = .ok (.iload_n 1, 1) ∧ 28 + 1 = 29 := ⟨by decide +kernel, rfl⟩
set_option maxRecDepth 20000 in
theorem dJ2_getChar_3b067_29 : decode cJ2_getChar_3b067 29 = .ok (.iconst 1, 1) ∧ 29 + 1 = 30 := ⟨by decide +kernel, rfl⟩
set_option maxRecDepth 20000 in
theorem dJ2_getChar_3b067_30 : decode cJ2_getChar_3b067 30 = .ok (.ishl, 1) ∧ 30 + 1 = 31 := ⟨by decide +kernel, rfl⟩
set_option maxRecDepth 20000 in
theorem dJ2_getChar_3b067_31 : decode cJ2_getChar_3b067 31 = .ok (.istore_n 1, 1) ∧ 31 + 1 = 32 := ⟨by decide +kernel, rfl⟩
set_option maxRecDepth 20000 in
theorem dJ2_getChar_3b067_32 : decode cJ2_getChar_3b067 32 = .ok (.aload_n 0, 1) ∧ 32 + 1 = 33 := ⟨by decide +kernel, rfl⟩
set_option maxRecDepth 20000 in
theorem dJ2_getChar_3b067_33 : decode cJ2_getChar_3b067 33 = .ok (.iload_n 1, 1) ∧ 33 + 1 = 34 := ⟨by decide +kernel, rfl⟩
set_option maxRecDepth 20000 in
theorem dJ2_getChar_3b067_34 : decode cJ2_getChar_3b067 34 = .ok (.iinc 1 1, 3) ∧ 34 + 3 = 37 := ⟨by decide +kernel, rfl⟩
set_option maxRecDepth 20000 in
theorem dJ2_getChar_3b067_37 : decode cJ2_getChar_3b067 37 = .ok (.baload, 1) ∧ 37 + 1 = 38 := ⟨by decide +kernel, rfl⟩
set_option maxRecDepth 20000 in
theorem dJ2_getChar_3b067_38 : decode cJ2_getChar_3b067 38 = .ok (.sipush 255, 3) ∧ 38 + 3 = 41 := ⟨by decide +kernel, rfl⟩
set_option maxRecDepth 20000 in
theorem dJ2_getChar_3b067_41 : decode cJ2_getChar_3b067 41 = .ok (.iand, 1) ∧ 41 + 1 = 42 := ⟨by decide +kernel, rfl⟩
set_option maxRecDepth 20000 in
theorem dJ2_getChar_3b067_42 : decode cJ2_getChar_3b067 42 = .ok (.getstatic 59, 3) ∧ 42 + 3 = 45 := ⟨by decide +kernel, rfl⟩
set_option maxRecDepth 20000 in
theorem dJ2_getChar_3b067_45 : decode cJ2_getChar_3b067 45 = .ok (.ishl, 1) ∧ 45 + 1 = 46 := ⟨by decide +kernel, rfl⟩
set_option maxRecDepth 20000 in
theorem dJ2_getChar_3b067_46 : decode cJ2_getChar_3b067 46 = .ok (.aload_n 0, 1) ∧ 46 + 1 = 47 := ⟨by decide +kernel, rfl⟩
set_option maxRecDepth 20000 in
theorem dJ2_getChar_3b067_47 : decode cJ2_getChar_3b067 47 = .ok (.iload_n 1, 1) ∧ 47 + 1 = 48 := ⟨by decide +kernel, rfl⟩
set_option maxRecDepth 20000 in
theorem dJ2_getChar_3b067_48 : decode cJ2_getChar_3b067 48 = .ok (.baload, 1) ∧ 48 + 1 = 49 := ⟨by decide +kernel, rfl⟩
set_option maxRecDepth 20000 in
theorem dJ2_getChar_3b067_49 : decode cJ2_getChar_3b067 49 = .ok (.sipush 255, 3) ∧ 49 + 3 = 52 := ⟨by decide +kernel, rfl⟩
set_option maxRecDepth 20000 in
theorem dJ2_getChar_3b067_52 : decode cJ2_getChar_3b067 52 = .ok (.iand, 1) ∧ 52 + 1 = 53 := ⟨by decide +kernel, rfl⟩
set_option maxRecDepth 20000 in
theorem dJ2_getChar_3b067_53 : decode cJ2_getChar_3b067 53 = .ok (.getstatic 63, 3) ∧ 53 + 3 = 56 := ⟨by decide +kernel, rfl⟩
set_option maxRecDepth 20000 in
theorem dJ2_getChar_3b067_56 : decode cJ2_getChar_3b067 56 = .ok (.ishl, 1) ∧ 56 + 1 = 57 := ⟨by decide +kernel, rfl⟩
set_option maxRecDepth 20000 in
theorem dJ2_getChar_3b067_57 : decode cJ2_getChar_3b067 57 = .ok (.ior, 1) ∧ 57 + 1 = 58 := ⟨by decide +kernel, rfl⟩
set_option maxRecDepth 20000 in
theorem dJ2_getChar_3b067_58 : decode cJ2_getChar_3b067 58 = .ok (.i2c, 1) ∧ 58 + 1 = 59 := ⟨by decide +kernel, rfl⟩
set_option maxRecDepth 20000 in
theorem dJ2_getChar_3b067_59 : decode cJ2_getChar_3b067 59 = .ok (.ireturn, 1) := by decide +kernel
set_option maxRecDepth 20000 in
theorem dJ2_length_9d52b_0 : decode cJ2_length_9d52b 0 = .ok (.aload_n 0, 1) ∧ 0 + 1 = 1 := ⟨by decide +kernel, rfl⟩
set_option maxRecDepth 20000 in
theorem dJ2_length_9d52b_1 : decode cJ2_length_9d52b 1 = .ok (.arraylength, 1) ∧ 1 + 1 = 2 := ⟨by decide +kernel, rfl⟩
set_option maxRecDepth 20000 in
theorem dJ2_length_9d52b_2 : decode cJ2_length_9d52b 2 = .ok (.iconst 1, 1) ∧ 2 + 1 = 3 := ⟨by decide +kernel, rfl⟩
set_option maxRecDepth 20000 in
theorem dJ2_length_9d52b_3 : decode cJ2_length_9d52b 3 = .ok (.ishr, 1) ∧ 3 + 1 = 4 := ⟨by decide +kernel, rfl⟩
set_option maxRecDepth 20000 in
theorem dJ2_length_9d52b_4 : decode cJ2_length_9d52b 4 = .ok (.ireturn, 1) := by decide +kernel
set_option maxRecDepth 20000 in
theorem dJ2_charAt_3b067_0 : decode cJ2_charAt_3b067 0 = .ok (.iload_n 1, 1) ∧ 0 + 1 = 1 := ⟨by decide +kernel, rfl⟩
set_option maxRecDepth 20000 in
theorem dJ2_charAt_3b067_1 : decode cJ2_charAt_3b067 1 = .ok (.aload_n 0, 1) ∧ 1 + 1 = 2 := ⟨by decide +kernel, rfl⟩
set_option maxRecDepth 20000 in
theorem dJ2_charAt_3b067_2 : decode cJ2_charAt_3b067 2 = .ok (.invokestatic 67, 3) ∧ 2 + 3 = 5 := ⟨by decide +kernel, rfl⟩
set_option maxRecDepth 20000 in
theorem dJ2_charAt_3b067_5 : decode cJ2_charAt_3b067 5 = .ok (.aload_n 0, 1) ∧ 5 + 1 = 6 := ⟨by decide +kernel, rfl⟩
set_option maxRecDepth 20000 in
theorem dJ2_charAt_3b067_6 : decode cJ2_charAt_3b067 6 = .ok (.iload_n 1, 1) ∧ 6 + 1 = 7 := ⟨by decide +kernel, rfl⟩
set_option maxRecDepth 20000 in
theorem dJ2_charAt_3b067_7 : decode cJ2_charAt_3b067 7 = .ok (.invokestatic 71, 3) ∧ 7 + 3 = 10 := ⟨by decide +kernel, rfl⟩
set_option maxRecDepth 20000 in
theorem dJ2_charAt_3b067_10 : decode cJ2_charAt_3b067 10 = .ok (.ireturn, 1) := by decide +kernel
set_option maxRecDepth 20000 in
theorem dJ2_checkIndex_2214a_0 : decode cJ2_checkIndex_2214a 0 = .ok (.iload_n 0, 1) ∧ 0 + 1 = 1 := ⟨by decide +kernel, rfl⟩
set_option maxRecDepth 20000 in
theorem dJ2_checkIndex_2214a_1 : decode cJ2_checkIndex_2214a 1 = .ok (.aload_n 1, 1) ∧ 1 + 1 = 2 := ⟨by decide +kernel, rfl⟩
set_option maxRecDepth 20000 in
theorem dJ2_checkIndex_2214a_2 : decode cJ2_checkIndex_2214a 2 = .ok (.invokestatic 48, 3) ∧ 2 + 3 = 5 := ⟨by decide +kernel, rfl⟩
set_option maxRecDepth 20000 in
theorem dJ2_checkIndex_2214a_5 : decode cJ2_checkIndex_2214a 5 = .ok (.invokestatic 414, 3) ∧ 5 + 3 = 8 := ⟨by decide +kernel, rfl⟩
set_option maxRecDepth 20000 in
theorem dJ2_checkIndex_2214a_8 : decode cJ2_checkIndex_2214a 8 = .ok (.return_, 1) := by decide +kernel
set_option maxRecDepth 20000 in
theorem dJ7_rangeCheck_23922_0 : decode cJ7_rangeCheck_23922 0 = .ok (.iload_n 1, 1) ∧ 0 + 1 = 1 := ⟨by decide +kernel, rfl⟩
set_option maxRecDepth 20000 in
theorem dJ7_rangeCheck_23922_1 : decode cJ7_rangeCheck_23922 1 = .ok (.iload_n 2, 1) ∧ 1 + 1 = 2 := ⟨by decide +kernel, rfl⟩
set_option maxRecDepth 20000 in
theorem dJ7_rangeCheck_23922_2 : decode cJ7_rangeCheck_23922 2 = .ok (.if_icmp .le 44, 3) ∧ 2 + 3 = 5 ∧ ((2 : Nat) : Int) + (44) = ((46 : Nat) : Int) := ⟨by decide +kernel, rfl, by decide⟩
set_option maxRecDepth 20000 in
theorem dJ7_rangeCheck_23922_5 : decode cJ7_rangeCheck_23922 5 = .ok (.new 43, 3) ∧ 5 + 3 = 8 := ⟨by decide +kernel, rfl⟩
set_option maxRecDepth 20000 in
theorem dJ7_rangeCheck_23922_8 : decode cJ7_rangeCheck_23922 8 = .ok (.dup, 1) ∧ 8 + 1 = 9 := ⟨by decide +kernel, rfl⟩
set_option maxRecDepth 20000 in
theorem dJ7_rangeCheck_23922_9 : decode cJ7_rangeCheck_23922 9 = .ok (.new 45, 3) ∧ 9 + 3 = 12 := ⟨by decide +kernel, rfl⟩
set_option maxRecDepth 20000 in
theorem dJ7_rangeCheck_23922_12 : decode cJ7_rangeCheck_23922 12 = .ok (.dup, 1) ∧ 12 + 1 = 13 := ⟨by decide +kernel, rfl⟩
set_option maxRecDepth 20000 in
theorem dJ7_rangeCheck_23922_13 : decode cJ7_rangeCheck_23922 13 = .ok (.invokespecial 47, 3) ∧ 13 + 3 = 16 := ⟨by decide +kernel, rfl⟩
set_option maxRecDepth 20000 in
theorem dJ7_rangeCheck_23922_16 : decode cJ7_rangeCheck_23922 16 = .ok (.ldc 48, 2) ∧ 16 + 2 = 18 := ⟨by decide +kernel, rfl⟩
set_option maxRecDepth 20000 in
theorem dJ7_rangeCheck_23922_18 : decode cJ7_rangeCheck_23922 18 = .ok (.invokevirtual 50, 3) ∧ 18 + 3 = 21 := ⟨by decide +kernel, rfl⟩
set_option maxRecDepth 20000 in
theorem dJ7_rangeCheck_23922_21 : decode cJ7_rangeCheck_23922 21 = .ok (.iload_n 1, 1) ∧ 21 + 1 = 22 := ⟨by decide +kernel, rfl⟩
set_option maxRecDepth 20000 in
theorem dJ7_rangeCheck_23922_22 : decode cJ7_rangeCheck_23922 22 = .ok (.invokevirtual 54, 3) ∧ 22 + 3 = 25 := ⟨by decide +kernel, rfl⟩
set_option maxRecDepth 20000 in
theorem dJ7_rangeCheck_23922_25 : decode cJ7_rangeCheck_23922 25 = .ok (.ldc 57, 2) ∧ 25 + 2 = 27 := ⟨by decide +kernel, rfl⟩
set_option maxRecDepth 20000 in
theorem dJ7_rangeCheck_23922_27 : decode cJ7_rangeCheck_23922 27 = .ok (.invokevirtual 50, 3) ∧ 27 + 3 = 30 := ⟨by decide +kernel, rfl⟩
set_option maxRecDepth 20000 in
theorem dJ7_rangeCheck_23922_30 : decode cJ7_rangeCheck_23922 30 = .ok (.iload_n 2, 1) ∧ 30 + 1 = 31 := ⟨by decide +kernel, rfl⟩
set_option maxRecDepth 20000 in
theorem dJ7_rangeCheck_23922_31 : decode cJ7_rangeCheck_23922 31 = .ok (.invokevirtual 54, 3) ∧ 31 + 3 = 34 := ⟨by decide +kernel, rfl⟩
set_option maxRecDepth 20000 in
theorem dJ7_rangeCheck_23922_34 : decode cJ7_rangeCheck_23922 34 = .ok (.ldc 59, 2) ∧ 34 + 2 = 36 := ⟨by decide +kernel, rfl⟩
set_option maxRecDepth 20000 in
theorem dJ7_rangeCheck_23922_36 : decode cJ7_rangeCheck_23922 36 = .ok (.invokevirtual 50, 3) ∧ 36 + 3 = 39 := ⟨by decide +kernel, rfl⟩
set_option maxRecDepth 20000 in
theorem dJ7_rangeCheck_23922_39 : decode cJ7_rangeCheck_23922 39 = .ok (.invokevirtual 61, 3) ∧ 39 + 3 = 42 := ⟨by decide +kernel, rfl⟩
set_option maxRecDepth 20000 in
theorem dJ7_rangeCheck_23922_42 : decode cJ7_rangeCheck_23922 42 = .ok (.invokespecial 65, 3) ∧ 42 + 3 = 45 := ⟨by decide +kernel, rfl⟩
set_option maxRecDepth 20000 in
theorem dJ7_rangeCheck_23922_45 : decode cJ7_rangeCheck_23922 45 = .ok (.athrow, 1) := by decide +kernel
set_option maxRecDepth 20000 in
theorem dJ7_rangeCheck_23922_46 : decode cJ7_rangeCheck_23922 46 = .ok (.iload_n 1, 1) ∧ 46 + 1 = 47 := ⟨by decide +kernel, rfl⟩
set_option maxRecDepth 20000 in
theorem dJ7_rangeCheck_23922_47 : decode cJ7_rangeCheck_23922 47 = .ok (.ifCond .ge 12, 3) ∧ 47 + 3 = 50 ∧ ((47 : Nat) : Int) + (12) = ((59 : Nat) : Int) := ⟨by decide +kernel, rfl, by decide⟩
set_option maxRecDepth 20000 in
theorem dJ7_rangeCheck_23922_50 : decode cJ7_rangeCheck_23922 50 = .ok (.new 68, 3) ∧ 50 + 3 = 53 := ⟨by decide +kernel, rfl⟩
set_option maxRecDepth 20000 in
theorem dJ7_rangeCheck_23922_53 : decode cJ7_rangeCheck_23922 53 = .ok (.dup, 1) ∧ 53 + 1 = 54 := ⟨by decide +kernel, rfl⟩
set_option maxRecDepth 20000 in
theorem dJ7_rangeCheck_23922_54 : decode cJ7_rangeCheck_23922 54 = .ok (.iload_n 1, 1) ∧ 54 + 1 = 55 := ⟨by decide +kernel, rfl⟩
set_option maxRecDepth 20000 in
theorem dJ7_rangeCheck_23922_55 : decode cJ7_rangeCheck_23922 55 = .ok (.invokespecial 70, 3) ∧ 55 + 3 = 58 := ⟨by decide +kernel, rfl⟩
set_option maxRecDepth 20000 in
theorem dJ7_rangeCheck_23922_58 : decode cJ7_rangeCheck_23922 58 = .ok (.athrow, 1) := by decide +kernel
set_option maxRecDepth 20000 in
theorem dJ7_rangeCheck_23922_59 : decode cJ7_rangeCheck_23922 59 = .ok (.iload_n 2, 1) ∧ 59 + 1 = 60 := ⟨by decide +kernel, rfl⟩
set_option maxRecDepth 20000 in
theorem dJ7_rangeCheck_23922_60 : decode cJ7_rangeCheck_23922 60 = .ok (.iload_n 0, 1) ∧ 60 + 1 = 61 := ⟨by decide +kernel, rfl⟩
set_option maxRecDepth 20000 in
theorem dJ7_rangeCheck_23922_61 : decode cJ7_rangeCheck_23922 61 = .ok (.if_icmp .le 12, 3) ∧ 61 + 3 = 64 ∧ ((61 : Nat) : Int) + (12) = ((73 : Nat) : Int) := ⟨by decide +kernel, rfl, by decide⟩
set_option maxRecDepth 20000 in
theorem dJ7_rangeCheck_23922_64 : decode cJ7_rangeCheck_23922 64 = .ok (.new 68, 3) ∧ 64 + 3 = 67 := ⟨by decide +kernel, rfl⟩
set_option maxRecDepth 20000 in
theorem dJ7_rangeCheck_23922_67 : decode cJ7_rangeCheck_23922 67 = .ok (.dup, 1) ∧ 67 + 1 = 68 := ⟨by decide +kernel, rfl⟩
set_option maxRecDepth 20000 in
theorem dJ7_rangeCheck_23922_68 : decode cJ7_rangeCheck_23922 68 = .ok (.iload_n 2, 1) ∧ 68 + 1 = 69 := ⟨by decide +kernel, rfl⟩
set_option maxRecDepth 20000 in
theorem dJ7_rangeCheck_23922_69 : decode cJ7_rangeCheck_23922 69 = .ok (.invokespecial 70, 3) ∧ 69 + 3 = 72 := ⟨by decide +kernel, rfl⟩
set_option maxRecDepth 20000 in
theorem dJ7_rangeCheck_23922_72 : decode cJ7_rangeCheck_23922 72 = .ok (.athrow, 1) := by decide +kernel
set_option maxRecDepth 20000 in
theorem dJ7_rangeCheck_23922_73 : decode cJ7_rangeCheck_23922 73 = .ok (.return_, 1) := by decide +kernel
set_option maxRecDepth 20000 in
theorem dJ7_fill_d0a16_0 : decode cJ7_fill_d0a16 0 = .ok (.iconst 0, 1) ∧ 0 + 1 = 1 := ⟨by decide +kernel, rfl⟩
set_option maxRecDepth 20000 in
theorem dJ7_fill_d0a16_1 : decode cJ7_fill_d0a16 1 = .ok (.istore_n 3, 1) ∧ 1 + 1 = 2 := ⟨by decide +kernel, rfl⟩
set_option maxRecDepth 20000 in
theorem dJ7_fill_d0a16_2 : decode cJ7_fill_d0a16 2 = .ok (.aload_n 0, 1) ∧ 2 + 1 = 3 := ⟨by decide +kernel, rfl⟩
set_option maxRecDepth 20000 in
theorem dJ7_fill_d0a16_3 : decode cJ7_fill_d0a16 3 = .ok (.arraylength, 1) ∧ 3 + 1 = 4 := ⟨by decide +kernel, rfl⟩
set_option maxRecDepth 20000 in
theorem dJ7_fill_d0a16_4 : decode cJ7_fill_d0a16 4 = .ok (.istore 4, 2) ∧ 4 + 2 = 6 := ⟨by decide +kernel, rfl⟩
set_option maxRecDepth 20000 in
theorem dJ7_fill_d0a16_6 : decode cJ7_fill_d0a16 6 = .ok (.iload_n 3, 1) ∧ 6 + 1 = 7 := ⟨by decide +kernel, rfl⟩
set_option maxRecDepth 20000 in
theorem dJ7_fill_d0a16_7 : decode cJ7_fill_d0a16 7 = .ok (.iload 4, 2) ∧ 7 + 2 = 9 := ⟨by decide +kernel, rfl⟩
set_option maxRecDepth 20000 in
theorem dJ7_fill_d0a16_9 : decode cJ7_fill_d0a16 9 = .ok (.if_icmp .ge 13, 3) ∧ 9 + 3 = 12 ∧ ((9 : Nat) : Int) + (13) = ((22 : Nat) : Int) := ⟨by decide +kernel, rfl, by decide⟩
set_option maxRecDepth 20000 in
theorem dJ7_fill_d0a16_12 : decode cJ7_fill_d0a16 12 = .ok (.aload_n 0, 1) ∧ 12 + 1 = 13 := ⟨by decide +kernel, rfl⟩
set_option maxRecDepth 20000 in
theorem dJ7_fill_d0a16_13 : decode cJ7_fill_d0a16 13 = .ok (.iload_n 3, 1) ∧ 13 + 1 = 14 := ⟨by decide +kernel, rfl⟩
set_option maxRecDepth 20000 in
theorem dJ7_fill_d0a16_14 : decode cJ7_fill_d0a16 14 = .ok (.lload_n 1, 1) ∧ 14 + 1 = 15 := ⟨by decide +kernel, rfl⟩
set_option maxRecDepth 20000 in
theorem dJ7_fill_d0a16_15 : decode cJ7_fill_d0a16 15 = .ok (.lastore, 1) ∧ 15 + 1 = 16 := ⟨by decide +kernel, rfl⟩
set_option maxRecDepth 20000 in
theorem dJ7_fill_d0a16_16 : decode cJ7_fill_d0a16 16 = .ok (.iinc 3 1, 3) ∧ 16 + 3 = 19 := ⟨by decide +kernel, rfl⟩
set_option maxRecDepth 20000 in
theorem dJ7_fill_d0a16_19 : decode cJ7_fill_d0a16 19 = .ok (.goto (-13), 3) ∧ ((19 : Nat) : Int) + (-13) = ((6 : Nat) : Int) := ⟨by decide +kernel, by decide⟩
set_option maxRecDepth 20000 in
theorem dJ7_fill_d0a16_22 : decode cJ7_fill_d0a16 22 = .ok (.return_, 1) := by decide +kernel
set_option maxRecDepth 20000 in
theorem dJ7_fill_bad5a_0 : decode cJ7_fill_bad5a 0 = .ok (.aload_n 0, 1) ∧ 0 + 1 = 1 := ⟨by decide +kernel, rfl⟩
set_option maxRecDepth 20000 in
theorem dJ7_fill_bad5a_1 : decode cJ7_fill_bad5a 1 = .ok (.arraylength, 1) ∧ 1 + 1 = 2 := ⟨by decide +kernel, rfl⟩
set_option maxRecDepth 20000 in
theorem dJ7_fill_bad5a_2 : decode cJ7_fill_bad5a 2 = .ok (.iload_n 1, 1) ∧ 2 + 1 = 3 := ⟨by decide +kernel, rfl⟩
set_option maxRecDepth 20000 in
theorem dJ7_fill_bad5a_3 : decode cJ7_fill_bad5a 3 = .ok (.iload_n 2, 1) ∧ 3 + 1 = 4 := ⟨by decide +kernel, rfl⟩
set_option maxRecDepth 20000 in
theorem dJ7_fill_bad5a_4 : decode cJ7_fill_bad5a 4 = .ok (.invokestatic 13, 3) ∧ 4 + 3 = 7 := ⟨by decide +kernel, rfl⟩
set_option maxRecDepth 20000 in
theorem dJ7_fill_bad5a_7 : decode cJ7_fill_bad5a 7 = .ok (.iload_n 1, 1) ∧ 7 + 1 = 8 := ⟨by decide +kernel, rfl⟩
set_option maxRecDepth 20000 in
theorem dJ7_fill_bad5a_8 : decode cJ7_fill_bad5a 8 = .ok (.istore 5, 2) ∧ 8 + 2 = 10 := ⟨by decide +kernel, rfl⟩
set_option maxRecDepth 20000 in
theorem dJ7_fill_bad5a_10 : decode cJ7_fill_bad5a 10 = .ok (.iload 5, 2) ∧ 10 + 2 = 12 := ⟨by decide +kernel, rfl⟩
set_option maxRecDepth 20000 in
theorem dJ7_fill_bad5a_12 : decode cJ7_fill_bad5a 12 = .ok (.iload_n 2, 1) ∧ 12 + 1 = 13 := ⟨by decide +kernel, rfl⟩
set_option maxRecDepth 20000 in
theorem dJ7_fill_bad5a_13 : decode cJ7_fill_bad5a 13 = .ok (.if_icmp .ge 14, 3) ∧ 13 + 3 = 16 ∧ ((13 : Nat) : Int) + (14) = ((27 : Nat) : Int) := ⟨by decide +kernel, rfl, by decide⟩
set_option maxRecDepth 20000 in
theorem dJ7_fill_bad5a_16 : decode cJ7_fill_bad5a 16 = .ok (.aload_n 0, 1) ∧ 16 + 1 = 17 := ⟨by decide +kernel, rfl⟩
set_option maxRecDepth 20000 in
theorem dJ7_fill_bad5a_17 : decode cJ7_fill_bad5a 17 = .ok (.iload 5, 2) ∧ 17 + 2 = 19 := ⟨by decide +kernel, rfl⟩
set_option maxRecDepth 20000 in
theorem dJ7_fill_bad5a_19 : decode cJ7_fill_bad5a 19 = .ok (.lload_n 3, 1) ∧ 19 + 1 = 20 := ⟨by decide +kernel, rfl⟩
set_option maxRecDepth 20000 in
theorem dJ7_fill_bad5a_20 : decode cJ7_fill_bad5a 20 = .ok (.lastore, 1) ∧ 20 + 1 = 21 := ⟨by decide +kernel, rfl⟩
set_option maxRecDepth 20000 in
theorem dJ7_fill_bad5a_21 : decode cJ7_fill_bad5a 21 = .ok (.iinc 5 1, 3) ∧ 21 + 3 = 24 := ⟨by decide +kernel, rfl⟩
set_option maxRecDepth 20000 in
theorem dJ7_fill_bad5a_24 : decode cJ7_fill_bad5a 24 = .ok (.goto (-14), 3) ∧ ((24 : Nat) : Int) + (-14) = ((10 : Nat) : Int) := ⟨by decide +kernel, by decide⟩
set_option maxRecDepth 20000 in
theorem dJ7_fill_bad5a_27 : decode cJ7_fill_bad5a 27 = .ok (.return_, 1) := by decide +kernel
set_option maxRecDepth 20000 in
theorem dJ7_fill_53178_0 : decode cJ7_fill_53178 0 = .ok (.iconst 0, 1) ∧ 0 + 1 = 1 := ⟨by decide +kernel, rfl⟩
set_option maxRecDepth 20000 in
theorem dJ7_fill_53178_1 : decode cJ7_fill_53178 1 = .ok (.istore_n 2, 1) ∧ 1 + 1 = 2 := ⟨by decide +kernel, rfl⟩
set_option maxRecDepth 20000 in
theorem dJ7_fill_53178_2 : decode cJ7_fill_53178 2 = .ok (.aload_n 0, 1) ∧ 2 + 1 = 3 := ⟨by decide +kernel, rfl⟩
set_option maxRecDepth 20000 in
theorem dJ7_fill_53178_3 : decode cJ7_fill_53178 3 = .ok (.arraylength, 1) ∧ 3 + 1 = 4 := ⟨by decide +kernel, rfl⟩
set_option maxRecDepth 20000 in
theorem dJ7_fill_53178_4 : decode cJ7_fill_53178 4 = .ok (.istore_n 3, 1) ∧ 4 + 1 = 5 := ⟨by decide +kernel, rfl⟩
set_option maxRecDepth 20000 in
theorem dJ7_fill_53178_5 : decode cJ7_fill_53178 5 = .ok (.iload_n 2, 1) ∧ 5 + 1 = 6 := ⟨by decide +kernel, rfl⟩
set_option maxRecDepth 20000 in
theorem dJ7_fill_53178_6 : decode cJ7_fill_53178 6 = .ok (.iload_n 3, 1) ∧ 6 + 1 = 7 := ⟨by decide +kernel, rfl⟩
set_option maxRecDepth 20000 in
theorem dJ7_fill_53178_7 : decode cJ7_fill_53178 7 = .ok (.if_icmp .ge 13, 3) ∧ 7 + 3 = 10 ∧ ((7 : Nat) : Int) + (13) = ((20 : Nat) : Int) := ⟨by decide +kernel, rfl, by decide⟩
set_option maxRecDepth 20000 in
theorem dJ7_fill_53178_10 : decode cJ7_fill_53178 10 = .ok (.aload_n 0, 1) ∧ 10 + 1 = 11 := ⟨by decide +kernel, rfl⟩
set_option maxRecDepth 20000 in
theorem dJ7_fill_53178_11 : decode cJ7_fill_53178 11 = .ok (.iload_n 2, 1) ∧ 11 + 1 = 12 := ⟨by decide +kernel, rfl⟩
set_option maxRecDepth 20000 in
theorem dJ7_fill_53178_12 : decode cJ7_fill_53178 12 = .ok (.iload_n 1, 1) ∧ 12 + 1 = 13 := ⟨by decide +kernel, rfl⟩
set_option maxRecDepth 20000 in
theorem dJ7_fill_53178_13 : decode cJ7_fill_53178 13 = .ok (.iastore, 1) ∧ 13 + 1 = 14 := ⟨by decide +kernel, rfl⟩
set_option maxRecDepth 20000 in
theorem dJ7_fill_53178_14 : decode cJ7_fill_53178 14 = .ok (.iinc 2 1, 3) ∧ 14 + 3 = 17 := ⟨by decide +kernel, rfl⟩
set_option maxRecDepth 20000 in
theorem dJ7_fill_53178_17 : decode cJ7_fill_53178 17 = .ok (.goto (-12), 3) ∧ ((17 : Nat) : Int) + (-12) = ((5 : Nat) : Int) := ⟨by decide +kernel, by decide⟩
set_option maxRecDepth 20000 in
theorem dJ7_fill_53178_20 : decode cJ7_fill_53178 20 = .ok (.return_, 1) := by decide +kernel
set_option maxRecDepth 20000 in
theorem dJ7_copyOf_59c91_0 : decode cJ7_copyOf_59c91 0 = .ok (.iload_n 1, 1) ∧ 0 + 1 = 1 := ⟨by decide +kernel, rfl⟩
set_option maxRecDepth 20000 in
theorem dJ7_copyOf_59c91_1 : decode cJ7_copyOf_59c91 1 = .ok (.aload_n 0, 1) ∧ 1 + 1 = 2 := ⟨by decide +kernel, rfl⟩
set_option maxRecDepth 20000 in
theorem dJ7_copyOf_59c91_2 : decode cJ7_copyOf_59c91 2 = .ok (.arraylength, 1) ∧ 2 + 1 = 3 := ⟨by decide +kernel, rfl⟩
set_option maxRecDepth 20000 in
theorem dJ7_copyOf_59c91_3 : decode cJ7_copyOf_59c91 3 = .ok (.if_icmp .ne 11, 3) ∧ 3 + 3 = 6 ∧ ((3 : Nat) : Int) + (11) = ((14 : Nat) : Int) := ⟨by decide +kernel, rfl, by decide⟩
set_option maxRecDepth 20000 in
theorem dJ7_copyOf_59c91_6 : decode cJ7_copyOf_59c91 6 = .ok (.aload_n 0, 1) ∧ 6 + 1 = 7 := ⟨by decide +kernel, rfl⟩
set_option maxRecDepth 20000 in
theorem dJ7_copyOf_59c91_7 : decode cJ7_copyOf_59c91 7 = .ok (.invokevirtual 316, 3) ∧ 7 + 3 = 10 := ⟨by decide +kernel, rfl⟩
set_option maxRecDepth 20000 in
theorem dJ7_copyOf_59c91_10 : decode cJ7_copyOf_59c91 10 = .ok (.checkcast 317, 3) ∧ 10 + 3 = 13 := ⟨by decide +kernel, rfl⟩
set_option maxRecDepth 20000 in
theorem dJ7_copyOf_59c91_13 : decode cJ7_copyOf_59c91 13 = .ok (.areturn, 1) := by decide +kernel
set_option maxRecDepth 20000 in
theorem dJ7_copyOf_59c91_14 : decode cJ7_copyOf_59c91 14 = .ok (.iload_n 1, 1) ∧ 14 + 1 = 15 := ⟨by decide +kernel, rfl⟩
set_option maxRecDepth 20000 in
theorem dJ7_copyOf_59c91_15 : decode cJ7_copyOf_59c91 15 = .ok (.newarray .int, 2) ∧ 15 + 2 = 17 := ⟨by decide +kernel, rfl⟩
set_option maxRecDepth 20000 in
theorem dJ7_copyOf_59c91_17 : decode cJ7_copyOf_59c91 17 = .ok (.astore_n 2, 1) ∧ 17 + 1 = 18 := ⟨by decide +kernel, rfl⟩
set_option maxRecDepth 20000 in
theorem dJ7_copyOf_59c91_18 : decode cJ7_copyOf_59c91 18 = .ok (.aload_n 0, 1) ∧ 18 + 1 = 19 := ⟨by decide +kernel, rfl⟩
set_option maxRecDepth 20000 in
theorem dJ7_copyOf_59c91_19 : decode cJ7_copyOf_59c91 19 = .ok (.iconst 0, 1) ∧ 19 + 1 = 20 := ⟨by decide +kernel, rfl⟩
set_option maxRecDepth 20000 in
theorem dJ7_copyOf_59c91_20 : decode cJ7_copyOf_59c91 20 = .ok (.aload_n 2, 1) ∧ 20 + 1 = 21 := ⟨by decide +kernel, rfl⟩
set_option maxRecDepth 20000 in
theorem dJ7_copyOf_59c91_21 : decode cJ7_copyOf_59c91 21 = .ok (.iconst 0, 1) ∧ 21 + 1 = 22 := ⟨by decide +kernel, rfl⟩
set_option maxRecDepth 20000 in
theorem dJ7_copyOf_59c91_22 : decode cJ7_copyOf_59c91 22 = .ok (.aload_n 0, 1) ∧ 22 + 1 = 23 := ⟨by decide +kernel, rfl⟩
set_option maxRecDepth 20000 in
theorem dJ7_copyOf_59c91_23 : decode cJ7_copyOf_59c91 23 = .ok (.arraylength, 1) ∧ 23 + 1 = 24 := ⟨by decide +kernel, rfl⟩
set_option maxRecDepth 20000 in
theorem dJ7_copyOf_59c91_24 : decode cJ7_copyOf_59c91 24 = .ok (.iload_n 1, 1) ∧ 24 + 1 = 25 := ⟨by decide +kernel, rfl⟩
set_option maxRecDepth 20000 in
theorem dJ7_copyOf_59c91_25 : decode cJ7_copyOf_59c91 25 = .ok (.invokestatic 304, 3) ∧ 25 + 3 = 28 := ⟨by decide +kernel, rfl⟩
set_option maxRecDepth 20000 in
theorem dJ7_copyOf_59c91_28 : decode cJ7_copyOf_59c91 28 = .ok (.invokestatic 150, 3) ∧ 28 + 3 = 31 := ⟨by decide +kernel, rfl⟩
set_option maxRecDepth 20000 in
theorem dJ7_copyOf_59c91_31 : decode cJ7_copyOf_59c91 31 = .ok (.aload_n 2, 1) ∧ 31 + 1 = 32 := ⟨by decide +kernel, rfl⟩
set_option maxRecDepth 20000 in
theorem dJ7_copyOf_59c91_32 : decode cJ7_copyOf_59c91 32 = .ok (.areturn, 1) := by decide +kernel
set_option maxRecDepth 20000 in
theorem dJ3_checkIndex_8e157_0 : decode cJ3_checkIndex_8e157 0 = .ok (.iload_n 0, 1) ∧ 0 + 1 = 1 := ⟨by decide +kernel, rfl⟩
set_option maxRecDepth 20000 in
theorem dJ3_checkIndex_8e157_1 : decode cJ3_checkIndex_8e157 1 = .ok (.ifCond .lt 8, 3) ∧ 1 + 3 = 4 ∧ ((1 : Nat) : Int) + (8) = ((9 : Nat) : Int) := ⟨by decide +kernel, rfl, by decide⟩
set_option maxRecDepth 20000 in
theorem dJ3_checkIndex_8e157_4 : decode cJ3_checkIndex_8e157 4 = .ok (.iload_n 0, 1) ∧ 4 + 1 = 5 := ⟨by decide +kernel, rfl⟩
set_option maxRecDepth 20000 in
theorem dJ3_checkIndex_8e157_5 : decode cJ3_checkIndex_8e157 5 = .ok (.iload_n 1, 1) ∧ 5 + 1 = 6 := ⟨by decide +kernel, rfl⟩
set_option maxRecDepth 20000 in
theorem dJ3_checkIndex_8e157_6 : decode cJ3_checkIndex_8e157 6 = .ok (.if_icmp .lt 10, 3) ∧ 6 + 3 = 9 ∧ ((6 : Nat) : Int) + (10) = ((16 : Nat) : Int) := ⟨by decide +kernel, rfl, by decide⟩
set_option maxRecDepth 20000 in
theorem dJ3_checkIndex_8e157_9 : decode cJ3_checkIndex_8e157 9 = .ok (.aload_n 2, 1) ∧ 9 + 1 = 10 := ⟨by decide +kernel, rfl⟩
set_option maxRecDepth 20000 in
theorem dJ3_checkIndex_8e157_10 : decode cJ3_checkIndex_8e157 10 = .ok (.iload_n 0, 1) ∧ 10 + 1 = 11 := ⟨by decide +kernel, rfl⟩
set_option maxRecDepth 20000 in
theorem dJ3_checkIndex_8e157_11 : decode cJ3_checkIndex_8e157 11 = .ok (.iload_n 1, 1) ∧ 11 + 1 = 12 := ⟨by decide +kernel, rfl⟩
set_option maxRecDepth 20000 in
theorem dJ3_checkIndex_8e157_12 : decode cJ3_checkIndex_8e157 12 = .ok (.invokestatic 95, 3) ∧ 12 + 3 = 15 := ⟨by decide +kernel, rfl⟩
set_option maxRecDepth 20000 in
theorem dJ3_checkIndex_8e157_15 : decode cJ3_checkIndex_8e157 15 = .ok (.athrow, 1) := by decide +kernel
set_option maxRecDepth 20000 in
theorem dJ3_checkIndex_8e157_16 : decode cJ3_checkIndex_8e157 16 = .ok (.iload_n 0, 1) ∧ 16 + 1 = 17 := ⟨by decide +kernel, rfl⟩
set_option maxRecDepth 20000 in
theorem dJ3_checkIndex_8e157_17 : decode cJ3_checkIndex_8e157 17 = .ok (.ireturn, 1) := by decide +kernel
