set_option maxRecDepth 20000 in
theorem dX12_init_0 : decode cX12_init 0 = .ok (.aload_n 0, 1) ∧ 0 + 1 = 1 := ⟨by decide +kernel, rfl⟩
set_option maxRecDepth 20000 in
theorem dX12_init_1 : decode cX12_init 1 = .ok (.invokespecial 1, 3) ∧ 1 + 3 = 4 := ⟨by decide +kernel, rfl⟩
set_option maxRecDepth 20000 in
theorem dX12_init_4 : decode cX12_init 4 = .ok (.aload_n 0, 1) ∧ 4 + 1 = 5 := ⟨by decide +kernel, rfl⟩
set_option maxRecDepth 20000 in
theorem dX12_init_5 : decode cX12_init 5 = .ok (.bipush 7, 2) ∧ 5 + 2 = 7 := ⟨by decide +kernel, rfl⟩
set_option maxRecDepth 20000 in
theorem dX12_init_7 : decode cX12_init 7 = .ok (.newarray .int, 2) ∧ 7 + 2 = 9 := ⟨by decide +kernel, rfl⟩
set_option maxRecDepth 20000 in
theorem dX12_init_9 : decode cX12_init 9 = .ok (.putfield 7, 3) ∧ 9 + 3 = 12 := ⟨by decide +kernel, rfl⟩
set_option maxRecDepth 20000 in
theorem dX12_init_12 : decode cX12_init 12 = .ok (.aload_n 0, 1) ∧ 12 + 1 = 13 := ⟨by decide +kernel, rfl⟩
set_option maxRecDepth 20000 in
theorem dX12_init_13 : decode cX12_init 13 = .ok (.sipush 5570, 3) ∧ 13 + 3 = 16 := ⟨by decide +kernel, rfl⟩
set_option maxRecDepth 20000 in
theorem dX12_init_16 : decode cX12_init 16 = .ok (.newarray .int, 2) ∧ 16 + 2 = 18 := ⟨by decide +kernel, rfl⟩
set_option maxRecDepth 20000 in
theorem dX12_init_18 : decode cX12_init 18 = .ok (.putfield 13, 3) ∧ 18 + 3 = 21 := ⟨by decide +kernel, rfl⟩
set_option maxRecDepth 20000 in
theorem dX12_init_21 : decode cX12_init 21 = .ok (.aload_n 0, 1) ∧ 21 + 1 = 22 := ⟨by decide +kernel, rfl⟩
set_option maxRecDepth 20000 in
theorem dX12_init_22 : decode cX12_init 22 = .ok (.sipush 11140, 3) ∧ 22 + 3 = 25 := ⟨by decide +kernel, rfl⟩
set_option maxRecDepth 20000 in
theorem dX12_init_25 : decode cX12_init 25 = .ok (.newarray .int, 2) ∧ 25 + 2 = 27 := ⟨by decide +kernel, rfl⟩
set_option maxRecDepth 20000 in
theorem dX12_init_27 : decode cX12_init 27 = .ok (.putfield 16, 3) ∧ 27 + 3 = 30 := ⟨by decide +kernel, rfl⟩
set_option maxRecDepth 20000 in
theorem dX12_init_30 : decode cX12_init 30 = .ok (.aload_n 0, 1) ∧ 30 + 1 = 31 := ⟨by decide +kernel, rfl⟩
set_option maxRecDepth 20000 in
theorem dX12_init_31 : decode cX12_init 31 = .ok (.iconst 2, 1) ∧ 31 + 1 = 32 := ⟨by decide +kernel, rfl⟩
set_option maxRecDepth 20000 in
theorem dX12_init_32 : decode cX12_init 32 = .ok (.newarray .boolean, 2) ∧ 32 + 2 = 34 := ⟨by decide +kernel, rfl⟩
set_option maxRecDepth 20000 in
theorem dX12_init_34 : decode cX12_init 34 = .ok (.putfield 19, 3) ∧ 34 + 3 = 37 := ⟨by decide +kernel, rfl⟩
set_option maxRecDepth 20000 in
theorem dX12_init_37 : decode cX12_init 37 = .ok (.aload_n 0, 1) ∧ 37 + 1 = 38 := ⟨by decide +kernel, rfl⟩
set_option maxRecDepth 20000 in
theorem dX12_init_38 : decode cX12_init 38 = .ok (.sipush 400, 3) ∧ 38 + 3 = 41 := ⟨by decide +kernel, rfl⟩
set_option maxRecDepth 20000 in
theorem dX12_init_41 : decode cX12_init 41 = .ok (.newarray .int, 2) ∧ 41 + 2 = 43 := ⟨by decide +kernel, rfl⟩
set_option maxRecDepth 20000 in
theorem dX12_init_43 : decode cX12_init 43 = .ok (.putfield 23, 3) ∧ 43 + 3 = 46 := ⟨by decide +kernel, rfl⟩
set_option maxRecDepth 20000 in
theorem dX12_init_46 : decode cX12_init 46 = .ok (.aload_n 0, 1) ∧ 46 + 1 = 47 := ⟨by decide +kernel, rfl⟩
set_option maxRecDepth 20000 in
theorem dX12_init_47 : decode cX12_init 47 = .ok (.iconst (-1), 1) ∧ 47 + 1 = 48 := ⟨by decide +kernel, rfl⟩
set_option maxRecDepth 20000 in
theorem dX12_init_48 : decode cX12_init 48 = .ok (.putfield 26, 3) ∧ 48 + 3 = 51 := ⟨by decide +kernel, rfl⟩
set_option maxRecDepth 20000 in
theorem dX12_init_51 : decode cX12_init 51 = .ok (.aload_n 0, 1) ∧ 51 + 1 = 52 := ⟨by decide +kernel, rfl⟩
set_option maxRecDepth 20000 in
theorem dX12_init_52 : decode cX12_init 52 = .ok (.bipush 96, 2) ∧ 52 + 2 = 54 := ⟨by decide +kernel, rfl⟩
set_option maxRecDepth 20000 in
theorem dX12_init_54 : decode cX12_init 54 = .ok (.newarray .int, 2) ∧ 54 + 2 = 56 := ⟨by decide +kernel, rfl⟩
set_option maxRecDepth 20000 in
theorem dX12_init_56 : decode cX12_init 56 = .ok (.putfield 30, 3) ∧ 56 + 3 = 59 := ⟨by decide +kernel, rfl⟩
set_option maxRecDepth 20000 in
theorem dX12_init_59 : decode cX12_init 59 = .ok (.aload_n 0, 1) ∧ 59 + 1 = 60 := ⟨by decide +kernel, rfl⟩
set_option maxRecDepth 20000 in
theorem dX12_init_60 : decode cX12_init 60 = .ok (.sipush 400, 3) ∧ 60 + 3 = 63 := ⟨by decide +kernel, rfl⟩
set_option maxRecDepth 20000 in
theorem dX12_init_63 : decode cX12_init 63 = .ok (.newarray .int, 2) ∧ 63 + 2 = 65 := ⟨by decide +kernel, rfl⟩
set_option maxRecDepth 20000 in
theorem dX12_init_65 : decode cX12_init 65 = .ok (.putfield 33, 3) ∧ 65 + 3 = 68 := ⟨by decide +kernel, rfl⟩
set_option maxRecDepth 20000 in
theorem dX12_init_68 : decode cX12_init 68 = .ok (.aload_n 0, 1) ∧ 68 + 1 = 69 := ⟨by decide +kernel, rfl⟩
set_option maxRecDepth 20000 in
theorem dX12_init_69 : decode cX12_init 69 = .ok (.sipush 400, 3) ∧ 69 + 3 = 72 := ⟨by decide +kernel, rfl⟩
set_option maxRecDepth 20000 in
theorem dX12_init_72 : decode cX12_init 72 = .ok (.newarray .int, 2) ∧ 72 + 2 = 74 := ⟨by decide +kernel, rfl⟩
set_option maxRecDepth 20000 in
theorem dX12_init_74 : decode cX12_init 74 = .ok (.putfield 36, 3) ∧ 74 + 3 = 77 := ⟨by decide +kernel, rfl⟩
set_option maxRecDepth 20000 in
theorem dX12_init_77 : decode cX12_init 77 = .ok (.aload_n 0, 1) ∧ 77 + 1 = 78 := ⟨by decide +kernel, rfl⟩
set_option maxRecDepth 20000 in
theorem dX12_init_78 : decode cX12_init 78 = .ok (.sipush 400, 3) ∧ 78 + 3 = 81 := ⟨by decide +kernel, rfl⟩
set_option maxRecDepth 20000 in
theorem dX12_init_81 : decode cX12_init 81 = .ok (.newarray .int, 2) ∧ 81 + 2 = 83 := ⟨by decide +kernel, rfl⟩
set_option maxRecDepth 20000 in
theorem dX12_init_83 : decode cX12_init 83 = .ok (.putfield 39, 3) ∧ 83 + 3 = 86 := ⟨by decide +kernel, rfl⟩
set_option maxRecDepth 20000 in
theorem dX12_init_86 : decode cX12_init 86 = .ok (.aload_n 0, 1) ∧ 86 + 1 = 87 := ⟨by decide +kernel, rfl⟩
set_option maxRecDepth 20000 in
theorem dX12_init_87 : decode cX12_init 87 = .ok (.sipush 400, 3) ∧ 87 + 3 = 90 := ⟨by decide +kernel, rfl⟩
set_option maxRecDepth 20000 in
theorem dX12_init_90 : decode cX12_init 90 = .ok (.newarray .int, 2) ∧ 90 + 2 = 92 := ⟨by decide +kernel, rfl⟩
set_option maxRecDepth 20000 in
theorem dX12_init_92 : decode cX12_init 92 = .ok (.putfield 42, 3) ∧ 92 + 3 = 95 := ⟨by decide +kernel, rfl⟩
set_option maxRecDepth 20000 in
theorem dX12_init_95 : decode cX12_init 95 = .ok (.aload_n 0, 1) ∧ 95 + 1 = 96 := ⟨by decide +kernel, rfl⟩
set_option maxRecDepth 20000 in
theorem dX12_init_96 : decode cX12_init 96 = .ok (.bipush 10, 2) ∧ 96 + 2 = 98 := ⟨by decide +kernel, rfl⟩
set_option maxRecDepth 20000 in
theorem dX12_init_98 : decode cX12_init 98 = .ok (.newarray .long, 2) ∧ 98 + 2 = 100 := ⟨by decide +kernel, rfl⟩
set_option maxRecDepth 20000 in
theorem dX12_init_100 : decode cX12_init 100 = .ok (.dup, 1) ∧ 100 + 1 = 101 := ⟨by decide +kernel, rfl⟩
set_option maxRecDepth 20000 in
theorem dX12_init_101 : decode cX12_init 101 = .ok (.iconst 0, 1) ∧ 101 + 1 = 102 := ⟨by decide +kernel, rfl⟩
set_option maxRecDepth 20000 in
theorem dX12_init_102 : decode cX12_init 102 = .ok (.ldc2_w 45, 3) ∧ 102 + 3 = 105 := ⟨by decide +kernel, rfl⟩
set_option maxRecDepth 20000 in
theorem dX12_init_105 : decode cX12_init 105 = .ok (.lastore, 1) ∧ 105 + 1 = 106 := ⟨by decide +kernel, rfl⟩
set_option maxRecDepth 20000 in
theorem dX12_init_106 : decode cX12_init 106 = .ok (.dup, 1) ∧ 106 + 1 = 107 := ⟨by decide +kernel, rfl⟩
set_option maxRecDepth 20000 in
theorem dX12_init_107 : decode cX12_init 107 = .ok (.iconst 1, 1) ∧ 107 + 1 = 108 := ⟨by decide +kernel, rfl⟩
set_option maxRecDepth 20000 in
theorem dX12_init_108 : decode cX12_init 108 = .ok (.ldc2_w 47, 3) ∧ 108 + 3 = 111 := ⟨by decide +kernel, rfl⟩
set_option maxRecDepth 20000 in
theorem dX12_init_111 : decode cX12_init 111 = .ok (.lastore, 1) ∧ 111 + 1 = 112 := ⟨by decide +kernel, rfl⟩
set_option maxRecDepth 20000 in
theorem dX12_init_112 : decode cX12_init 112 = .ok (.dup, 1) ∧ 112 + 1 = 113 := ⟨by decide +kernel, rfl⟩
set_option maxRecDepth 20000 in
theorem dX12_init_113 : decode cX12_init 113 = .ok (.iconst 2, 1) ∧ 113 + 1 = 114 := ⟨by decide +kernel, rfl⟩
set_option maxRecDepth 20000 in
theorem dX12_init_114 : decode cX12_init 114 = .ok (.ldc2_w 49, 3) ∧ 114 + 3 = 117 := ⟨by decide +kernel, rfl⟩
set_option maxRecDepth 20000 in
theorem dX12_init_117 : decode cX12_init 117 = .ok (.lastore, 1) ∧ 117 + 1 = 118 := ⟨by decide +kernel, rfl⟩
set_option maxRecDepth 20000 in
theorem dX12_init_118 : decode cX12_init 118 = .ok (.dup, 1) ∧ 118 + 1 = 119 := ⟨by decide +kernel, rfl⟩
set_option maxRecDepth 20000 in
theorem dX12_init_119 : decode cX12_init 119 = .ok (.iconst 3, 1) ∧ 119 + 1 = 120 := ⟨by decide +kernel, rfl⟩
set_option maxRecDepth 20000 in
theorem dX12_init_120 : decode cX12_init 120 = .ok (.ldc2_w 51, 3) ∧ 120 + 3 = 123 := ⟨by decide +kernel, rfl⟩
set_option maxRecDepth 20000 in
theorem dX12_init_123 : decode cX12_init 123 = .ok (.lastore, 1) ∧ 123 + 1 = 124 := ⟨by decide +kernel, rfl⟩
set_option maxRecDepth 20000 in
theorem dX12_init_124 : decode cX12_init 124 = .ok (.dup, 1) ∧ 124 + 1 = 125 := ⟨by decide +kernel, rfl⟩
set_option maxRecDepth 20000 in
theorem dX12_init_125 : decode cX12_init 125 = .ok (.iconst 4, 1) ∧ 125 + 1 = 126 := ⟨by decide +kernel, rfl⟩
set_option maxRecDepth 20000 in
theorem dX12_init_126 : decode cX12_init 126 = .ok (.ldc2_w 53, 3) ∧ 126 + 3 = 129 := ⟨by decide +kernel, rfl⟩
set_option maxRecDepth 20000 in
theorem dX12_init_129 : decode cX12_init 129 = .ok (.lastore, 1) ∧ 129 + 1 = 130 := ⟨by decide +kernel, rfl⟩
set_option maxRecDepth 20000 in
theorem dX12_init_130 : decode cX12_init 130 = .ok (.dup, 1) ∧ 130 + 1 = 131 := ⟨by decide +kernel, rfl⟩
set_option maxRecDepth 20000 in
theorem dX12_init_131 : decode cX12_init 131 = .ok (.iconst 5, 1) ∧ 131 + 1 = 132 := ⟨by decide +kernel, rfl⟩
set_option maxRecDepth 20000 in
theorem dX12_init_132 : decode cX12_init 132 = .ok (.ldc2_w 55, 3) ∧ 132 + 3 = 135 := ⟨by decide +kernel, rfl⟩
set_option maxRecDepth 20000 in
theorem dX12_init_135 : decode cX12_init 135 = .ok (.lastore, 1) ∧ 135 + 1 = 136 := ⟨by decide +kernel, rfl⟩
set_option maxRecDepth 20000 in
theorem dX12_init_136 : decode cX12_init 136 = .ok (.dup, 1) ∧ 136 + 1 = 137 := ⟨by decide +kernel, rfl⟩
set_option maxRecDepth 20000 in
theorem dX12_init_137 : decode cX12_init 137 = .ok (.bipush 6, 2) ∧ 137 + 2 = 139 := ⟨by decide +kernel, rfl⟩
set_option maxRecDepth 20000 in
theorem dX12_init_139 : decode cX12_init 139 = .ok (.ldc2_w 57, 3) ∧ 139 + 3 = 142 := ⟨by decide +kernel, rfl⟩
set_option maxRecDepth 20000 in
theorem dX12_init_142 : decode cX12_init 142 = .ok (.lastore, 1) ∧ 142 + 1 = 143 := ⟨by decide +kernel, rfl⟩
set_option maxRecDepth 20000 in
theorem dX12_init_143 : decode cX12_init 143 = .ok (.dup, 1) ∧ 143 + 1 = 144 := ⟨by decide +kernel, rfl⟩
set_option maxRecDepth 20000 in
theorem dX12_init_144 : decode cX12_init 144 = .ok (.bipush 7, 2) ∧ 144 + 2 = 146 := ⟨by decide +kernel, rfl⟩
set_option maxRecDepth 20000 in
theorem dX12_init_146 : decode cX12_init 146 = .ok (.ldc2_w 59, 3) ∧ 146 + 3 = 149 := ⟨by decide +kernel, rfl⟩
set_option maxRecDepth 20000 in
theorem dX12_init_149 : decode cX12_init 149 = .ok (.lastore, 1) ∧ 149 + 1 = 150 := ⟨by decide +kernel, rfl⟩
set_option maxRecDepth 20000 in
theorem dX12_init_150 : decode cX12_init 150 = .ok (.dup, 1) ∧ 150 + 1 = 151 := ⟨by decide +kernel, rfl⟩
set_option maxRecDepth 20000 in
theorem dX12_init_151 : decode cX12_init 151 = .ok (.bipush 8, 2) ∧ 151 + 2 = 153 := ⟨by decide +kernel, rfl⟩
set_option maxRecDepth 20000 in
theorem dX12_init_153 : decode cX12_init 153 = .ok (.ldc2_w 61, 3) ∧ 153 + 3 = 156 := ⟨by decide +kernel, rfl⟩
set_option maxRecDepth 20000 in
theorem dX12_init_156 : decode cX12_init 156 = .ok (.lastore, 1) ∧ 156 + 1 = 157 := ⟨by decide +kernel, rfl⟩
set_option maxRecDepth 20000 in
theorem dX12_init_157 : decode cX12_init 157 = .ok (.dup, 1) ∧ 157 + 1 = 158 := ⟨by decide +kernel, rfl⟩
set_option maxRecDepth 20000 in
theorem dX12_init_158 : decode cX12_init 158 = .ok (.bipush 9, 2) ∧ 158 + 2 = 160 := ⟨by decide +kernel, rfl⟩
set_option maxRecDepth 20000 in
theorem dX12_init_160 : decode cX12_init 160 = .ok (.ldc2_w 63, 3) ∧ 160 + 3 = 163 := ⟨by decide +kernel, rfl⟩
set_option maxRecDepth 20000 in
theorem dX12_init_163 : decode cX12_init 163 = .ok (.lastore, 1) ∧ 163 + 1 = 164 := ⟨by decide +kernel, rfl⟩
set_option maxRecDepth 20000 in
theorem dX12_init_164 : decode cX12_init 164 = .ok (.putfield 65, 3) ∧ 164 + 3 = 167 := ⟨by decide +kernel, rfl⟩
set_option maxRecDepth 20000 in
theorem dX12_init_167 : decode cX12_init 167 = .ok (.aload_n 0, 1) ∧ 167 + 1 = 168 := ⟨by decide +kernel, rfl⟩
set_option maxRecDepth 20000 in
theorem dX12_init_168 : decode cX12_init 168 = .ok (.iconst 3, 1) ∧ 168 + 1 = 169 := ⟨by decide +kernel, rfl⟩
set_option maxRecDepth 20000 in
theorem dX12_init_169 : decode cX12_init 169 = .ok (.newarray .long, 2) ∧ 169 + 2 = 171 := ⟨by decide +kernel, rfl⟩
set_option maxRecDepth 20000 in
theorem dX12_init_171 : decode cX12_init 171 = .ok (.dup, 1) ∧ 171 + 1 = 172 := ⟨by decide +kernel, rfl⟩
set_option maxRecDepth 20000 in
theorem dX12_init_172 : decode cX12_init 172 = .ok (.iconst 0, 1) ∧ 172 + 1 = 173 := ⟨by decide +kernel, rfl⟩
set_option maxRecDepth 20000 in
theorem dX12_init_173 : decode cX12_init 173 = .ok (.ldc2_w 69, 3) ∧ 173 + 3 = 176 := ⟨by decide +kernel, rfl⟩
set_option maxRecDepth 20000 in
theorem dX12_init_176 : decode cX12_init 176 = .ok (.lastore, 1) ∧ 176 + 1 = 177 := ⟨by decide +kernel, rfl⟩
set_option maxRecDepth 20000 in
theorem dX12_init_177 : decode cX12_init 177 = .ok (.dup, 1) ∧ 177 + 1 = 178 := ⟨by decide +kernel, rfl⟩
set_option maxRecDepth 20000 in
theorem dX12_init_178 : decode cX12_init 178 = .ok (.iconst 1, 1) ∧ 178 + 1 = 179 := ⟨by decide +kernel, rfl⟩
set_option maxRecDepth 20000 in
theorem dX12_init_179 : decode cX12_init 179 = .ok (.ldc2_w 71, 3) ∧ 179 + 3 = 182 := ⟨by decide +kernel, rfl⟩
set_option maxRecDepth 20000 in
theorem dX12_init_182 : decode cX12_init 182 = .ok (.lastore, 1) ∧ 182 + 1 = 183 := ⟨by decide +kernel, rfl⟩
set_option maxRecDepth 20000 in
theorem dX12_init_183 : decode cX12_init 183 = .ok (.dup, 1) ∧ 183 + 1 = 184 := ⟨by decide +kernel, rfl⟩
set_option maxRecDepth 20000 in
theorem dX12_init_184 : decode cX12_init 184 = .ok (.iconst 2, 1) ∧ 184 + 1 = 185 := ⟨by decide +kernel, rfl⟩
set_option maxRecDepth 20000 in
theorem dX12_init_185 : decode cX12_init 185 = .ok (.ldc2_w 73, 3) ∧ 185 + 3 = 188 := ⟨by decide +kernel, rfl⟩
set_option maxRecDepth 20000 in
theorem dX12_init_188 : decode cX12_init 188 = .ok (.lastore, 1) ∧ 188 + 1 = 189 := ⟨by decide +kernel, rfl⟩
set_option maxRecDepth 20000 in
theorem dX12_init_189 : decode cX12_init 189 = .ok (.putfield 75, 3) ∧ 189 + 3 = 192 := ⟨by decide +kernel, rfl⟩
set_option maxRecDepth 20000 in
theorem dX12_init_192 : decode cX12_init 192 = .ok (.aload_n 0, 1) ∧ 192 + 1 = 193 := ⟨by decide +kernel, rfl⟩
set_option maxRecDepth 20000 in
theorem dX12_init_193 : decode cX12_init 193 = .ok (.bipush 13, 2) ∧ 193 + 2 = 195 := ⟨by decide +kernel, rfl⟩
set_option maxRecDepth 20000 in
theorem dX12_init_195 : decode cX12_init 195 = .ok (.newarray .long, 2) ∧ 195 + 2 = 197 := ⟨by decide +kernel, rfl⟩
set_option maxRecDepth 20000 in
theorem dX12_init_197 : decode cX12_init 197 = .ok (.putfield 78, 3) ∧ 197 + 3 = 200 := ⟨by decide +kernel, rfl⟩
set_option maxRecDepth 20000 in
theorem dX12_init_200 : decode cX12_init 200 = .ok (.aload_n 0, 1) ∧ 200 + 1 = 201 := ⟨by decide +kernel, rfl⟩
set_option maxRecDepth 20000 in
theorem dX12_init_201 : decode cX12_init 201 = .ok (.sipush 400, 3) ∧ 201 + 3 = 204 := ⟨by decide +kernel, rfl⟩
set_option maxRecDepth 20000 in
theorem dX12_init_204 : decode cX12_init 204 = .ok (.newarray .long, 2) ∧ 204 + 2 = 206 := ⟨by decide +kernel, rfl⟩
set_option maxRecDepth 20000 in
theorem dX12_init_206 : decode cX12_init 206 = .ok (.putfield 81, 3) ∧ 206 + 3 = 209 := ⟨by decide +kernel, rfl⟩
set_option maxRecDepth 20000 in
theorem dX12_init_209 : decode cX12_init 209 = .ok (.aload_n 0, 1) ∧ 209 + 1 = 210 := ⟨by decide +kernel, rfl⟩
set_option maxRecDepth 20000 in
theorem dX12_init_210 : decode cX12_init 210 = .ok (.bipush 32, 2) ∧ 210 + 2 = 212 := ⟨by decide +kernel, rfl⟩
set_option maxRecDepth 20000 in
theorem dX12_init_212 : decode cX12_init 212 = .ok (.newarray .int, 2) ∧ 212 + 2 = 214 := ⟨by decide +kernel, rfl⟩
set_option maxRecDepth 20000 in
theorem dX12_init_214 : decode cX12_init 214 = .ok (.putfield 84, 3) ∧ 214 + 3 = 217 := ⟨by decide +kernel, rfl⟩
set_option maxRecDepth 20000 in
theorem dX12_init_217 : decode cX12_init 217 = .ok (.aload_n 0, 1) ∧ 217 + 1 = 218 := ⟨by decide +kernel, rfl⟩
set_option maxRecDepth 20000 in
theorem dX12_init_218 : decode cX12_init 218 = .ok (.bipush 10, 2) ∧ 218 + 2 = 220 := ⟨by decide +kernel, rfl⟩
set_option maxRecDepth 20000 in
theorem dX12_init_220 : decode cX12_init 220 = .ok (.newarray .long, 2) ∧ 220 + 2 = 222 := ⟨by decide +kernel, rfl⟩
set_option maxRecDepth 20000 in
theorem dX12_init_222 : decode cX12_init 222 = .ok (.putfield 87, 3) ∧ 222 + 3 = 225 := ⟨by decide +kernel, rfl⟩
set_option maxRecDepth 20000 in
theorem dX12_init_225 : decode cX12_init 225 = .ok (.aload_n 0, 1) ∧ 225 + 1 = 226 := ⟨by decide +kernel, rfl⟩
set_option maxRecDepth 20000 in
theorem dX12_init_226 : decode cX12_init 226 = .ok (.sipush 512, 3) ∧ 226 + 3 = 229 := ⟨by decide +kernel, rfl⟩
set_option maxRecDepth 20000 in
theorem dX12_init_229 : decode cX12_init 229 = .ok (.newarray .int, 2) ∧ 229 + 2 = 231 := ⟨by decide +kernel, rfl⟩
set_option maxRecDepth 20000 in
theorem dX12_init_231 : decode cX12_init 231 = .ok (.putfield 90, 3) ∧ 231 + 3 = 234 := ⟨by decide +kernel, rfl⟩
set_option maxRecDepth 20000 in
theorem dX12_init_234 : decode cX12_init 234 = .ok (.aload_n 0, 1) ∧ 234 + 1 = 235 := ⟨by decide +kernel, rfl⟩
set_option maxRecDepth 20000 in
theorem dX12_init_235 : decode cX12_init 235 = .ok (.ldc 93, 2) ∧ 235 + 2 = 237 := ⟨by decide +kernel, rfl⟩
set_option maxRecDepth 20000 in
theorem dX12_init_237 : decode cX12_init 237 = .ok (.newarray .long, 2) ∧ 237 + 2 = 239 := ⟨by decide +kernel, rfl⟩
set_option maxRecDepth 20000 in
theorem dX12_init_239 : decode cX12_init 239 = .ok (.putfield 94, 3) ∧ 239 + 3 = 242 := ⟨by decide +kernel, rfl⟩
set_option maxRecDepth 20000 in
theorem dX12_init_242 : decode cX12_init 242 = .ok (.aload_n 0, 1) ∧ 242 + 1 = 243 := ⟨by decide +kernel, rfl⟩
set_option maxRecDepth 20000 in
theorem dX12_init_243 : decode cX12_init 243 = .ok (.bipush 16, 2) ∧ 243 + 2 = 245 := ⟨by decide +kernel, rfl⟩
set_option maxRecDepth 20000 in
theorem dX12_init_245 : decode cX12_init 245 = .ok (.newarray .int, 2) ∧ 245 + 2 = 247 := ⟨by decide +kernel, rfl⟩
set_option maxRecDepth 20000 in
theorem dX12_init_247 : decode cX12_init 247 = .ok (.putfield 97, 3) ∧ 247 + 3 = 250 := ⟨by decide +kernel, rfl⟩
set_option maxRecDepth 20000 in
theorem dX12_init_250 : decode cX12_init 250 = .ok (.aload_n 0, 1) ∧ 250 + 1 = 251 := ⟨by decide +kernel, rfl⟩
set_option maxRecDepth 20000 in
theorem dX12_init_251 : decode cX12_init 251 = .ok (.sipush 256, 3) ∧ 251 + 3 = 254 := ⟨by decide +kernel, rfl⟩
set_option maxRecDepth 20000 in
theorem dX12_init_254 : decode cX12_init 254 = .ok (.newarray .long, 2) ∧ 254 + 2 = 256 := ⟨by decide +kernel, rfl⟩
set_option maxRecDepth 20000 in
theorem dX12_init_256 : decode cX12_init 256 = .ok (.putfield 100, 3) ∧ 256 + 3 = 259 := ⟨by decide +kernel, rfl⟩
set_option maxRecDepth 20000 in
theorem dX12_init_259 : decode cX12_init 259 = .ok (.aload_n 0, 1) ∧ 259 + 1 = 260 := ⟨by decide +kernel, rfl⟩
set_option maxRecDepth 20000 in
theorem dX12_init_260 : decode cX12_init 260 = .ok (.sipush 256, 3) ∧ 260 + 3 = 263 := ⟨by decide +kernel, rfl⟩
set_option maxRecDepth 20000 in
theorem dX12_init_263 : decode cX12_init 263 = .ok (.newarray .long, 2) ∧ 263 + 2 = 265 := ⟨by decide +kernel, rfl⟩
set_option maxRecDepth 20000 in
theorem dX12_init_265 : decode cX12_init 265 = .ok (.putfield 103, 3) ∧ 265 + 3 = 268 := ⟨by decide +kernel, rfl⟩
set_option maxRecDepth 20000 in
theorem dX12_init_268 : decode cX12_init 268 = .ok (.aload_n 0, 1) ∧ 268 + 1 = 269 := ⟨by decide +kernel, rfl⟩
set_option maxRecDepth 20000 in
theorem dX12_init_269 : decode cX12_init 269 = .ok (.iconst (-1), 1) ∧ 269 + 1 = 270 := ⟨by decide +kernel, rfl⟩
set_option maxRecDepth 20000 in
theorem dX12_init_270 : decode cX12_init 270 = .ok (.putfield 106, 3) ∧ 270 + 3 = 273 := ⟨by decide +kernel, rfl⟩
set_option maxRecDepth 20000 in
theorem dX12_init_273 : decode cX12_init 273 = .ok (.aload_n 0, 1) ∧ 273 + 1 = 274 := ⟨by decide +kernel, rfl⟩
set_option maxRecDepth 20000 in
theorem dX12_init_274 : decode cX12_init 274 = .ok (.bipush 100, 2) ∧ 274 + 2 = 276 := ⟨by decide +kernel, rfl⟩
set_option maxRecDepth 20000 in
theorem dX12_init_276 : decode cX12_init 276 = .ok (.newarray .int, 2) ∧ 276 + 2 = 278 := ⟨by decide +kernel, rfl⟩
set_option maxRecDepth 20000 in
theorem dX12_init_278 : decode cX12_init 278 = .ok (.putfield 109, 3) ∧ 278 + 3 = 281 := ⟨by decide +kernel, rfl⟩
set_option maxRecDepth 20000 in
theorem dX12_init_281 : decode cX12_init 281 = .ok (.aload_n 0, 1) ∧ 281 + 1 = 282 := ⟨by decide +kernel, rfl⟩
set_option maxRecDepth 20000 in
theorem dX12_init_282 : decode cX12_init 282 = .ok (.bipush 100, 2) ∧ 282 + 2 = 284 := ⟨by decide +kernel, rfl⟩
set_option maxRecDepth 20000 in
theorem dX12_init_284 : decode cX12_init 284 = .ok (.newarray .int, 2) ∧ 284 + 2 = 286 := ⟨by decide +kernel, rfl⟩
set_option maxRecDepth 20000 in
theorem dX12_init_286 : decode cX12_init 286 = .ok (.putfield 112, 3) ∧ 286 + 3 = 289 := ⟨by decide +kernel, rfl⟩
set_option maxRecDepth 20000 in
theorem dX12_init_289 : decode cX12_init 289 = .ok (.aload_n 0, 1) ∧ 289 + 1 = 290 := ⟨by decide +kernel, rfl⟩
set_option maxRecDepth 20000 in
theorem dX12_init_290 : decode cX12_init 290 = .ok (.bipush 8, 2) ∧ 290 + 2 = 292 := ⟨by decide +kernel, rfl⟩
set_option maxRecDepth 20000 in
theorem dX12_init_292 : decode cX12_init 292 = .ok (.newarray .int, 2) ∧ 292 + 2 = 294 := ⟨by decide +kernel, rfl⟩
set_option maxRecDepth 20000 in
theorem dX12_init_294 : decode cX12_init 294 = .ok (.putfield 115, 3) ∧ 294 + 3 = 297 := ⟨by decide +kernel, rfl⟩
set_option maxRecDepth 20000 in
theorem dX12_init_297 : decode cX12_init 297 = .ok (.aload_n 0, 1) ∧ 297 + 1 = 298 := ⟨by decide +kernel, rfl⟩
set_option maxRecDepth 20000 in
theorem dX12_init_298 : decode cX12_init 298 = .ok (.bipush 8, 2) ∧ 298 + 2 = 300 := ⟨by decide +kernel, rfl⟩
set_option maxRecDepth 20000 in
theorem dX12_init_300 : decode cX12_init 300 = .ok (.newarray .int, 2) ∧ 300 + 2 = 302 := ⟨by decide +kernel, rfl⟩
set_option maxRecDepth 20000 in
theorem dX12_init_302 : decode cX12_init 302 = .ok (.putfield 118, 3) ∧ 302 + 3 = 305 := ⟨by decide +kernel, rfl⟩
set_option maxRecDepth 20000 in
theorem dX12_init_305 : decode cX12_init 305 = .ok (.aload_n 0, 1) ∧ 305 + 1 = 306 := ⟨by decide +kernel, rfl⟩
set_option maxRecDepth 20000 in
theorem dX12_init_306 : decode cX12_init 306 = .ok (.iconst (-1), 1) ∧ 306 + 1 = 307 := ⟨by decide +kernel, rfl⟩
set_option maxRecDepth 20000 in
theorem dX12_init_307 : decode cX12_init 307 = .ok (.putfield 121, 3) ∧ 307 + 3 = 310 := ⟨by decide +kernel, rfl⟩
set_option maxRecDepth 20000 in
theorem dX12_init_310 : decode cX12_init 310 = .ok (.aload_n 0, 1) ∧ 310 + 1 = 311 := ⟨by decide +kernel, rfl⟩
set_option maxRecDepth 20000 in
theorem dX12_init_311 : decode cX12_init 311 = .ok (.getfield 13, 3) ∧ 311 + 3 = 314 := ⟨by decide +kernel, rfl⟩
set_option maxRecDepth 20000 in
theorem dX12_init_314 : decode cX12_init 314 = .ok (.iconst 3, 1) ∧ 314 + 1 = 315 := ⟨by decide +kernel, rfl⟩
set_option maxRecDepth 20000 in
theorem dX12_init_315 : decode cX12_init 315 = .ok (.iconst (-1), 1) ∧ 315 + 1 = 316 := ⟨by decide +kernel, rfl⟩
set_option maxRecDepth 20000 in
theorem dX12_init_316 : decode cX12_init 316 = .ok (.iastore, 1) ∧ 316 + 1 = 317 := ⟨by decide +kernel, rfl⟩
set_option maxRecDepth 20000 in
theorem dX12_init_317 : decode cX12_init 317 = .ok (.aload_n 0, 1) ∧ 317 + 1 = 318 := ⟨by decide +kernel, rfl⟩
set_option maxRecDepth 20000 in
theorem dX12_init_318 : decode cX12_init 318 = .ok (.getfield 13, 3) ∧ 318 + 3 = 321 := ⟨by decide +kernel, rfl⟩
set_option maxRecDepth 20000 in
theorem dX12_init_321 : decode cX12_init 321 = .ok (.iconst 5, 1) ∧ 321 + 1 = 322 := ⟨by decide +kernel, rfl⟩
set_option maxRecDepth 20000 in
theorem dX12_init_322 : decode cX12_init 322 = .ok (.iconst 1, 1) ∧ 322 + 1 = 323 := ⟨by decide +kernel, rfl⟩
set_option maxRecDepth 20000 in
theorem dX12_init_323 : decode cX12_init 323 = .ok (.iastore, 1) ∧ 323 + 1 = 324 := ⟨by decide +kernel, rfl⟩
set_option maxRecDepth 20000 in
theorem dX12_init_324 : decode cX12_init 324 = .ok (.aload_n 0, 1) ∧ 324 + 1 = 325 := ⟨by decide +kernel, rfl⟩
set_option maxRecDepth 20000 in
theorem dX12_init_325 : decode cX12_init 325 = .ok (.getfield 13, 3) ∧ 325 + 3 = 328 := ⟨by decide +kernel, rfl⟩
set_option maxRecDepth 20000 in
theorem dX12_init_328 : decode cX12_init 328 = .ok (.bipush 10, 2) ∧ 328 + 2 = 330 := ⟨by decide +kernel, rfl⟩
set_option maxRecDepth 20000 in
theorem dX12_init_330 : decode cX12_init 330 = .ok (.bipush 50, 2) ∧ 330 + 2 = 332 := ⟨by decide +kernel, rfl⟩
set_option maxRecDepth 20000 in
theorem dX12_init_332 : decode cX12_init 332 = .ok (.iastore, 1) ∧ 332 + 1 = 333 := ⟨by decide +kernel, rfl⟩
set_option maxRecDepth 20000 in
theorem dX12_init_333 : decode cX12_init 333 = .ok (.return_, 1) := by decide +kernel
set_option maxRecDepth 20000 in
theorem dX12_in_0 : decode cX12_in 0 = .ok (.lload_n 0, 1) ∧ 0 + 1 = 1 := ⟨by decide +kernel, rfl⟩
set_option maxRecDepth 20000 in
theorem dX12_in_1 : decode cX12_in 1 = .ok (.lload_n 2, 1) ∧ 1 + 1 = 2 := ⟨by decide +kernel, rfl⟩
set_option maxRecDepth 20000 in
theorem dX12_in_2 : decode cX12_in 2 = .ok (.lcmp, 1) ∧ 2 + 1 = 3 := ⟨by decide +kernel, rfl⟩
set_option maxRecDepth 20000 in
theorem dX12_in_3 : decode cX12_in 3 = .ok (.ifCond .lt 14, 3) ∧ 3 + 3 = 6 ∧ ((3 : Nat) : Int) + (14) = ((17 : Nat) : Int) := ⟨by decide +kernel, rfl, by decide⟩
set_option maxRecDepth 20000 in
theorem dX12_in_6 : decode cX12_in 6 = .ok (.lload_n 0, 1) ∧ 6 + 1 = 7 := ⟨by decide +kernel, rfl⟩
set_option maxRecDepth 20000 in
theorem dX12_in_7 : decode cX12_in 7 = .ok (.lload 4, 2) ∧ 7 + 2 = 9 := ⟨by decide +kernel, rfl⟩
set_option maxRecDepth 20000 in
theorem dX12_in_9 : decode cX12_in 9 = .ok (.lcmp, 1) ∧ 9 + 1 = 10 := ⟨by decide +kernel, rfl⟩
set_option maxRecDepth 20000 in
theorem dX12_in_10 : decode cX12_in 10 = .ok (.ifCond .gt 7, 3) ∧ 10 + 3 = 13 ∧ ((10 : Nat) : Int) + (7) = ((17 : Nat) : Int) := ⟨by decide +kernel, rfl, by decide⟩
set_option maxRecDepth 20000 in
theorem dX12_in_13 : decode cX12_in 13 = .ok (.iconst 1, 1) ∧ 13 + 1 = 14 := ⟨by decide +kernel, rfl⟩
set_option maxRecDepth 20000 in
theorem dX12_in_14 : decode cX12_in 14 = .ok (.goto 4, 3) ∧ ((14 : Nat) : Int) + (4) = ((18 : Nat) : Int) := ⟨by decide +kernel, by decide⟩
set_option maxRecDepth 20000 in
theorem dX12_in_17 : decode cX12_in 17 = .ok (.iconst 0, 1) ∧ 17 + 1 = 18 := ⟨by decide +kernel, rfl⟩
set_option maxRecDepth 20000 in
theorem dX12_in_18 : decode cX12_in 18 = .ok (.ireturn, 1) := by decide +kernel
set_option maxRecDepth 20000 in
theorem dX12_is_0 : decode cX12_is 0 = .ok (.iload_n 0, 1) ∧ 0 + 1 = 1 := ⟨by decide +kernel, rfl⟩
set_option maxRecDepth 20000 in
theorem dX12_is_1 : decode cX12_is 1 = .ok (.iload_n 1, 1) ∧ 1 + 1 = 2 := ⟨by decide +kernel, rfl⟩
set_option maxRecDepth 20000 in
theorem dX12_is_2 : decode cX12_is 2 = .ok (.ishr, 1) ∧ 2 + 1 = 3 := ⟨by decide +kernel, rfl⟩
set_option maxRecDepth 20000 in
theorem dX12_is_3 : decode cX12_is 3 = .ok (.iconst 1, 1) ∧ 3 + 1 = 4 := ⟨by decide +kernel, rfl⟩
set_option maxRecDepth 20000 in
theorem dX12_is_4 : decode cX12_is 4 = .ok (.iand, 1) ∧ 4 + 1 = 5 := ⟨by decide +kernel, rfl⟩
set_option maxRecDepth 20000 in
theorem dX12_is_5 : decode cX12_is 5 = .ok (.iconst 1, 1) ∧ 5 + 1 = 6 := ⟨by decide +kernel, rfl⟩
set_option maxRecDepth 20000 in
theorem dX12_is_6 : decode cX12_is 6 = .ok (.if_icmp .ne 7, 3) ∧ 6 + 3 = 9 ∧ ((6 : Nat) : Int) + (7) = ((13 : Nat) : Int) := ⟨by decide +kernel, rfl, by decide⟩
set_option maxRecDepth 20000 in
theorem dX12_is_9 : decode cX12_is 9 = .ok (.iconst 1, 1) ∧ 9 + 1 = 10 := ⟨by decide +kernel, rfl⟩
set_option maxRecDepth 20000 in
theorem dX12_is_10 : decode cX12_is 10 = .ok (.goto 4, 3) ∧ ((10 : Nat) : Int) + (4) = ((14 : Nat) : Int) := ⟨by decide +kernel, by decide⟩
set_option maxRecDepth 20000 in
theorem dX12_is_13 : decode cX12_is 13 = .ok (.iconst 0, 1) ∧ 13 + 1 = 14 := ⟨by decide +kernel, rfl⟩
set_option maxRecDepth 20000 in
theorem dX12_is_14 : decode cX12_is 14 = .ok (.ireturn, 1) := by decide +kernel
set_option maxRecDepth 20000 in
theorem dX12_bits_0 : decode cX12_bits 0 = .ok (.iconst 0, 1) ∧ 0 + 1 = 1 := ⟨by decide +kernel, rfl⟩
set_option maxRecDepth 20000 in
theorem dX12_bits_1 : decode cX12_bits 1 = .ok (.istore_n 1, 1) ∧ 1 + 1 = 2 := ⟨by decide +kernel, rfl⟩
set_option maxRecDepth 20000 in
theorem dX12_bits_2 : decode cX12_bits 2 = .ok (.iconst 0, 1) ∧ 2 + 1 = 3 := ⟨by decide +kernel, rfl⟩
set_option maxRecDepth 20000 in
theorem dX12_bits_3 : decode cX12_bits 3 = .ok (.istore_n 2, 1) ∧ 3 + 1 = 4 := ⟨by decide +kernel, rfl⟩
set_option maxRecDepth 20000 in
theorem dX12_bits_4 : decode cX12_bits 4 = .ok (.iload_n 2, 1) ∧ 4 + 1 = 5 := ⟨by decide +kernel, rfl⟩
set_option maxRecDepth 20000 in
theorem dX12_bits_5 : decode cX12_bits 5 = .ok (.bipush 8, 2) ∧ 5 + 2 = 7 := ⟨by decide +kernel, rfl⟩
set_option maxRecDepth 20000 in
theorem dX12_bits_7 : decode cX12_bits 7 = .ok (.if_icmp .ge 17, 3) ∧ 7 + 3 = 10 ∧ ((7 : Nat) : Int) + (17) = ((24 : Nat) : Int) := ⟨by decide +kernel, rfl, by decide⟩
set_option maxRecDepth 20000 in
theorem dX12_bits_10 : decode cX12_bits 10 = .ok (.iload_n 1, 1) ∧ 10 + 1 = 11 := ⟨by decide +kernel, rfl⟩
set_option maxRecDepth 20000 in
theorem dX12_bits_11 : decode cX12_bits 11 = .ok (.iload_n 0, 1) ∧ 11 + 1 = 12 := ⟨by decide +kernel, rfl⟩
set_option maxRecDepth 20000 in
theorem dX12_bits_12 : decode cX12_bits 12 = .ok (.iload_n 2, 1) ∧ 12 + 1 = 13 := ⟨by decide +kernel, rfl⟩
set_option maxRecDepth 20000 in
theorem dX12_bits_13 : decode cX12_bits 13 = .ok (.ishr, 1) ∧ 13 + 1 = 14 := ⟨by decide +kernel, rfl⟩
set_option maxRecDepth 20000 in
theorem dX12_bits_14 : decode cX12_bits 14 = .ok (.iconst 1, 1) ∧ 14 + 1 = 15 := ⟨by decide +kernel, rfl⟩
set_option maxRecDepth 20000 in
theorem dX12_bits_15 : decode cX12_bits 15 = .ok (.iand, 1) ∧ 15 + 1 = 16 := ⟨by decide +kernel, rfl⟩
set_option maxRecDepth 20000 in
theorem dX12_bits_16 : decode cX12_bits 16 = .ok (.iadd, 1) ∧ 16 + 1 = 17 := ⟨by decide +kernel, rfl⟩
set_option maxRecDepth 20000 in
theorem dX12_bits_17 : decode cX12_bits 17 = .ok (.istore_n 1, 1) ∧ 17 + 1 = 18 := ⟨by decide +kernel, rfl⟩
set_option maxRecDepth 20000 in
theorem dX12_bits_18 : decode cX12_bits 18 = .ok (.iinc 2 1, 3) ∧ 18 + 3 = 21 := ⟨by decide +kernel, rfl⟩
set_option maxRecDepth 20000 in
theorem dX12_bits_21 : decode cX12_bits 21 = .ok (.goto (-17), 3) ∧ ((21 : Nat) : Int) + (-17) = ((4 : Nat) : Int) := ⟨by decide +kernel, by decide⟩
set_option maxRecDepth 20000 in
theorem dX12_bits_24 : decode cX12_bits 24 = .ok (.iload_n 1, 1) ∧ 24 + 1 = 25 := ⟨by decide +kernel, rfl⟩
set_option maxRecDepth 20000 in
theorem dX12_bits_25 : decode cX12_bits 25 = .ok (.ireturn, 1) := by decide +kernel
set_option maxRecDepth 20000 in
theorem dX12_tell_0 : decode cX12_tell 0 = .ok (.aload_n 0, 1) ∧ 0 + 1 = 1 := ⟨by decide +kernel, rfl⟩
set_option maxRecDepth 20000 in
theorem dX12_tell_1 : decode cX12_tell 1 = .ok (.iload_n 1, 1) ∧ 1 + 1 = 2 := ⟨by decide +kernel, rfl⟩
set_option maxRecDepth 20000 in
theorem dX12_tell_2 : decode cX12_tell 2 = .ok (.ifCond .ge 7, 3) ∧ 2 + 3 = 5 ∧ ((2 : Nat) : Int) + (7) = ((9 : Nat) : Int) := ⟨by decide +kernel, rfl, by decide⟩
set_option maxRecDepth 20000 in
theorem dX12_tell_5 : decode cX12_tell 5 = .ok (.iload_n 1, 1) ∧ 5 + 1 = 6 := ⟨by decide +kernel, rfl⟩
set_option maxRecDepth 20000 in
theorem dX12_tell_6 : decode cX12_tell 6 = .ok (.goto 4, 3) ∧ ((6 : Nat) : Int) + (4) = ((10 : Nat) : Int) := ⟨by decide +kernel, by decide⟩
set_option maxRecDepth 20000 in
theorem dX12_tell_9 : decode cX12_tell 9 = .ok (.iconst 0, 1) ∧ 9 + 1 = 10 := ⟨by decide +kernel, rfl⟩
set_option maxRecDepth 20000 in
theorem dX12_tell_10 : decode cX12_tell 10 = .ok (.putfield 127, 3) ∧ 10 + 3 = 13 := ⟨by decide +kernel, rfl⟩
set_option maxRecDepth 20000 in
theorem dX12_tell_13 : decode cX12_tell 13 = .ok (.iload_n 1, 1) ∧ 13 + 1 = 14 := ⟨by decide +kernel, rfl⟩
set_option maxRecDepth 20000 in
theorem dX12_tell_14 : decode cX12_tell 14 = .ok (.ifCond .ge 14, 3) ∧ 14 + 3 = 17 ∧ ((14 : Nat) : Int) + (14) = ((28 : Nat) : Int) := ⟨by decide +kernel, rfl, by decide⟩
set_option maxRecDepth 20000 in
theorem dX12_tell_17 : decode cX12_tell 17 = .ok (.aload_n 0, 1) ∧ 17 + 1 = 18 := ⟨by decide +kernel, rfl⟩
set_option maxRecDepth 20000 in
theorem dX12_tell_18 : decode cX12_tell 18 = .ok (.getfield 7, 3) ∧ 18 + 3 = 21 := ⟨by decide +kernel, rfl⟩
set_option maxRecDepth 20000 in
theorem dX12_tell_21 : decode cX12_tell 21 = .ok (.iload_n 1, 1) ∧ 21 + 1 = 22 := ⟨by decide +kernel, rfl⟩
set_option maxRecDepth 20000 in
theorem dX12_tell_22 : decode cX12_tell 22 = .ok (.ineg, 1) ∧ 22 + 1 = 23 := ⟨by decide +kernel, rfl⟩
set_option maxRecDepth 20000 in
theorem dX12_tell_23 : decode cX12_tell 23 = .ok (.dup2, 1) ∧ 23 + 1 = 24 := ⟨by decide +kernel, rfl⟩
set_option maxRecDepth 20000 in
theorem dX12_tell_24 : decode cX12_tell 24 = .ok (.iaload, 1) ∧ 24 + 1 = 25 := ⟨by decide +kernel, rfl⟩
set_option maxRecDepth 20000 in
theorem dX12_tell_25 : decode cX12_tell 25 = .ok (.iconst 1, 1) ∧ 25 + 1 = 26 := ⟨by decide +kernel, rfl⟩
set_option maxRecDepth 20000 in
theorem dX12_tell_26 : decode cX12_tell 26 = .ok (.iadd, 1) ∧ 26 + 1 = 27 := ⟨by decide +kernel, rfl⟩
set_option maxRecDepth 20000 in
theorem dX12_tell_27 : decode cX12_tell 27 = .ok (.iastore, 1) ∧ 27 + 1 = 28 := ⟨by decide +kernel, rfl⟩
set_option maxRecDepth 20000 in
theorem dX12_tell_28 : decode cX12_tell 28 = .ok (.iload_n 1, 1) ∧ 28 + 1 = 29 := ⟨by decide +kernel, rfl⟩
set_option maxRecDepth 20000 in
theorem dX12_tell_29 : decode cX12_tell 29 = .ok (.ireturn, 1) := by decide +kernel
set_option maxRecDepth 20000 in
theorem dX12_was_0 : decode cX12_was 0 = .ok (.aload_n 0, 1) ∧ 0 + 1 = 1 := ⟨by decide +kernel, rfl⟩
set_option maxRecDepth 20000 in
theorem dX12_was_1 : decode cX12_was 1 = .ok (.iconst 0, 1) ∧ 1 + 1 = 2 := ⟨by decide +kernel, rfl⟩
set_option maxRecDepth 20000 in
theorem dX12_was_2 : decode cX12_was 2 = .ok (.putfield 127, 3) ∧ 2 + 3 = 5 := ⟨by decide +kernel, rfl⟩
set_option maxRecDepth 20000 in
theorem dX12_was_5 : decode cX12_was 5 = .ok (.iload_n 1, 1) ∧ 5 + 1 = 6 := ⟨by decide +kernel, rfl⟩
set_option maxRecDepth 20000 in
theorem dX12_was_6 : decode cX12_was 6 = .ok (.ireturn, 1) := by decide +kernel
set_option maxRecDepth 20000 in
theorem dX12_change_0 : decode cX12_change 0 = .ok (.aload_n 0, 1) ∧ 0 + 1 = 1 := ⟨by decide +kernel, rfl⟩
set_option maxRecDepth 20000 in
theorem dX12_change_1 : decode cX12_change 1 = .ok (.getfield 13, 3) ∧ 1 + 3 = 4 := ⟨by decide +kernel, rfl⟩
set_option maxRecDepth 20000 in
theorem dX12_change_4 : decode cX12_change 4 = .ok (.iload_n 1, 1) ∧ 4 + 1 = 5 := ⟨by decide +kernel, rfl⟩
set_option maxRecDepth 20000 in
theorem dX12_change_5 : decode cX12_change 5 = .ok (.iaload, 1) ∧ 5 + 1 = 6 := ⟨by decide +kernel, rfl⟩
set_option maxRecDepth 20000 in
theorem dX12_change_6 : decode cX12_change 6 = .ok (.istore_n 3, 1) ∧ 6 + 1 = 7 := ⟨by decide +kernel, rfl⟩
set_option maxRecDepth 20000 in
theorem dX12_change_7 : decode cX12_change 7 = .ok (.aload_n 0, 1) ∧ 7 + 1 = 8 := ⟨by decide +kernel, rfl⟩
set_option maxRecDepth 20000 in
theorem dX12_change_8 : decode cX12_change 8 = .ok (.getfield 13, 3) ∧ 8 + 3 = 11 := ⟨by decide +kernel, rfl⟩
set_option maxRecDepth 20000 in
theorem dX12_change_11 : decode cX12_change 11 = .ok (.iload_n 1, 1) ∧ 11 + 1 = 12 := ⟨by decide +kernel, rfl⟩
set_option maxRecDepth 20000 in
theorem dX12_change_12 : decode cX12_change 12 = .ok (.iload_n 2, 1) ∧ 12 + 1 = 13 := ⟨by decide +kernel, rfl⟩
set_option maxRecDepth 20000 in
theorem dX12_change_13 : decode cX12_change 13 = .ok (.iastore, 1) ∧ 13 + 1 = 14 := ⟨by decide +kernel, rfl⟩
set_option maxRecDepth 20000 in
theorem dX12_change_14 : decode cX12_change 14 = .ok (.aload_n 0, 1) ∧ 14 + 1 = 15 := ⟨by decide +kernel, rfl⟩
set_option maxRecDepth 20000 in
theorem dX12_change_15 : decode cX12_change 15 = .ok (.iload_n 3, 1) ∧ 15 + 1 = 16 := ⟨by decide +kernel, rfl⟩
set_option maxRecDepth 20000 in
theorem dX12_change_16 : decode cX12_change 16 = .ok (.invokevirtual 130, 3) ∧ 16 + 3 = 19 := ⟨by decide +kernel, rfl⟩
set_option maxRecDepth 20000 in
theorem dX12_change_19 : decode cX12_change 19 = .ok (.ireturn, 1) := by decide +kernel
set_option maxRecDepth 20000 in
theorem dX12_image_0 : decode cX12_image 0 = .ok (.aload_n 0, 1) ∧ 0 + 1 = 1 := ⟨by decide +kernel, rfl⟩
set_option maxRecDepth 20000 in
theorem dX12_image_1 : decode cX12_image 1 = .ok (.iconst 0, 1) ∧ 1 + 1 = 2 := ⟨by decide +kernel, rfl⟩
set_option maxRecDepth 20000 in
theorem dX12_image_2 : decode cX12_image 2 = .ok (.putfield 124, 3) ∧ 2 + 3 = 5 := ⟨by decide +kernel, rfl⟩
set_option maxRecDepth 20000 in
theorem dX12_image_5 : decode cX12_image 5 = .ok (.iload_n 1, 1) ∧ 5 + 1 = 6 := ⟨by decide +kernel, rfl⟩
set_option maxRecDepth 20000 in
theorem dX12_image_6 : decode cX12_image 6 = .ok (.i2l, 1) ∧ 6 + 1 = 7 := ⟨by decide +kernel, rfl⟩
set_option maxRecDepth 20000 in
theorem dX12_image_7 : decode cX12_image 7 = .ok (.lconst 0, 1) ∧ 7 + 1 = 8 := ⟨by decide +kernel, rfl⟩
set_option maxRecDepth 20000 in
theorem dX12_image_8 : decode cX12_image 8 = .ok (.lconst 1, 1) ∧ 8 + 1 = 9 := ⟨by decide +kernel, rfl⟩
set_option maxRecDepth 20000 in
theorem dX12_image_9 : decode cX12_image 9 = .ok (.invokestatic 134, 3) ∧ 9 + 3 = 12 := ⟨by decide +kernel, rfl⟩
set_option maxRecDepth 20000 in
theorem dX12_image_12 : decode cX12_image 12 = .ok (.ifCond .ne 9, 3) ∧ 12 + 3 = 15 ∧ ((12 : Nat) : Int) + (9) = ((21 : Nat) : Int) := ⟨by decide +kernel, rfl, by decide⟩
set_option maxRecDepth 20000 in
theorem dX12_image_15 : decode cX12_image 15 = .ok (.aload_n 0, 1) ∧ 15 + 1 = 16 := ⟨by decide +kernel, rfl⟩
set_option maxRecDepth 20000 in
theorem dX12_image_16 : decode cX12_image 16 = .ok (.iconst (-1), 1) ∧ 16 + 1 = 17 := ⟨by decide +kernel, rfl⟩
set_option maxRecDepth 20000 in
theorem dX12_image_17 : decode cX12_image 17 = .ok (.invokevirtual 138, 3) ∧ 17 + 3 = 20 := ⟨by decide +kernel, rfl⟩
set_option maxRecDepth 20000 in
theorem dX12_image_20 : decode cX12_image 20 = .ok (.ireturn, 1) := by decide +kernel
set_option maxRecDepth 20000 in
theorem dX12_image_21 : decode cX12_image 21 = .ok (.iconst 0, 1) ∧ 21 + 1 = 22 := ⟨by decide +kernel, rfl⟩
set_option maxRecDepth 20000 in
theorem dX12_image_22 : decode cX12_image 22 = .ok (.istore_n 2, 1) ∧ 22 + 1 = 23 := ⟨by decide +kernel, rfl⟩
set_option maxRecDepth 20000 in
theorem dX12_image_23 : decode cX12_image 23 = .ok (.iload_n 2, 1) ∧ 23 + 1 = 24 := ⟨by decide +kernel, rfl⟩
set_option maxRecDepth 20000 in
theorem dX12_image_24 : decode cX12_image 24 = .ok (.sipush 5570, 3) ∧ 24 + 3 = 27 := ⟨by decide +kernel, rfl⟩
set_option maxRecDepth 20000 in
theorem dX12_image_27 : decode cX12_image 27 = .ok (.if_icmp .ge 27, 3) ∧ 27 + 3 = 30 ∧ ((27 : Nat) : Int) + (27) = ((54 : Nat) : Int) := ⟨by decide +kernel, rfl, by decide⟩
set_option maxRecDepth 20000 in
theorem dX12_image_30 : decode cX12_image 30 = .ok (.aload_n 0, 1) ∧ 30 + 1 = 31 := ⟨by decide +kernel, rfl⟩
set_option maxRecDepth 20000 in
theorem dX12_image_31 : decode cX12_image 31 = .ok (.getfield 16, 3) ∧ 31 + 3 = 34 := ⟨by decide +kernel, rfl⟩
set_option maxRecDepth 20000 in
theorem dX12_image_34 : decode cX12_image 34 = .ok (.sipush 5570, 3) ∧ 34 + 3 = 37 := ⟨by decide +kernel, rfl⟩
set_option maxRecDepth 20000 in
theorem dX12_image_37 : decode cX12_image 37 = .ok (.iload_n 1, 1) ∧ 37 + 1 = 38 := ⟨by decide +kernel, rfl⟩
set_option maxRecDepth 20000 in
theorem dX12_image_38 : decode cX12_image 38 = .ok (.imul, 1) ∧ 38 + 1 = 39 := ⟨by decide +kernel, rfl⟩
set_option maxRecDepth 20000 in
theorem dX12_image_39 : decode cX12_image 39 = .ok (.iload_n 2, 1) ∧ 39 + 1 = 40 := ⟨by decide +kernel, rfl⟩
set_option maxRecDepth 20000 in
theorem dX12_image_40 : decode cX12_image 40 = .ok (.iadd, 1) ∧ 40 + 1 = 41 := ⟨by decide +kernel, rfl⟩
set_option maxRecDepth 20000 in
theorem dX12_image_41 : decode cX12_image 41 = .ok (.aload_n 0, 1) ∧ 41 + 1 = 42 := ⟨by decide +kernel, rfl⟩
set_option maxRecDepth 20000 in
theorem dX12_image_42 : decode cX12_image 42 = .ok (.getfield 13, 3) ∧ 42 + 3 = 45 := ⟨by decide +kernel, rfl⟩
set_option maxRecDepth 20000 in
theorem dX12_image_45 : decode cX12_image 45 = .ok (.iload_n 2, 1) ∧ 45 + 1 = 46 := ⟨by decide +kernel, rfl⟩
set_option maxRecDepth 20000 in
theorem dX12_image_46 : decode cX12_image 46 = .ok (.iaload, 1) ∧ 46 + 1 = 47 := ⟨by decide +kernel, rfl⟩
set_option maxRecDepth 20000 in
theorem dX12_image_47 : decode cX12_image 47 = .ok (.iastore, 1) ∧ 47 + 1 = 48 := ⟨by decide +kernel, rfl⟩
set_option maxRecDepth 20000 in
theorem dX12_image_48 : decode cX12_image 48 = .ok (.iinc 2 1, 3) ∧ 48 + 3 = 51 := ⟨by decide +kernel, rfl⟩
set_option maxRecDepth 20000 in
theorem dX12_image_51 : decode cX12_image 51 = .ok (.goto (-28), 3) ∧ ((51 : Nat) : Int) + (-28) = ((23 : Nat) : Int) := ⟨by decide +kernel, by decide⟩
set_option maxRecDepth 20000 in
theorem dX12_image_54 : decode cX12_image 54 = .ok (.aload_n 0, 1) ∧ 54 + 1 = 55 := ⟨by decide +kernel, rfl⟩
set_option maxRecDepth 20000 in
theorem dX12_image_55 : decode cX12_image 55 = .ok (.getfield 19, 3) ∧ 55 + 3 = 58 := ⟨by decide +kernel, rfl⟩
set_option maxRecDepth 20000 in
theorem dX12_image_58 : decode cX12_image 58 = .ok (.iload_n 1, 1) ∧ 58 + 1 = 59 := ⟨by decide +kernel, rfl⟩
set_option maxRecDepth 20000 in
theorem dX12_image_59 : decode cX12_image 59 = .ok (.iconst 1, 1) ∧ 59 + 1 = 60 := ⟨by decide +kernel, rfl⟩
set_option maxRecDepth 20000 in
theorem dX12_image_60 : decode cX12_image 60 = .ok (.bastore, 1) ∧ 60 + 1 = 61 := ⟨by decide +kernel, rfl⟩
set_option maxRecDepth 20000 in
theorem dX12_image_61 : decode cX12_image 61 = .ok (.aload_n 0, 1) ∧ 61 + 1 = 62 := ⟨by decide +kernel, rfl⟩
set_option maxRecDepth 20000 in
theorem dX12_image_62 : decode cX12_image 62 = .ok (.iconst 0, 1) ∧ 62 + 1 = 63 := ⟨by decide +kernel, rfl⟩
set_option maxRecDepth 20000 in
theorem dX12_image_63 : decode cX12_image 63 = .ok (.invokevirtual 138, 3) ∧ 63 + 3 = 66 := ⟨by decide +kernel, rfl⟩
set_option maxRecDepth 20000 in
theorem dX12_image_66 : decode cX12_image 66 = .ok (.ireturn, 1) := by decide +kernel
set_option maxRecDepth 20000 in
theorem dX12_back_0 : decode cX12_back 0 = .ok (.aload_n 0, 1) ∧ 0 + 1 = 1 := ⟨by decide +kernel, rfl⟩
set_option maxRecDepth 20000 in
theorem dX12_back_1 : decode cX12_back 1 = .ok (.iconst 0, 1) ∧ 1 + 1 = 2 := ⟨by decide +kernel, rfl⟩
set_option maxRecDepth 20000 in
theorem dX12_back_2 : decode cX12_back 2 = .ok (.putfield 124, 3) ∧ 2 + 3 = 5 := ⟨by decide +kernel, rfl⟩
set_option maxRecDepth 20000 in
theorem dX12_back_5 : decode cX12_back 5 = .ok (.iload_n 1, 1) ∧ 5 + 1 = 6 := ⟨by decide +kernel, rfl⟩
set_option maxRecDepth 20000 in
theorem dX12_back_6 : decode cX12_back 6 = .ok (.i2l, 1) ∧ 6 + 1 = 7 := ⟨by decide +kernel, rfl⟩
set_option maxRecDepth 20000 in
theorem dX12_back_7 : decode cX12_back 7 = .ok (.lconst 0, 1) ∧ 7 + 1 = 8 := ⟨by decide +kernel, rfl⟩
set_option maxRecDepth 20000 in
theorem dX12_back_8 : decode cX12_back 8 = .ok (.lconst 1, 1) ∧ 8 + 1 = 9 := ⟨by decide +kernel, rfl⟩
set_option maxRecDepth 20000 in
theorem dX12_back_9 : decode cX12_back 9 = .ok (.invokestatic 134, 3) ∧ 9 + 3 = 12 := ⟨by decide +kernel, rfl⟩
set_option maxRecDepth 20000 in
theorem dX12_back_12 : decode cX12_back 12 = .ok (.ifCond .ne 9, 3) ∧ 12 + 3 = 15 ∧ ((12 : Nat) : Int) + (9) = ((21 : Nat) : Int) := ⟨by decide +kernel, rfl, by decide⟩
set_option maxRecDepth 20000 in
theorem dX12_back_15 : decode cX12_back 15 = .ok (.aload_n 0, 1) ∧ 15 + 1 = 16 := ⟨by decide +kernel, rfl⟩
set_option maxRecDepth 20000 in
theorem dX12_back_16 : decode cX12_back 16 = .ok (.iconst (-1), 1) ∧ 16 + 1 = 17 := ⟨by decide +kernel, rfl⟩
set_option maxRecDepth 20000 in
theorem dX12_back_17 : decode cX12_back 17 = .ok (.invokevirtual 138, 3) ∧ 17 + 3 = 20 := ⟨by decide +kernel, rfl⟩
set_option maxRecDepth 20000 in
theorem dX12_back_20 : decode cX12_back 20 = .ok (.ireturn, 1) := by decide +kernel
set_option maxRecDepth 20000 in
theorem dX12_back_21 : decode cX12_back 21 = .ok (.aload_n 0, 1) ∧ 21 + 1 = 22 := ⟨by decide +kernel, rfl⟩
set_option maxRecDepth 20000 in
theorem dX12_back_22 : decode cX12_back 22 = .ok (.getfield 19, 3) ∧ 22 + 3 = 25 := ⟨by decide +kernel, rfl⟩
set_option maxRecDepth 20000 in
theorem dX12_back_25 : decode cX12_back 25 = .ok (.iload_n 1, 1) ∧ 25 + 1 = 26 := ⟨by decide +kernel, rfl⟩
set_option maxRecDepth 20000 in
theorem dX12_back_26 : decode cX12_back 26 = .ok (.baload, 1) ∧ 26 + 1 = 27 := ⟨by decide +kernel, rfl⟩
set_option maxRecDepth 20000 in
theorem dX12_back_27 : decode cX12_back 27 = .ok (.ifCond .ne 10, 3) ∧ 27 + 3 = 30 ∧ ((27 : Nat) : Int) + (10) = ((37 : Nat) : Int) := ⟨by decide +kernel, rfl, by decide⟩
set_option maxRecDepth 20000 in
theorem dX12_back_30 : decode cX12_back 30 = .ok (.aload_n 0, 1) ∧ 30 + 1 = 31 := ⟨by decide +kernel, rfl⟩
set_option maxRecDepth 20000 in
theorem dX12_back_31 : decode cX12_back 31 = .ok (.bipush (-2), 2) ∧ 31 + 2 = 33 := ⟨by decide +kernel, rfl⟩
set_option maxRecDepth 20000 in
theorem dX12_back_33 : decode cX12_back 33 = .ok (.invokevirtual 138, 3) ∧ 33 + 3 = 36 := ⟨by decide +kernel, rfl⟩
set_option maxRecDepth 20000 in
theorem dX12_back_36 : decode cX12_back 36 = .ok (.ireturn, 1) := by decide +kernel
set_option maxRecDepth 20000 in
theorem dX12_back_37 : decode cX12_back 37 = .ok (.iconst 0, 1) ∧ 37 + 1 = 38 := ⟨by decide +kernel, rfl⟩
set_option maxRecDepth 20000 in
theorem dX12_back_38 : decode cX12_back 38 = .ok (.istore_n 2, 1) ∧ 38 + 1 = 39 := ⟨by decide +kernel, rfl⟩
set_option maxRecDepth 20000 in
theorem dX12_back_39 : decode cX12_back 39 = .ok (.iload_n 2, 1) ∧ 39 + 1 = 40 := ⟨by decide +kernel, rfl⟩
set_option maxRecDepth 20000 in
theorem dX12_back_40 : decode cX12_back 40 = .ok (.sipush 5570, 3) ∧ 40 + 3 = 43 := ⟨by decide +kernel, rfl⟩
set_option maxRecDepth 20000 in
theorem dX12_back_43 : decode cX12_back 43 = .ok (.if_icmp .ge 27, 3) ∧ 43 + 3 = 46 ∧ ((43 : Nat) : Int) + (27) = ((70 : Nat) : Int) := ⟨by decide +kernel, rfl, by decide⟩
set_option maxRecDepth 20000 in
theorem dX12_back_46 : decode cX12_back 46 = .ok (.aload_n 0, 1) ∧ 46 + 1 = 47 := ⟨by decide +kernel, rfl⟩
set_option maxRecDepth 20000 in
theorem dX12_back_47 : decode cX12_back 47 = .ok (.getfield 13, 3) ∧ 47 + 3 = 50 := ⟨by decide +kernel, rfl⟩
set_option maxRecDepth 20000 in
theorem dX12_back_50 : decode cX12_back 50 = .ok (.iload_n 2, 1) ∧ 50 + 1 = 51 := ⟨by decide +kernel, rfl⟩
set_option maxRecDepth 20000 in
theorem dX12_back_51 : decode cX12_back 51 = .ok (.aload_n 0, 1) ∧ 51 + 1 = 52 := ⟨by decide +kernel, rfl⟩
set_option maxRecDepth 20000 in
theorem dX12_back_52 : decode cX12_back 52 = .ok (.getfield 16, 3) ∧ 52 + 3 = 55 := ⟨by decide +kernel, rfl⟩
set_option maxRecDepth 20000 in
theorem dX12_back_55 : decode cX12_back 55 = .ok (.sipush 5570, 3) ∧ 55 + 3 = 58 := ⟨by decide +kernel, rfl⟩
set_option maxRecDepth 20000 in
theorem dX12_back_58 : decode cX12_back 58 = .ok (.iload_n 1, 1) ∧ 58 + 1 = 59 := ⟨by decide +kernel, rfl⟩
set_option maxRecDepth 20000 in
theorem dX12_back_59 : decode cX12_back 59 = .ok (.imul, 1) ∧ 59 + 1 = 60 := ⟨by decide +kernel, rfl⟩
set_option maxRecDepth 20000 in
theorem dX12_back_60 : decode cX12_back 60 = .ok (.iload_n 2, 1) ∧ 60 + 1 = 61 := ⟨by decide +kernel, rfl⟩
set_option maxRecDepth 20000 in
theorem dX12_back_61 : decode cX12_back 61 = .ok (.iadd, 1) ∧ 61 + 1 = 62 := ⟨by decide +kernel, rfl⟩
set_option maxRecDepth 20000 in
theorem dX12_back_62 : decode cX12_back 62 = .ok (.iaload, 1) ∧ 62 + 1 = 63 := ⟨by decide +kernel, rfl⟩
set_option maxRecDepth 20000 in
theorem dX12_back_63 : decode cX12_back 63 = .ok (.iastore, 1) ∧ 63 + 1 = 64 := ⟨by decide +kernel, rfl⟩
set_option maxRecDepth 20000 in
theorem dX12_back_64 : decode cX12_back 64 = .ok (.iinc 2 1, 3) ∧ 64 + 3 = 67 := ⟨by decide +kernel, rfl⟩
set_option maxRecDepth 20000 in
theorem dX12_back_67 : decode cX12_back 67 = .ok (.goto (-28), 3) ∧ ((67 : Nat) : Int) + (-28) = ((39 : Nat) : Int) := ⟨by decide +kernel, by decide⟩
set_option maxRecDepth 20000 in
theorem dX12_back_70 : decode cX12_back 70 = .ok (.aload_n 0, 1) ∧ 70 + 1 = 71 := ⟨by decide +kernel, rfl⟩
set_option maxRecDepth 20000 in
theorem dX12_back_71 : decode cX12_back 71 = .ok (.iconst 0, 1) ∧ 71 + 1 = 72 := ⟨by decide +kernel, rfl⟩
set_option maxRecDepth 20000 in
theorem dX12_back_72 : decode cX12_back 72 = .ok (.invokevirtual 138, 3) ∧ 72 + 3 = 75 := ⟨by decide +kernel, rfl⟩
set_option maxRecDepth 20000 in
theorem dX12_back_75 : decode cX12_back 75 = .ok (.ireturn, 1) := by decide +kernel
set_option maxRecDepth 20000 in
theorem dX12_isBeast_0 : decode cX12_isBeast 0 = .ok (.iload_n 1, 1) ∧ 0 + 1 = 1 := ⟨by decide +kernel, rfl⟩
set_option maxRecDepth 20000 in
theorem dX12_isBeast_1 : decode cX12_isBeast 1 = .ok (.i2l, 1) ∧ 1 + 1 = 2 := ⟨by decide +kernel, rfl⟩
set_option maxRecDepth 20000 in
theorem dX12_isBeast_2 : decode cX12_isBeast 2 = .ok (.lconst 0, 1) ∧ 2 + 1 = 3 := ⟨by decide +kernel, rfl⟩
set_option maxRecDepth 20000 in
theorem dX12_isBeast_3 : decode cX12_isBeast 3 = .ok (.aload_n 0, 1) ∧ 3 + 1 = 4 := ⟨by decide +kernel, rfl⟩
set_option maxRecDepth 20000 in
theorem dX12_isBeast_4 : decode cX12_isBeast 4 = .ok (.getfield 13, 3) ∧ 4 + 3 = 7 := ⟨by decide +kernel, rfl⟩
set_option maxRecDepth 20000 in
theorem dX12_isBeast_7 : decode cX12_isBeast 7 = .ok (.iconst 0, 1) ∧ 7 + 1 = 8 := ⟨by decide +kernel, rfl⟩
set_option maxRecDepth 20000 in
theorem dX12_isBeast_8 : decode cX12_isBeast 8 = .ok (.iaload, 1) ∧ 8 + 1 = 9 := ⟨by decide +kernel, rfl⟩
set_option maxRecDepth 20000 in
theorem dX12_isBeast_9 : decode cX12_isBeast 9 = .ok (.i2l, 1) ∧ 9 + 1 = 10 := ⟨by decide +kernel, rfl⟩
set_option maxRecDepth 20000 in
theorem dX12_isBeast_10 : decode cX12_isBeast 10 = .ok (.lconst 1, 1) ∧ 10 + 1 = 11 := ⟨by decide +kernel, rfl⟩
set_option maxRecDepth 20000 in
theorem dX12_isBeast_11 : decode cX12_isBeast 11 = .ok (.lsub, 1) ∧ 11 + 1 = 12 := ⟨by decide +kernel, rfl⟩
set_option maxRecDepth 20000 in
theorem dX12_isBeast_12 : decode cX12_isBeast 12 = .ok (.invokestatic 134, 3) ∧ 12 + 3 = 15 := ⟨by decide +kernel, rfl⟩
set_option maxRecDepth 20000 in
theorem dX12_isBeast_15 : decode cX12_isBeast 15 = .ok (.ireturn, 1) := by decide +kernel
set_option maxRecDepth 20000 in
theorem dX12_isHour_0 : decode cX12_isHour 0 = .ok (.iload_n 0, 1) ∧ 0 + 1 = 1 := ⟨by decide +kernel, rfl⟩
set_option maxRecDepth 20000 in
theorem dX12_isHour_1 : decode cX12_isHour 1 = .ok (.i2l, 1) ∧ 1 + 1 = 2 := ⟨by decide +kernel, rfl⟩
set_option maxRecDepth 20000 in
theorem dX12_isHour_2 : decode cX12_isHour 2 = .ok (.lconst 0, 1) ∧ 2 + 1 = 3 := ⟨by decide +kernel, rfl⟩
set_option maxRecDepth 20000 in
theorem dX12_isHour_3 : decode cX12_isHour 3 = .ok (.ldc2_w 141, 3) ∧ 3 + 3 = 6 := ⟨by decide +kernel, rfl⟩
set_option maxRecDepth 20000 in
theorem dX12_isHour_6 : decode cX12_isHour 6 = .ok (.invokestatic 134, 3) ∧ 6 + 3 = 9 := ⟨by decide +kernel, rfl⟩
set_option maxRecDepth 20000 in
theorem dX12_isHour_9 : decode cX12_isHour 9 = .ok (.ireturn, 1) := by decide +kernel
set_option maxRecDepth 20000 in
theorem dX12_isSide_0 : decode cX12_isSide 0 = .ok (.iload_n 0, 1) ∧ 0 + 1 = 1 := ⟨by decide +kernel, rfl⟩
set_option maxRecDepth 20000 in
theorem dX12_isSide_1 : decode cX12_isSide 1 = .ok (.i2l, 1) ∧ 1 + 1 = 2 := ⟨by decide +kernel, rfl⟩
set_option maxRecDepth 20000 in
theorem dX12_isSide_2 : decode cX12_isSide 2 = .ok (.lconst 0, 1) ∧ 2 + 1 = 3 := ⟨by decide +kernel, rfl⟩
set_option maxRecDepth 20000 in
theorem dX12_isSide_3 : decode cX12_isSide 3 = .ok (.lconst 1, 1) ∧ 3 + 1 = 4 := ⟨by decide +kernel, rfl⟩
set_option maxRecDepth 20000 in
theorem dX12_isSide_4 : decode cX12_isSide 4 = .ok (.invokestatic 134, 3) ∧ 4 + 3 = 7 := ⟨by decide +kernel, rfl⟩
set_option maxRecDepth 20000 in
theorem dX12_isSide_7 : decode cX12_isSide 7 = .ok (.ireturn, 1) := by decide +kernel
set_option maxRecDepth 20000 in
theorem dX12_ofBeast_0 : decode cX12_ofBeast 0 = .ok (.aload_n 0, 1) ∧ 0 + 1 = 1 := ⟨by decide +kernel, rfl⟩
set_option maxRecDepth 20000 in
theorem dX12_ofBeast_1 : decode cX12_ofBeast 1 = .ok (.getfield 13, 3) ∧ 1 + 3 = 4 := ⟨by decide +kernel, rfl⟩
set_option maxRecDepth 20000 in
theorem dX12_ofBeast_4 : decode cX12_ofBeast 4 = .ok (.bipush 12, 2) ∧ 4 + 2 = 6 := ⟨by decide +kernel, rfl⟩
set_option maxRecDepth 20000 in
theorem dX12_ofBeast_6 : decode cX12_ofBeast 6 = .ok (.bipush 6, 2) ∧ 6 + 2 = 8 := ⟨by decide +kernel, rfl⟩
set_option maxRecDepth 20000 in
theorem dX12_ofBeast_8 : decode cX12_ofBeast 8 = .ok (.iload_n 1, 1) ∧ 8 + 1 = 9 := ⟨by decide +kernel, rfl⟩
set_option maxRecDepth 20000 in
theorem dX12_ofBeast_9 : decode cX12_ofBeast 9 = .ok (.imul, 1) ∧ 9 + 1 = 10 := ⟨by decide +kernel, rfl⟩
set_option maxRecDepth 20000 in
theorem dX12_ofBeast_10 : decode cX12_ofBeast 10 = .ok (.iadd, 1) ∧ 10 + 1 = 11 := ⟨by decide +kernel, rfl⟩
set_option maxRecDepth 20000 in
theorem dX12_ofBeast_11 : decode cX12_ofBeast 11 = .ok (.iload_n 2, 1) ∧ 11 + 1 = 12 := ⟨by decide +kernel, rfl⟩
set_option maxRecDepth 20000 in
theorem dX12_ofBeast_12 : decode cX12_ofBeast 12 = .ok (.iadd, 1) ∧ 12 + 1 = 13 := ⟨by decide +kernel, rfl⟩
set_option maxRecDepth 20000 in
theorem dX12_ofBeast_13 : decode cX12_ofBeast 13 = .ok (.iaload, 1) ∧ 13 + 1 = 14 := ⟨by decide +kernel, rfl⟩
set_option maxRecDepth 20000 in
theorem dX12_ofBeast_14 : decode cX12_ofBeast 14 = .ok (.ireturn, 1) := by decide +kernel
set_option maxRecDepth 20000 in
theorem dX12_fits_0 : decode cX12_fits 0 = .ok (.iload_n 0, 1) ∧ 0 + 1 = 1 := ⟨by decide +kernel, rfl⟩
set_option maxRecDepth 20000 in
theorem dX12_fits_1 : decode cX12_fits 1 = .ok (.tableswitch 99 0 5 #[39, 49, 59, 69, 79, 89], 39) := by decide +kernel
set_option maxRecDepth 20000 in
theorem dX12_fits_40 : decode cX12_fits 40 = .ok (.iload_n 1, 1) ∧ 40 + 1 = 41 := ⟨by decide +kernel, rfl⟩
set_option maxRecDepth 20000 in
theorem dX12_fits_41 : decode cX12_fits 41 = .ok (.i2l, 1) ∧ 41 + 1 = 42 := ⟨by decide +kernel, rfl⟩
set_option maxRecDepth 20000 in
theorem dX12_fits_42 : decode cX12_fits 42 = .ok (.lconst 0, 1) ∧ 42 + 1 = 43 := ⟨by decide +kernel, rfl⟩
set_option maxRecDepth 20000 in
theorem dX12_fits_43 : decode cX12_fits 43 = .ok (.ldc2_w 143, 3) ∧ 43 + 3 = 46 := ⟨by decide +kernel, rfl⟩
set_option maxRecDepth 20000 in
theorem dX12_fits_46 : decode cX12_fits 46 = .ok (.invokestatic 134, 3) ∧ 46 + 3 = 49 := ⟨by decide +kernel, rfl⟩
set_option maxRecDepth 20000 in
theorem dX12_fits_49 : decode cX12_fits 49 = .ok (.ireturn, 1) := by decide +kernel
set_option maxRecDepth 20000 in
theorem dX12_fits_50 : decode cX12_fits 50 = .ok (.iload_n 1, 1) ∧ 50 + 1 = 51 := ⟨by decide +kernel, rfl⟩
set_option maxRecDepth 20000 in
theorem dX12_fits_51 : decode cX12_fits 51 = .ok (.i2l, 1) ∧ 51 + 1 = 52 := ⟨by decide +kernel, rfl⟩
set_option maxRecDepth 20000 in
theorem dX12_fits_52 : decode cX12_fits 52 = .ok (.lconst 0, 1) ∧ 52 + 1 = 53 := ⟨by decide +kernel, rfl⟩
set_option maxRecDepth 20000 in
theorem dX12_fits_53 : decode cX12_fits 53 = .ok (.ldc2_w 145, 3) ∧ 53 + 3 = 56 := ⟨by decide +kernel, rfl⟩
set_option maxRecDepth 20000 in
theorem dX12_fits_56 : decode cX12_fits 56 = .ok (.invokestatic 134, 3) ∧ 56 + 3 = 59 := ⟨by decide +kernel, rfl⟩
set_option maxRecDepth 20000 in
theorem dX12_fits_59 : decode cX12_fits 59 = .ok (.ireturn, 1) := by decide +kernel
set_option maxRecDepth 20000 in
theorem dX12_fits_60 : decode cX12_fits 60 = .ok (.iload_n 1, 1) ∧ 60 + 1 = 61 := ⟨by decide +kernel, rfl⟩
set_option maxRecDepth 20000 in
theorem dX12_fits_61 : decode cX12_fits 61 = .ok (.i2l, 1) ∧ 61 + 1 = 62 := ⟨by decide +kernel, rfl⟩
set_option maxRecDepth 20000 in
theorem dX12_fits_62 : decode cX12_fits 62 = .ok (.lconst 0, 1) ∧ 62 + 1 = 63 := ⟨by decide +kernel, rfl⟩
set_option maxRecDepth 20000 in
theorem dX12_fits_63 : decode cX12_fits 63 = .ok (.ldc2_w 143, 3) ∧ 63 + 3 = 66 := ⟨by decide +kernel, rfl⟩
set_option maxRecDepth 20000 in
theorem dX12_fits_66 : decode cX12_fits 66 = .ok (.invokestatic 134, 3) ∧ 66 + 3 = 69 := ⟨by decide +kernel, rfl⟩
set_option maxRecDepth 20000 in
theorem dX12_fits_69 : decode cX12_fits 69 = .ok (.ireturn, 1) := by decide +kernel
set_option maxRecDepth 20000 in
theorem dX12_fits_70 : decode cX12_fits 70 = .ok (.iload_n 1, 1) ∧ 70 + 1 = 71 := ⟨by decide +kernel, rfl⟩
set_option maxRecDepth 20000 in
theorem dX12_fits_71 : decode cX12_fits 71 = .ok (.i2l, 1) ∧ 71 + 1 = 72 := ⟨by decide +kernel, rfl⟩
set_option maxRecDepth 20000 in
theorem dX12_fits_72 : decode cX12_fits 72 = .ok (.lconst 0, 1) ∧ 72 + 1 = 73 := ⟨by decide +kernel, rfl⟩
set_option maxRecDepth 20000 in
theorem dX12_fits_73 : decode cX12_fits 73 = .ok (.ldc2_w 143, 3) ∧ 73 + 3 = 76 := ⟨by decide +kernel, rfl⟩
set_option maxRecDepth 20000 in
theorem dX12_fits_76 : decode cX12_fits 76 = .ok (.invokestatic 134, 3) ∧ 76 + 3 = 79 := ⟨by decide +kernel, rfl⟩
set_option maxRecDepth 20000 in
theorem dX12_fits_79 : decode cX12_fits 79 = .ok (.ireturn, 1) := by decide +kernel
set_option maxRecDepth 20000 in
theorem dX12_fits_80 : decode cX12_fits 80 = .ok (.iload_n 1, 1) ∧ 80 + 1 = 81 := ⟨by decide +kernel, rfl⟩
set_option maxRecDepth 20000 in
theorem dX12_fits_81 : decode cX12_fits 81 = .ok (.i2l, 1) ∧ 81 + 1 = 82 := ⟨by decide +kernel, rfl⟩
set_option maxRecDepth 20000 in
theorem dX12_fits_82 : decode cX12_fits 82 = .ok (.lconst 0, 1) ∧ 82 + 1 = 83 := ⟨by decide +kernel, rfl⟩
set_option maxRecDepth 20000 in
theorem dX12_fits_83 : decode cX12_fits 83 = .ok (.ldc2_w 143, 3) ∧ 83 + 3 = 86 := ⟨by decide +kernel, rfl⟩
set_option maxRecDepth 20000 in
theorem dX12_fits_86 : decode cX12_fits 86 = .ok (.invokestatic 134, 3) ∧ 86 + 3 = 89 := ⟨by decide +kernel, rfl⟩
set_option maxRecDepth 20000 in
theorem dX12_fits_89 : decode cX12_fits 89 = .ok (.ireturn, 1) := by decide +kernel
set_option maxRecDepth 20000 in
theorem dX12_fits_90 : decode cX12_fits 90 = .ok (.iload_n 1, 1) ∧ 90 + 1 = 91 := ⟨by decide +kernel, rfl⟩
set_option maxRecDepth 20000 in
theorem dX12_fits_91 : decode cX12_fits 91 = .ok (.i2l, 1) ∧ 91 + 1 = 92 := ⟨by decide +kernel, rfl⟩
set_option maxRecDepth 20000 in
theorem dX12_fits_92 : decode cX12_fits 92 = .ok (.lconst 0, 1) ∧ 92 + 1 = 93 := ⟨by decide +kernel, rfl⟩
set_option maxRecDepth 20000 in
theorem dX12_fits_93 : decode cX12_fits 93 = .ok (.ldc2_w 147, 3) ∧ 93 + 3 = 96 := ⟨by decide +kernel, rfl⟩
set_option maxRecDepth 20000 in
theorem dX12_fits_96 : decode cX12_fits 96 = .ok (.invokestatic 134, 3) ∧ 96 + 3 = 99 := ⟨by decide +kernel, rfl⟩
set_option maxRecDepth 20000 in
theorem dX12_fits_99 : decode cX12_fits 99 = .ok (.ireturn, 1) := by decide +kernel
set_option maxRecDepth 20000 in
theorem dX12_fits_100 : decode cX12_fits 100 = .ok (.iconst 0, 1) ∧ 100 + 1 = 101 := ⟨by decide +kernel, rfl⟩
set_option maxRecDepth 20000 in
theorem dX12_fits_101 : decode cX12_fits 101 = .ok (.ireturn, 1) := by decide +kernel
set_option maxRecDepth 20000 in
theorem dX12_beast_0 : decode cX12_beast 0 = .ok (.aload_n 0, 1) ∧ 0 + 1 = 1 := ⟨by decide +kernel, rfl⟩
set_option maxRecDepth 20000 in
theorem dX12_beast_1 : decode cX12_beast 1 = .ok (.iconst 0, 1) ∧ 1 + 1 = 2 := ⟨by decide +kernel, rfl⟩
set_option maxRecDepth 20000 in
theorem dX12_beast_2 : decode cX12_beast 2 = .ok (.putfield 124, 3) ∧ 2 + 3 = 5 := ⟨by decide +kernel, rfl⟩
set_option maxRecDepth 20000 in
theorem dX12_beast_5 : decode cX12_beast 5 = .ok (.iconst 0, 1) ∧ 5 + 1 = 6 := ⟨by decide +kernel, rfl⟩
set_option maxRecDepth 20000 in
theorem dX12_beast_6 : decode cX12_beast 6 = .ok (.iload_n 1, 1) ∧ 6 + 1 = 7 := ⟨by decide +kernel, rfl⟩
set_option maxRecDepth 20000 in
theorem dX12_beast_7 : decode cX12_beast 7 = .ok (.invokestatic 149, 3) ∧ 7 + 3 = 10 := ⟨by decide +kernel, rfl⟩
set_option maxRecDepth 20000 in
theorem dX12_beast_10 : decode cX12_beast 10 = .ok (.ifCond .eq 37, 3) ∧ 10 + 3 = 13 ∧ ((10 : Nat) : Int) + (37) = ((47 : Nat) : Int) := ⟨by decide +kernel, rfl, by decide⟩
set_option maxRecDepth 20000 in
theorem dX12_beast_13 : decode cX12_beast 13 = .ok (.iconst 1, 1) ∧ 13 + 1 = 14 := ⟨by decide +kernel, rfl⟩
set_option maxRecDepth 20000 in
theorem dX12_beast_14 : decode cX12_beast 14 = .ok (.iload_n 2, 1) ∧ 14 + 1 = 15 := ⟨by decide +kernel, rfl⟩
set_option maxRecDepth 20000 in
theorem dX12_beast_15 : decode cX12_beast 15 = .ok (.invokestatic 149, 3) ∧ 15 + 3 = 18 := ⟨by decide +kernel, rfl⟩
set_option maxRecDepth 20000 in
theorem dX12_beast_18 : decode cX12_beast 18 = .ok (.ifCond .eq 29, 3) ∧ 18 + 3 = 21 ∧ ((18 : Nat) : Int) + (29) = ((47 : Nat) : Int) := ⟨by decide +kernel, rfl, by decide⟩
set_option maxRecDepth 20000 in
theorem dX12_beast_21 : decode cX12_beast 21 = .ok (.iconst 2, 1) ∧ 21 + 1 = 22 := ⟨by decide +kernel, rfl⟩
set_option maxRecDepth 20000 in
theorem dX12_beast_22 : decode cX12_beast 22 = .ok (.iload_n 3, 1) ∧ 22 + 1 = 23 := ⟨by decide +kernel, rfl⟩
set_option maxRecDepth 20000 in
theorem dX12_beast_23 : decode cX12_beast 23 = .ok (.invokestatic 149, 3) ∧ 23 + 3 = 26 := ⟨by decide +kernel, rfl⟩
set_option maxRecDepth 20000 in
theorem dX12_beast_26 : decode cX12_beast 26 = .ok (.ifCond .eq 21, 3) ∧ 26 + 3 = 29 ∧ ((26 : Nat) : Int) + (21) = ((47 : Nat) : Int) := ⟨by decide +kernel, rfl, by decide⟩
set_option maxRecDepth 20000 in
theorem dX12_beast_29 : decode cX12_beast 29 = .ok (.iconst 3, 1) ∧ 29 + 1 = 30 := ⟨by decide +kernel, rfl⟩
set_option maxRecDepth 20000 in
theorem dX12_beast_30 : decode cX12_beast 30 = .ok (.iload 4, 2) ∧ 30 + 2 = 32 := ⟨by decide +kernel, rfl⟩
set_option maxRecDepth 20000 in
theorem dX12_beast_32 : decode cX12_beast 32 = .ok (.invokestatic 149, 3) ∧ 32 + 3 = 35 := ⟨by decide +kernel, rfl⟩
set_option maxRecDepth 20000 in
theorem dX12_beast_35 : decode cX12_beast 35 = .ok (.ifCond .eq 12, 3) ∧ 35 + 3 = 38 ∧ ((35 : Nat) : Int) + (12) = ((47 : Nat) : Int) := ⟨by decide +kernel, rfl, by decide⟩
set_option maxRecDepth 20000 in
theorem dX12_beast_38 : decode cX12_beast 38 = .ok (.iconst 4, 1) ∧ 38 + 1 = 39 := ⟨by decide +kernel, rfl⟩
set_option maxRecDepth 20000 in
theorem dX12_beast_39 : decode cX12_beast 39 = .ok (.iload 5, 2) ∧ 39 + 2 = 41 := ⟨by decide +kernel, rfl⟩
set_option maxRecDepth 20000 in
theorem dX12_beast_41 : decode cX12_beast 41 = .ok (.invokestatic 149, 3) ∧ 41 + 3 = 44 := ⟨by decide +kernel, rfl⟩
set_option maxRecDepth 20000 in
theorem dX12_beast_44 : decode cX12_beast 44 = .ok (.ifCond .ne 9, 3) ∧ 44 + 3 = 47 ∧ ((44 : Nat) : Int) + (9) = ((53 : Nat) : Int) := ⟨by decide +kernel, rfl, by decide⟩
set_option maxRecDepth 20000 in
theorem dX12_beast_47 : decode cX12_beast 47 = .ok (.aload_n 0, 1) ∧ 47 + 1 = 48 := ⟨by decide +kernel, rfl⟩
set_option maxRecDepth 20000 in
theorem dX12_beast_48 : decode cX12_beast 48 = .ok (.iconst (-1), 1) ∧ 48 + 1 = 49 := ⟨by decide +kernel, rfl⟩
set_option maxRecDepth 20000 in
theorem dX12_beast_49 : decode cX12_beast 49 = .ok (.invokevirtual 138, 3) ∧ 49 + 3 = 52 := ⟨by decide +kernel, rfl⟩
set_option maxRecDepth 20000 in
theorem dX12_beast_52 : decode cX12_beast 52 = .ok (.ireturn, 1) := by decide +kernel
set_option maxRecDepth 20000 in
theorem dX12_beast_53 : decode cX12_beast 53 = .ok (.aload_n 0, 1) ∧ 53 + 1 = 54 := ⟨by decide +kernel, rfl⟩
set_option maxRecDepth 20000 in
theorem dX12_beast_54 : decode cX12_beast 54 = .ok (.getfield 13, 3) ∧ 54 + 3 = 57 := ⟨by decide +kernel, rfl⟩
set_option maxRecDepth 20000 in
theorem dX12_beast_57 : decode cX12_beast 57 = .ok (.iconst 0, 1) ∧ 57 + 1 = 58 := ⟨by decide +kernel, rfl⟩
set_option maxRecDepth 20000 in
theorem dX12_beast_58 : decode cX12_beast 58 = .ok (.iaload, 1) ∧ 58 + 1 = 59 := ⟨by decide +kernel, rfl⟩
set_option maxRecDepth 20000 in
theorem dX12_beast_59 : decode cX12_beast 59 = .ok (.istore 6, 2) ∧ 59 + 2 = 61 := ⟨by decide +kernel, rfl⟩
set_option maxRecDepth 20000 in
theorem dX12_beast_61 : decode cX12_beast 61 = .ok (.iload 6, 2) ∧ 61 + 2 = 63 := ⟨by decide +kernel, rfl⟩
set_option maxRecDepth 20000 in
theorem dX12_beast_63 : decode cX12_beast 63 = .ok (.bipush 8, 2) ∧ 63 + 2 = 65 := ⟨by decide +kernel, rfl⟩
set_option maxRecDepth 20000 in
theorem dX12_beast_65 : decode cX12_beast 65 = .ok (.if_icmp .ne 10, 3) ∧ 65 + 3 = 68 ∧ ((65 : Nat) : Int) + (10) = ((75 : Nat) : Int) := ⟨by decide +kernel, rfl, by decide⟩
set_option maxRecDepth 20000 in
theorem dX12_beast_68 : decode cX12_beast 68 = .ok (.aload_n 0, 1) ∧ 68 + 1 = 69 := ⟨by decide +kernel, rfl⟩
set_option maxRecDepth 20000 in
theorem dX12_beast_69 : decode cX12_beast 69 = .ok (.bipush (-5), 2) ∧ 69 + 2 = 71 := ⟨by decide +kernel, rfl⟩
set_option maxRecDepth 20000 in
theorem dX12_beast_71 : decode cX12_beast 71 = .ok (.invokevirtual 138, 3) ∧ 71 + 3 = 74 := ⟨by decide +kernel, rfl⟩
set_option maxRecDepth 20000 in
theorem dX12_beast_74 : decode cX12_beast 74 = .ok (.ireturn, 1) := by decide +kernel
set_option maxRecDepth 20000 in
theorem dX12_beast_75 : decode cX12_beast 75 = .ok (.bipush 12, 2) ∧ 75 + 2 = 77 := ⟨by decide +kernel, rfl⟩
set_option maxRecDepth 20000 in
theorem dX12_beast_77 : decode cX12_beast 77 = .ok (.bipush 6, 2) ∧ 77 + 2 = 79 := ⟨by decide +kernel, rfl⟩
set_option maxRecDepth 20000 in
theorem dX12_beast_79 : decode cX12_beast 79 = .ok (.iload 6, 2) ∧ 79 + 2 = 81 := ⟨by decide +kernel, rfl⟩
set_option maxRecDepth 20000 in
theorem dX12_beast_81 : decode cX12_beast 81 = .ok (.imul, 1) ∧ 81 + 1 = 82 := ⟨by decide +kernel, rfl⟩
set_option maxRecDepth 20000 in
theorem dX12_beast_82 : decode cX12_beast 82 = .ok (.iadd, 1) ∧ 82 + 1 = 83 := ⟨by decide +kernel, rfl⟩
set_option maxRecDepth 20000 in
theorem dX12_beast_83 : decode cX12_beast 83 = .ok (.istore 7, 2) ∧ 83 + 2 = 85 := ⟨by decide +kernel, rfl⟩
set_option maxRecDepth 20000 in
theorem dX12_beast_85 : decode cX12_beast 85 = .ok (.aload_n 0, 1) ∧ 85 + 1 = 86 := ⟨by decide +kernel, rfl⟩
set_option maxRecDepth 20000 in
theorem dX12_beast_86 : decode cX12_beast 86 = .ok (.getfield 13, 3) ∧ 86 + 3 = 89 := ⟨by decide +kernel, rfl⟩
set_option maxRecDepth 20000 in
theorem dX12_beast_89 : decode cX12_beast 89 = .ok (.iload 7, 2) ∧ 89 + 2 = 91 := ⟨by decide +kernel, rfl⟩
set_option maxRecDepth 20000 in
theorem dX12_beast_91 : decode cX12_beast 91 = .ok (.iload_n 1, 1) ∧ 91 + 1 = 92 := ⟨by decide +kernel, rfl⟩
set_option maxRecDepth 20000 in
theorem dX12_beast_92 : decode cX12_beast 92 = .ok (.iastore, 1) ∧ 92 + 1 = 93 := ⟨by decide +kernel, rfl⟩
set_option maxRecDepth 20000 in
theorem dX12_beast_93 : decode cX12_beast 93 = .ok (.aload_n 0, 1) ∧ 93 + 1 = 94 := ⟨by decide +kernel, rfl⟩
set_option maxRecDepth 20000 in
theorem dX12_beast_94 : decode cX12_beast 94 = .ok (.getfield 13, 3) ∧ 94 + 3 = 97 := ⟨by decide +kernel, rfl⟩
set_option maxRecDepth 20000 in
theorem dX12_beast_97 : decode cX12_beast 97 = .ok (.iload 7, 2) ∧ 97 + 2 = 99 := ⟨by decide +kernel, rfl⟩
set_option maxRecDepth 20000 in
theorem dX12_beast_99 : decode cX12_beast 99 = .ok (.iconst 1, 1) ∧ 99 + 1 = 100 := ⟨by decide +kernel, rfl⟩
set_option maxRecDepth 20000 in
theorem dX12_beast_100 : decode cX12_beast 100 = .ok (.iadd, 1) ∧ 100 + 1 = 101 := ⟨by decide +kernel, rfl⟩
set_option maxRecDepth 20000 in
theorem dX12_beast_101 : decode cX12_beast 101 = .ok (.iload_n 2, 1) ∧ 101 + 1 = 102 := ⟨by decide +kernel, rfl⟩
set_option maxRecDepth 20000 in
theorem dX12_beast_102 : decode cX12_beast 102 = .ok (.iastore, 1) ∧ 102 + 1 = 103 := ⟨by decide +kernel, rfl⟩
set_option maxRecDepth 20000 in
theorem dX12_beast_103 : decode cX12_beast 103 = .ok (.aload_n 0, 1) ∧ 103 + 1 = 104 := ⟨by decide +kernel, rfl⟩
set_option maxRecDepth 20000 in
theorem dX12_beast_104 : decode cX12_beast 104 = .ok (.getfield 13, 3) ∧ 104 + 3 = 107 := ⟨by decide +kernel, rfl⟩
set_option maxRecDepth 20000 in
theorem dX12_beast_107 : decode cX12_beast 107 = .ok (.iload 7, 2) ∧ 107 + 2 = 109 := ⟨by decide +kernel, rfl⟩
set_option maxRecDepth 20000 in
theorem dX12_beast_109 : decode cX12_beast 109 = .ok (.iconst 2, 1) ∧ 109 + 1 = 110 := ⟨by decide +kernel, rfl⟩
set_option maxRecDepth 20000 in
theorem dX12_beast_110 : decode cX12_beast 110 = .ok (.iadd, 1) ∧ 110 + 1 = 111 := ⟨by decide +kernel, rfl⟩
set_option maxRecDepth 20000 in
theorem dX12_beast_111 : decode cX12_beast 111 = .ok (.iload_n 3, 1) ∧ 111 + 1 = 112 := ⟨by decide +kernel, rfl⟩
set_option maxRecDepth 20000 in
theorem dX12_beast_112 : decode cX12_beast 112 = .ok (.iastore, 1) ∧ 112 + 1 = 113 := ⟨by decide +kernel, rfl⟩
set_option maxRecDepth 20000 in
theorem dX12_beast_113 : decode cX12_beast 113 = .ok (.aload_n 0, 1) ∧ 113 + 1 = 114 := ⟨by decide +kernel, rfl⟩
set_option maxRecDepth 20000 in
theorem dX12_beast_114 : decode cX12_beast 114 = .ok (.getfield 13, 3) ∧ 114 + 3 = 117 := ⟨by decide +kernel, rfl⟩
set_option maxRecDepth 20000 in
theorem dX12_beast_117 : decode cX12_beast 117 = .ok (.iload 7, 2) ∧ 117 + 2 = 119 := ⟨by decide +kernel, rfl⟩
set_option maxRecDepth 20000 in
theorem dX12_beast_119 : decode cX12_beast 119 = .ok (.iconst 3, 1) ∧ 119 + 1 = 120 := ⟨by decide +kernel, rfl⟩
set_option maxRecDepth 20000 in
theorem dX12_beast_120 : decode cX12_beast 120 = .ok (.iadd, 1) ∧ 120 + 1 = 121 := ⟨by decide +kernel, rfl⟩
set_option maxRecDepth 20000 in
theorem dX12_beast_121 : decode cX12_beast 121 = .ok (.iload 4, 2) ∧ 121 + 2 = 123 := ⟨by decide +kernel, rfl⟩
set_option maxRecDepth 20000 in
theorem dX12_beast_123 : decode cX12_beast 123 = .ok (.iastore, 1) ∧ 123 + 1 = 124 := ⟨by decide +kernel, rfl⟩
set_option maxRecDepth 20000 in
theorem dX12_beast_124 : decode cX12_beast 124 = .ok (.aload_n 0, 1) ∧ 124 + 1 = 125 := ⟨by decide +kernel, rfl⟩
set_option maxRecDepth 20000 in
theorem dX12_beast_125 : decode cX12_beast 125 = .ok (.getfield 13, 3) ∧ 125 + 3 = 128 := ⟨by decide +kernel, rfl⟩
set_option maxRecDepth 20000 in
theorem dX12_beast_128 : decode cX12_beast 128 = .ok (.iload 7, 2) ∧ 128 + 2 = 130 := ⟨by decide +kernel, rfl⟩
set_option maxRecDepth 20000 in
theorem dX12_beast_130 : decode cX12_beast 130 = .ok (.iconst 4, 1) ∧ 130 + 1 = 131 := ⟨by decide +kernel, rfl⟩
set_option maxRecDepth 20000 in
theorem dX12_beast_131 : decode cX12_beast 131 = .ok (.iadd, 1) ∧ 131 + 1 = 132 := ⟨by decide +kernel, rfl⟩
set_option maxRecDepth 20000 in
theorem dX12_beast_132 : decode cX12_beast 132 = .ok (.iload 5, 2) ∧ 132 + 2 = 134 := ⟨by decide +kernel, rfl⟩
set_option maxRecDepth 20000 in
theorem dX12_beast_134 : decode cX12_beast 134 = .ok (.iastore, 1) ∧ 134 + 1 = 135 := ⟨by decide +kernel, rfl⟩
set_option maxRecDepth 20000 in
theorem dX12_beast_135 : decode cX12_beast 135 = .ok (.aload_n 0, 1) ∧ 135 + 1 = 136 := ⟨by decide +kernel, rfl⟩
set_option maxRecDepth 20000 in
theorem dX12_beast_136 : decode cX12_beast 136 = .ok (.getfield 13, 3) ∧ 136 + 3 = 139 := ⟨by decide +kernel, rfl⟩
set_option maxRecDepth 20000 in
theorem dX12_beast_139 : decode cX12_beast 139 = .ok (.iload 7, 2) ∧ 139 + 2 = 141 := ⟨by decide +kernel, rfl⟩
set_option maxRecDepth 20000 in
theorem dX12_beast_141 : decode cX12_beast 141 = .ok (.iconst 5, 1) ∧ 141 + 1 = 142 := ⟨by decide +kernel, rfl⟩
set_option maxRecDepth 20000 in
theorem dX12_beast_142 : decode cX12_beast 142 = .ok (.iadd, 1) ∧ 142 + 1 = 143 := ⟨by decide +kernel, rfl⟩
set_option maxRecDepth 20000 in
theorem dX12_beast_143 : decode cX12_beast 143 = .ok (.iconst 0, 1) ∧ 143 + 1 = 144 := ⟨by decide +kernel, rfl⟩
set_option maxRecDepth 20000 in
theorem dX12_beast_144 : decode cX12_beast 144 = .ok (.iastore, 1) ∧ 144 + 1 = 145 := ⟨by decide +kernel, rfl⟩
set_option maxRecDepth 20000 in
theorem dX12_beast_145 : decode cX12_beast 145 = .ok (.aload_n 0, 1) ∧ 145 + 1 = 146 := ⟨by decide +kernel, rfl⟩
set_option maxRecDepth 20000 in
theorem dX12_beast_146 : decode cX12_beast 146 = .ok (.getfield 13, 3) ∧ 146 + 3 = 149 := ⟨by decide +kernel, rfl⟩
set_option maxRecDepth 20000 in
theorem dX12_beast_149 : decode cX12_beast 149 = .ok (.iconst 0, 1) ∧ 149 + 1 = 150 := ⟨by decide +kernel, rfl⟩
set_option maxRecDepth 20000 in
theorem dX12_beast_150 : decode cX12_beast 150 = .ok (.dup2, 1) ∧ 150 + 1 = 151 := ⟨by decide +kernel, rfl⟩
set_option maxRecDepth 20000 in
theorem dX12_beast_151 : decode cX12_beast 151 = .ok (.iaload, 1) ∧ 151 + 1 = 152 := ⟨by decide +kernel, rfl⟩
set_option maxRecDepth 20000 in
theorem dX12_beast_152 : decode cX12_beast 152 = .ok (.iconst 1, 1) ∧ 152 + 1 = 153 := ⟨by decide +kernel, rfl⟩
set_option maxRecDepth 20000 in
theorem dX12_beast_153 : decode cX12_beast 153 = .ok (.iadd, 1) ∧ 153 + 1 = 154 := ⟨by decide +kernel, rfl⟩
set_option maxRecDepth 20000 in
theorem dX12_beast_154 : decode cX12_beast 154 = .ok (.iastore, 1) ∧ 154 + 1 = 155 := ⟨by decide +kernel, rfl⟩
set_option maxRecDepth 20000 in
theorem dX12_beast_155 : decode cX12_beast 155 = .ok (.aload_n 0, 1) ∧ 155 + 1 = 156 := ⟨by decide +kernel, rfl⟩
set_option maxRecDepth 20000 in
theorem dX12_beast_156 : decode cX12_beast 156 = .ok (.iload 6, 2) ∧ 156 + 2 = 158 := ⟨by decide +kernel, rfl⟩
set_option maxRecDepth 20000 in
theorem dX12_beast_158 : decode cX12_beast 158 = .ok (.invokevirtual 138, 3) ∧ 158 + 3 = 161 := ⟨by decide +kernel, rfl⟩
set_option maxRecDepth 20000 in
theorem dX12_beast_161 : decode cX12_beast 161 = .ok (.ireturn, 1) := by decide +kernel
set_option maxRecDepth 20000 in
theorem dX12_put_0 : decode cX12_put 0 = .ok (.aload_n 0, 1) ∧ 0 + 1 = 1 := ⟨by decide +kernel, rfl⟩
set_option maxRecDepth 20000 in
theorem dX12_put_1 : decode cX12_put 1 = .ok (.iconst 0, 1) ∧ 1 + 1 = 2 := ⟨by decide +kernel, rfl⟩
set_option maxRecDepth 20000 in
theorem dX12_put_2 : decode cX12_put 2 = .ok (.putfield 124, 3) ∧ 2 + 3 = 5 := ⟨by decide +kernel, rfl⟩
set_option maxRecDepth 20000 in
theorem dX12_put_5 : decode cX12_put 5 = .ok (.iload_n 2, 1) ∧ 5 + 1 = 6 := ⟨by decide +kernel, rfl⟩
set_option maxRecDepth 20000 in
theorem dX12_put_6 : decode cX12_put 6 = .ok (.iload_n 3, 1) ∧ 6 + 1 = 7 := ⟨by decide +kernel, rfl⟩
set_option maxRecDepth 20000 in
theorem dX12_put_7 : decode cX12_put 7 = .ok (.invokestatic 149, 3) ∧ 7 + 3 = 10 := ⟨by decide +kernel, rfl⟩
set_option maxRecDepth 20000 in
theorem dX12_put_10 : decode cX12_put 10 = .ok (.ifCond .ne 9, 3) ∧ 10 + 3 = 13 ∧ ((10 : Nat) : Int) + (9) = ((19 : Nat) : Int) := ⟨by decide +kernel, rfl, by decide⟩
set_option maxRecDepth 20000 in
theorem dX12_put_13 : decode cX12_put 13 = .ok (.aload_n 0, 1) ∧ 13 + 1 = 14 := ⟨by decide +kernel, rfl⟩
set_option maxRecDepth 20000 in
theorem dX12_put_14 : decode cX12_put 14 = .ok (.iconst (-1), 1) ∧ 14 + 1 = 15 := ⟨by decide +kernel, rfl⟩
set_option maxRecDepth 20000 in
theorem dX12_put_15 : decode cX12_put 15 = .ok (.invokevirtual 138, 3) ∧ 15 + 3 = 18 := ⟨by decide +kernel, rfl⟩
set_option maxRecDepth 20000 in
theorem dX12_put_18 : decode cX12_put 18 = .ok (.ireturn, 1) := by decide +kernel
set_option maxRecDepth 20000 in
theorem dX12_put_19 : decode cX12_put 19 = .ok (.aload_n 0, 1) ∧ 19 + 1 = 20 := ⟨by decide +kernel, rfl⟩
set_option maxRecDepth 20000 in
theorem dX12_put_20 : decode cX12_put 20 = .ok (.iload_n 1, 1) ∧ 20 + 1 = 21 := ⟨by decide +kernel, rfl⟩
set_option maxRecDepth 20000 in
theorem dX12_put_21 : decode cX12_put 21 = .ok (.invokevirtual 153, 3) ∧ 21 + 3 = 24 := ⟨by decide +kernel, rfl⟩
set_option maxRecDepth 20000 in
theorem dX12_put_24 : decode cX12_put 24 = .ok (.ifCond .eq 20, 3) ∧ 24 + 3 = 27 ∧ ((24 : Nat) : Int) + (20) = ((44 : Nat) : Int) := ⟨by decide +kernel, rfl, by decide⟩
set_option maxRecDepth 20000 in
theorem dX12_put_27 : decode cX12_put 27 = .ok (.aload_n 0, 1) ∧ 27 + 1 = 28 := ⟨by decide +kernel, rfl⟩
set_option maxRecDepth 20000 in
theorem dX12_put_28 : decode cX12_put 28 = .ok (.bipush 12, 2) ∧ 28 + 2 = 30 := ⟨by decide +kernel, rfl⟩
set_option maxRecDepth 20000 in
theorem dX12_put_30 : decode cX12_put 30 = .ok (.bipush 6, 2) ∧ 30 + 2 = 32 := ⟨by decide +kernel, rfl⟩
set_option maxRecDepth 20000 in
theorem dX12_put_32 : decode cX12_put 32 = .ok (.iload_n 1, 1) ∧ 32 + 1 = 33 := ⟨by decide +kernel, rfl⟩
set_option maxRecDepth 20000 in
theorem dX12_put_33 : decode cX12_put 33 = .ok (.imul, 1) ∧ 33 + 1 = 34 := ⟨by decide +kernel, rfl⟩
set_option maxRecDepth 20000 in
theorem dX12_put_34 : decode cX12_put 34 = .ok (.iadd, 1) ∧ 34 + 1 = 35 := ⟨by decide +kernel, rfl⟩
set_option maxRecDepth 20000 in
theorem dX12_put_35 : decode cX12_put 35 = .ok (.iload_n 2, 1) ∧ 35 + 1 = 36 := ⟨by decide +kernel, rfl⟩
set_option maxRecDepth 20000 in
theorem dX12_put_36 : decode cX12_put 36 = .ok (.iadd, 1) ∧ 36 + 1 = 37 := ⟨by decide +kernel, rfl⟩
set_option maxRecDepth 20000 in
theorem dX12_put_37 : decode cX12_put 37 = .ok (.iload_n 3, 1) ∧ 37 + 1 = 38 := ⟨by decide +kernel, rfl⟩
set_option maxRecDepth 20000 in
theorem dX12_put_38 : decode cX12_put 38 = .ok (.invokevirtual 157, 3) ∧ 38 + 3 = 41 := ⟨by decide +kernel, rfl⟩
set_option maxRecDepth 20000 in
theorem dX12_put_41 : decode cX12_put 41 = .ok (.goto 9, 3) ∧ ((41 : Nat) : Int) + (9) = ((50 : Nat) : Int) := ⟨by decide +kernel, by decide⟩
set_option maxRecDepth 20000 in
theorem dX12_put_44 : decode cX12_put 44 = .ok (.aload_n 0, 1) ∧ 44 + 1 = 45 := ⟨by decide +kernel, rfl⟩
set_option maxRecDepth 20000 in
theorem dX12_put_45 : decode cX12_put 45 = .ok (.bipush (-2), 2) ∧ 45 + 2 = 47 := ⟨by decide +kernel, rfl⟩
set_option maxRecDepth 20000 in
theorem dX12_put_47 : decode cX12_put 47 = .ok (.invokevirtual 138, 3) ∧ 47 + 3 = 50 := ⟨by decide +kernel, rfl⟩
set_option maxRecDepth 20000 in
theorem dX12_put_50 : decode cX12_put 50 = .ok (.ireturn, 1) := by decide +kernel
set_option maxRecDepth 20000 in
theorem dX12_of_0 : decode cX12_of 0 = .ok (.aload_n 0, 1) ∧ 0 + 1 = 1 := ⟨by decide +kernel, rfl⟩
set_option maxRecDepth 20000 in
theorem dX12_of_1 : decode cX12_of 1 = .ok (.iconst 0, 1) ∧ 1 + 1 = 2 := ⟨by decide +kernel, rfl⟩
set_option maxRecDepth 20000 in
theorem dX12_of_2 : decode cX12_of 2 = .ok (.putfield 124, 3) ∧ 2 + 3 = 5 := ⟨by decide +kernel, rfl⟩
set_option maxRecDepth 20000 in
theorem dX12_of_5 : decode cX12_of 5 = .ok (.aload_n 0, 1) ∧ 5 + 1 = 6 := ⟨by decide +kernel, rfl⟩
set_option maxRecDepth 20000 in
theorem dX12_of_6 : decode cX12_of 6 = .ok (.iload_n 1, 1) ∧ 6 + 1 = 7 := ⟨by decide +kernel, rfl⟩
set_option maxRecDepth 20000 in
theorem dX12_of_7 : decode cX12_of 7 = .ok (.invokevirtual 153, 3) ∧ 7 + 3 = 10 := ⟨by decide +kernel, rfl⟩
set_option maxRecDepth 20000 in
theorem dX12_of_10 : decode cX12_of 10 = .ok (.ifCond .eq 24, 3) ∧ 10 + 3 = 13 ∧ ((10 : Nat) : Int) + (24) = ((34 : Nat) : Int) := ⟨by decide +kernel, rfl, by decide⟩
set_option maxRecDepth 20000 in
theorem dX12_of_13 : decode cX12_of 13 = .ok (.iload_n 2, 1) ∧ 13 + 1 = 14 := ⟨by decide +kernel, rfl⟩
set_option maxRecDepth 20000 in
theorem dX12_of_14 : decode cX12_of 14 = .ok (.i2l, 1) ∧ 14 + 1 = 15 := ⟨by decide +kernel, rfl⟩
set_option maxRecDepth 20000 in
theorem dX12_of_15 : decode cX12_of 15 = .ok (.lconst 0, 1) ∧ 15 + 1 = 16 := ⟨by decide +kernel, rfl⟩
set_option maxRecDepth 20000 in
theorem dX12_of_16 : decode cX12_of 16 = .ok (.ldc2_w 161, 3) ∧ 16 + 3 = 19 := ⟨by decide +kernel, rfl⟩
set_option maxRecDepth 20000 in
theorem dX12_of_19 : decode cX12_of 19 = .ok (.invokestatic 134, 3) ∧ 19 + 3 = 22 := ⟨by decide +kernel, rfl⟩
set_option maxRecDepth 20000 in
theorem dX12_of_22 : decode cX12_of 22 = .ok (.ifCond .eq 12, 3) ∧ 22 + 3 = 25 ∧ ((22 : Nat) : Int) + (12) = ((34 : Nat) : Int) := ⟨by decide +kernel, rfl, by decide⟩
set_option maxRecDepth 20000 in
theorem dX12_of_25 : decode cX12_of 25 = .ok (.aload_n 0, 1) ∧ 25 + 1 = 26 := ⟨by decide +kernel, rfl⟩
set_option maxRecDepth 20000 in
theorem dX12_of_26 : decode cX12_of 26 = .ok (.iload_n 1, 1) ∧ 26 + 1 = 27 := ⟨by decide +kernel, rfl⟩
set_option maxRecDepth 20000 in
theorem dX12_of_27 : decode cX12_of 27 = .ok (.iload_n 2, 1) ∧ 27 + 1 = 28 := ⟨by decide +kernel, rfl⟩
set_option maxRecDepth 20000 in
theorem dX12_of_28 : decode cX12_of 28 = .ok (.invokevirtual 163, 3) ∧ 28 + 3 = 31 := ⟨by decide +kernel, rfl⟩
set_option maxRecDepth 20000 in
theorem dX12_of_31 : decode cX12_of 31 = .ok (.goto 4, 3) ∧ ((31 : Nat) : Int) + (4) = ((35 : Nat) : Int) := ⟨by decide +kernel, by decide⟩
set_option maxRecDepth 20000 in
theorem dX12_of_34 : decode cX12_of 34 = .ok (.iconst (-1), 1) ∧ 34 + 1 = 35 := ⟨by decide +kernel, rfl⟩
set_option maxRecDepth 20000 in
theorem dX12_of_35 : decode cX12_of 35 = .ok (.ireturn, 1) := by decide +kernel
set_option maxRecDepth 20000 in
theorem dX12_meal_0 : decode cX12_meal 0 = .ok (.aload_n 0, 1) ∧ 0 + 1 = 1 := ⟨by decide +kernel, rfl⟩
set_option maxRecDepth 20000 in
theorem dX12_meal_1 : decode cX12_meal 1 = .ok (.iconst 0, 1) ∧ 1 + 1 = 2 := ⟨by decide +kernel, rfl⟩
set_option maxRecDepth 20000 in
theorem dX12_meal_2 : decode cX12_meal 2 = .ok (.putfield 124, 3) ∧ 2 + 3 = 5 := ⟨by decide +kernel, rfl⟩
set_option maxRecDepth 20000 in
theorem dX12_meal_5 : decode cX12_meal 5 = .ok (.iload_n 2, 1) ∧ 5 + 1 = 6 := ⟨by decide +kernel, rfl⟩
set_option maxRecDepth 20000 in
theorem dX12_meal_6 : decode cX12_meal 6 = .ok (.invokestatic 166, 3) ∧ 6 + 3 = 9 := ⟨by decide +kernel, rfl⟩
set_option maxRecDepth 20000 in
theorem dX12_meal_9 : decode cX12_meal 9 = .ok (.ifCond .ne 9, 3) ∧ 9 + 3 = 12 ∧ ((9 : Nat) : Int) + (9) = ((18 : Nat) : Int) := ⟨by decide +kernel, rfl, by decide⟩
set_option maxRecDepth 20000 in
theorem dX12_meal_12 : decode cX12_meal 12 = .ok (.aload_n 0, 1) ∧ 12 + 1 = 13 := ⟨by decide +kernel, rfl⟩
set_option maxRecDepth 20000 in
theorem dX12_meal_13 : decode cX12_meal 13 = .ok (.iconst (-1), 1) ∧ 13 + 1 = 14 := ⟨by decide +kernel, rfl⟩
set_option maxRecDepth 20000 in
theorem dX12_meal_14 : decode cX12_meal 14 = .ok (.invokevirtual 138, 3) ∧ 14 + 3 = 17 := ⟨by decide +kernel, rfl⟩
set_option maxRecDepth 20000 in
theorem dX12_meal_17 : decode cX12_meal 17 = .ok (.ireturn, 1) := by decide +kernel
set_option maxRecDepth 20000 in
theorem dX12_meal_18 : decode cX12_meal 18 = .ok (.aload_n 0, 1) ∧ 18 + 1 = 19 := ⟨by decide +kernel, rfl⟩
set_option maxRecDepth 20000 in
theorem dX12_meal_19 : decode cX12_meal 19 = .ok (.iload_n 1, 1) ∧ 19 + 1 = 20 := ⟨by decide +kernel, rfl⟩
set_option maxRecDepth 20000 in
theorem dX12_meal_20 : decode cX12_meal 20 = .ok (.invokevirtual 153, 3) ∧ 20 + 3 = 23 := ⟨by decide +kernel, rfl⟩
set_option maxRecDepth 20000 in
theorem dX12_meal_23 : decode cX12_meal 23 = .ok (.ifCond .ne 10, 3) ∧ 23 + 3 = 26 ∧ ((23 : Nat) : Int) + (10) = ((33 : Nat) : Int) := ⟨by decide +kernel, rfl, by decide⟩
set_option maxRecDepth 20000 in
theorem dX12_meal_26 : decode cX12_meal 26 = .ok (.aload_n 0, 1) ∧ 26 + 1 = 27 := ⟨by decide +kernel, rfl⟩
set_option maxRecDepth 20000 in
theorem dX12_meal_27 : decode cX12_meal 27 = .ok (.bipush (-2), 2) ∧ 27 + 2 = 29 := ⟨by decide +kernel, rfl⟩
set_option maxRecDepth 20000 in
theorem dX12_meal_29 : decode cX12_meal 29 = .ok (.invokevirtual 138, 3) ∧ 29 + 3 = 32 := ⟨by decide +kernel, rfl⟩
set_option maxRecDepth 20000 in
theorem dX12_meal_32 : decode cX12_meal 32 = .ok (.ireturn, 1) := by decide +kernel
set_option maxRecDepth 20000 in
theorem dX12_meal_33 : decode cX12_meal 33 = .ok (.aload_n 0, 1) ∧ 33 + 1 = 34 := ⟨by decide +kernel, rfl⟩
set_option maxRecDepth 20000 in
theorem dX12_meal_34 : decode cX12_meal 34 = .ok (.getfield 13, 3) ∧ 34 + 3 = 37 := ⟨by decide +kernel, rfl⟩
set_option maxRecDepth 20000 in
theorem dX12_meal_37 : decode cX12_meal 37 = .ok (.iconst 1, 1) ∧ 37 + 1 = 38 := ⟨by decide +kernel, rfl⟩
set_option maxRecDepth 20000 in
theorem dX12_meal_38 : decode cX12_meal 38 = .ok (.iaload, 1) ∧ 38 + 1 = 39 := ⟨by decide +kernel, rfl⟩
set_option maxRecDepth 20000 in
theorem dX12_meal_39 : decode cX12_meal 39 = .ok (.istore_n 3, 1) ∧ 39 + 1 = 40 := ⟨by decide +kernel, rfl⟩
set_option maxRecDepth 20000 in
theorem dX12_meal_40 : decode cX12_meal 40 = .ok (.iload_n 3, 1) ∧ 40 + 1 = 41 := ⟨by decide +kernel, rfl⟩
set_option maxRecDepth 20000 in
theorem dX12_meal_41 : decode cX12_meal 41 = .ok (.bipush 24, 2) ∧ 41 + 2 = 43 := ⟨by decide +kernel, rfl⟩
set_option maxRecDepth 20000 in
theorem dX12_meal_43 : decode cX12_meal 43 = .ok (.if_icmp .ne 10, 3) ∧ 43 + 3 = 46 ∧ ((43 : Nat) : Int) + (10) = ((53 : Nat) : Int) := ⟨by decide +kernel, rfl, by decide⟩
set_option maxRecDepth 20000 in
theorem dX12_meal_46 : decode cX12_meal 46 = .ok (.aload_n 0, 1) ∧ 46 + 1 = 47 := ⟨by decide +kernel, rfl⟩
set_option maxRecDepth 20000 in
theorem dX12_meal_47 : decode cX12_meal 47 = .ok (.bipush (-5), 2) ∧ 47 + 2 = 49 := ⟨by decide +kernel, rfl⟩
set_option maxRecDepth 20000 in
theorem dX12_meal_49 : decode cX12_meal 49 = .ok (.invokevirtual 138, 3) ∧ 49 + 3 = 52 := ⟨by decide +kernel, rfl⟩
set_option maxRecDepth 20000 in
theorem dX12_meal_52 : decode cX12_meal 52 = .ok (.ireturn, 1) := by decide +kernel
set_option maxRecDepth 20000 in
theorem dX12_meal_53 : decode cX12_meal 53 = .ok (.aload_n 0, 1) ∧ 53 + 1 = 54 := ⟨by decide +kernel, rfl⟩
set_option maxRecDepth 20000 in
theorem dX12_meal_54 : decode cX12_meal 54 = .ok (.getfield 13, 3) ∧ 54 + 3 = 57 := ⟨by decide +kernel, rfl⟩
set_option maxRecDepth 20000 in
theorem dX12_meal_57 : decode cX12_meal 57 = .ok (.bipush 60, 2) ∧ 57 + 2 = 59 := ⟨by decide +kernel, rfl⟩
set_option maxRecDepth 20000 in
theorem dX12_meal_59 : decode cX12_meal 59 = .ok (.iconst 2, 1) ∧ 59 + 1 = 60 := ⟨by decide +kernel, rfl⟩
set_option maxRecDepth 20000 in
theorem dX12_meal_60 : decode cX12_meal 60 = .ok (.iload_n 3, 1) ∧ 60 + 1 = 61 := ⟨by decide +kernel, rfl⟩
set_option maxRecDepth 20000 in
theorem dX12_meal_61 : decode cX12_meal 61 = .ok (.imul, 1) ∧ 61 + 1 = 62 := ⟨by decide +kernel, rfl⟩
set_option maxRecDepth 20000 in
theorem dX12_meal_62 : decode cX12_meal 62 = .ok (.iadd, 1) ∧ 62 + 1 = 63 := ⟨by decide +kernel, rfl⟩
set_option maxRecDepth 20000 in
theorem dX12_meal_63 : decode cX12_meal 63 = .ok (.iload_n 1, 1) ∧ 63 + 1 = 64 := ⟨by decide +kernel, rfl⟩
set_option maxRecDepth 20000 in
theorem dX12_meal_64 : decode cX12_meal 64 = .ok (.iastore, 1) ∧ 64 + 1 = 65 := ⟨by decide +kernel, rfl⟩
set_option maxRecDepth 20000 in
theorem dX12_meal_65 : decode cX12_meal 65 = .ok (.aload_n 0, 1) ∧ 65 + 1 = 66 := ⟨by decide +kernel, rfl⟩
set_option maxRecDepth 20000 in
theorem dX12_meal_66 : decode cX12_meal 66 = .ok (.getfield 13, 3) ∧ 66 + 3 = 69 := ⟨by decide +kernel, rfl⟩
set_option maxRecDepth 20000 in
theorem dX12_meal_69 : decode cX12_meal 69 = .ok (.bipush 60, 2) ∧ 69 + 2 = 71 := ⟨by decide +kernel, rfl⟩
set_option maxRecDepth 20000 in
theorem dX12_meal_71 : decode cX12_meal 71 = .ok (.iconst 2, 1) ∧ 71 + 1 = 72 := ⟨by decide +kernel, rfl⟩
set_option maxRecDepth 20000 in
theorem dX12_meal_72 : decode cX12_meal 72 = .ok (.iload_n 3, 1) ∧ 72 + 1 = 73 := ⟨by decide +kernel, rfl⟩
set_option maxRecDepth 20000 in
theorem dX12_meal_73 : decode cX12_meal 73 = .ok (.imul, 1) ∧ 73 + 1 = 74 := ⟨by decide +kernel, rfl⟩
set_option maxRecDepth 20000 in
theorem dX12_meal_74 : decode cX12_meal 74 = .ok (.iadd, 1) ∧ 74 + 1 = 75 := ⟨by decide +kernel, rfl⟩
set_option maxRecDepth 20000 in
theorem dX12_meal_75 : decode cX12_meal 75 = .ok (.iconst 1, 1) ∧ 75 + 1 = 76 := ⟨by decide +kernel, rfl⟩
set_option maxRecDepth 20000 in
theorem dX12_meal_76 : decode cX12_meal 76 = .ok (.iadd, 1) ∧ 76 + 1 = 77 := ⟨by decide +kernel, rfl⟩
set_option maxRecDepth 20000 in
theorem dX12_meal_77 : decode cX12_meal 77 = .ok (.iload_n 2, 1) ∧ 77 + 1 = 78 := ⟨by decide +kernel, rfl⟩
set_option maxRecDepth 20000 in
theorem dX12_meal_78 : decode cX12_meal 78 = .ok (.iastore, 1) ∧ 78 + 1 = 79 := ⟨by decide +kernel, rfl⟩
set_option maxRecDepth 20000 in
theorem dX12_meal_79 : decode cX12_meal 79 = .ok (.aload_n 0, 1) ∧ 79 + 1 = 80 := ⟨by decide +kernel, rfl⟩
set_option maxRecDepth 20000 in
theorem dX12_meal_80 : decode cX12_meal 80 = .ok (.getfield 13, 3) ∧ 80 + 3 = 83 := ⟨by decide +kernel, rfl⟩
set_option maxRecDepth 20000 in
theorem dX12_meal_83 : decode cX12_meal 83 = .ok (.iconst 1, 1) ∧ 83 + 1 = 84 := ⟨by decide +kernel, rfl⟩
set_option maxRecDepth 20000 in
theorem dX12_meal_84 : decode cX12_meal 84 = .ok (.dup2, 1) ∧ 84 + 1 = 85 := ⟨by decide +kernel, rfl⟩
set_option maxRecDepth 20000 in
theorem dX12_meal_85 : decode cX12_meal 85 = .ok (.iaload, 1) ∧ 85 + 1 = 86 := ⟨by decide +kernel, rfl⟩
set_option maxRecDepth 20000 in
theorem dX12_meal_86 : decode cX12_meal 86 = .ok (.iconst 1, 1) ∧ 86 + 1 = 87 := ⟨by decide +kernel, rfl⟩
set_option maxRecDepth 20000 in
theorem dX12_meal_87 : decode cX12_meal 87 = .ok (.iadd, 1) ∧ 87 + 1 = 88 := ⟨by decide +kernel, rfl⟩
set_option maxRecDepth 20000 in
theorem dX12_meal_88 : decode cX12_meal 88 = .ok (.iastore, 1) ∧ 88 + 1 = 89 := ⟨by decide +kernel, rfl⟩
set_option maxRecDepth 20000 in
theorem dX12_meal_89 : decode cX12_meal 89 = .ok (.aload_n 0, 1) ∧ 89 + 1 = 90 := ⟨by decide +kernel, rfl⟩
set_option maxRecDepth 20000 in
theorem dX12_meal_90 : decode cX12_meal 90 = .ok (.iload_n 3, 1) ∧ 90 + 1 = 91 := ⟨by decide +kernel, rfl⟩
set_option maxRecDepth 20000 in
theorem dX12_meal_91 : decode cX12_meal 91 = .ok (.iconst 1, 1) ∧ 91 + 1 = 92 := ⟨by decide +kernel, rfl⟩
set_option maxRecDepth 20000 in
theorem dX12_meal_92 : decode cX12_meal 92 = .ok (.iadd, 1) ∧ 92 + 1 = 93 := ⟨by decide +kernel, rfl⟩
set_option maxRecDepth 20000 in
theorem dX12_meal_93 : decode cX12_meal 93 = .ok (.invokevirtual 138, 3) ∧ 93 + 3 = 96 := ⟨by decide +kernel, rfl⟩
set_option maxRecDepth 20000 in
theorem dX12_meal_96 : decode cX12_meal 96 = .ok (.ireturn, 1) := by decide +kernel
set_option maxRecDepth 20000 in
theorem dX12_fast_0 : decode cX12_fast 0 = .ok (.aload_n 0, 1) ∧ 0 + 1 = 1 := ⟨by decide +kernel, rfl⟩
set_option maxRecDepth 20000 in
theorem dX12_fast_1 : decode cX12_fast 1 = .ok (.iconst 0, 1) ∧ 1 + 1 = 2 := ⟨by decide +kernel, rfl⟩
set_option maxRecDepth 20000 in
theorem dX12_fast_2 : decode cX12_fast 2 = .ok (.putfield 124, 3) ∧ 2 + 3 = 5 := ⟨by decide +kernel, rfl⟩
set_option maxRecDepth 20000 in
theorem dX12_fast_5 : decode cX12_fast 5 = .ok (.aload_n 0, 1) ∧ 5 + 1 = 6 := ⟨by decide +kernel, rfl⟩
set_option maxRecDepth 20000 in
theorem dX12_fast_6 : decode cX12_fast 6 = .ok (.getfield 13, 3) ∧ 6 + 3 = 9 := ⟨by decide +kernel, rfl⟩
set_option maxRecDepth 20000 in
theorem dX12_fast_9 : decode cX12_fast 9 = .ok (.iconst 1, 1) ∧ 9 + 1 = 10 := ⟨by decide +kernel, rfl⟩
set_option maxRecDepth 20000 in
theorem dX12_fast_10 : decode cX12_fast 10 = .ok (.iaload, 1) ∧ 10 + 1 = 11 := ⟨by decide +kernel, rfl⟩
set_option maxRecDepth 20000 in
theorem dX12_fast_11 : decode cX12_fast 11 = .ok (.istore_n 1, 1) ∧ 11 + 1 = 12 := ⟨by decide +kernel, rfl⟩
set_option maxRecDepth 20000 in
theorem dX12_fast_12 : decode cX12_fast 12 = .ok (.aload_n 0, 1) ∧ 12 + 1 = 13 := ⟨by decide +kernel, rfl⟩
set_option maxRecDepth 20000 in
theorem dX12_fast_13 : decode cX12_fast 13 = .ok (.getfield 13, 3) ∧ 13 + 3 = 16 := ⟨by decide +kernel, rfl⟩
set_option maxRecDepth 20000 in
theorem dX12_fast_16 : decode cX12_fast 16 = .ok (.iconst 1, 1) ∧ 16 + 1 = 17 := ⟨by decide +kernel, rfl⟩
set_option maxRecDepth 20000 in
theorem dX12_fast_17 : decode cX12_fast 17 = .ok (.iconst 0, 1) ∧ 17 + 1 = 18 := ⟨by decide +kernel, rfl⟩
set_option maxRecDepth 20000 in
theorem dX12_fast_18 : decode cX12_fast 18 = .ok (.iastore, 1) ∧ 18 + 1 = 19 := ⟨by decide +kernel, rfl⟩
set_option maxRecDepth 20000 in
theorem dX12_fast_19 : decode cX12_fast 19 = .ok (.iload_n 1, 1) ∧ 19 + 1 = 20 := ⟨by decide +kernel, rfl⟩
set_option maxRecDepth 20000 in
theorem dX12_fast_20 : decode cX12_fast 20 = .ok (.ireturn, 1) := by decide +kernel
set_option maxRecDepth 20000 in
theorem dX12_hungerIn_0 : decode cX12_hungerIn 0 = .ok (.iconst (-1), 1) ∧ 0 + 1 = 1 := ⟨by decide +kernel, rfl⟩
set_option maxRecDepth 20000 in
theorem dX12_hungerIn_1 : decode cX12_hungerIn 1 = .ok (.istore_n 3, 1) ∧ 1 + 1 = 2 := ⟨by decide +kernel, rfl⟩
set_option maxRecDepth 20000 in
theorem dX12_hungerIn_2 : decode cX12_hungerIn 2 = .ok (.iconst 0, 1) ∧ 2 + 1 = 3 := ⟨by decide +kernel, rfl⟩
set_option maxRecDepth 20000 in
theorem dX12_hungerIn_3 : decode cX12_hungerIn 3 = .ok (.istore 4, 2) ∧ 3 + 2 = 5 := ⟨by decide +kernel, rfl⟩
set_option maxRecDepth 20000 in
theorem dX12_hungerIn_5 : decode cX12_hungerIn 5 = .ok (.iload 4, 2) ∧ 5 + 2 = 7 := ⟨by decide +kernel, rfl⟩
set_option maxRecDepth 20000 in
theorem dX12_hungerIn_7 : decode cX12_hungerIn 7 = .ok (.aload_n 0, 1) ∧ 7 + 1 = 8 := ⟨by decide +kernel, rfl⟩
set_option maxRecDepth 20000 in
theorem dX12_hungerIn_8 : decode cX12_hungerIn 8 = .ok (.getfield 13, 3) ∧ 8 + 3 = 11 := ⟨by decide +kernel, rfl⟩
set_option maxRecDepth 20000 in
theorem dX12_hungerIn_11 : decode cX12_hungerIn 11 = .ok (.iconst 1, 1) ∧ 11 + 1 = 12 := ⟨by decide +kernel, rfl⟩
set_option maxRecDepth 20000 in
theorem dX12_hungerIn_12 : decode cX12_hungerIn 12 = .ok (.iaload, 1) ∧ 12 + 1 = 13 := ⟨by decide +kernel, rfl⟩
set_option maxRecDepth 20000 in
theorem dX12_hungerIn_13 : decode cX12_hungerIn 13 = .ok (.if_icmp .ge 60, 3) ∧ 13 + 3 = 16 ∧ ((13 : Nat) : Int) + (60) = ((73 : Nat) : Int) := ⟨by decide +kernel, rfl, by decide⟩
set_option maxRecDepth 20000 in
theorem dX12_hungerIn_16 : decode cX12_hungerIn 16 = .ok (.aload_n 0, 1) ∧ 16 + 1 = 17 := ⟨by decide +kernel, rfl⟩
set_option maxRecDepth 20000 in
theorem dX12_hungerIn_17 : decode cX12_hungerIn 17 = .ok (.getfield 13, 3) ∧ 17 + 3 = 20 := ⟨by decide +kernel, rfl⟩
set_option maxRecDepth 20000 in
theorem dX12_hungerIn_20 : decode cX12_hungerIn 20 = .ok (.bipush 60, 2) ∧ 20 + 2 = 22 := ⟨by decide +kernel, rfl⟩
set_option maxRecDepth 20000 in
theorem dX12_hungerIn_22 : decode cX12_hungerIn 22 = .ok (.iconst 2, 1) ∧ 22 + 1 = 23 := ⟨by decide +kernel, rfl⟩
set_option maxRecDepth 20000 in
theorem dX12_hungerIn_23 : decode cX12_hungerIn 23 = .ok (.iload 4, 2) ∧ 23 + 2 = 25 := ⟨by decide +kernel, rfl⟩
set_option maxRecDepth 20000 in
theorem dX12_hungerIn_25 : decode cX12_hungerIn 25 = .ok (.imul, 1) ∧ 25 + 1 = 26 := ⟨by decide +kernel, rfl⟩
set_option maxRecDepth 20000 in
theorem dX12_hungerIn_26 : decode cX12_hungerIn 26 = .ok (.iadd, 1) ∧ 26 + 1 = 27 := ⟨by decide +kernel, rfl⟩
set_option maxRecDepth 20000 in
theorem dX12_hungerIn_27 : decode cX12_hungerIn 27 = .ok (.iconst 1, 1) ∧ 27 + 1 = 28 := ⟨by decide +kernel, rfl⟩
set_option maxRecDepth 20000 in
theorem dX12_hungerIn_28 : decode cX12_hungerIn 28 = .ok (.iadd, 1) ∧ 28 + 1 = 29 := ⟨by decide +kernel, rfl⟩
set_option maxRecDepth 20000 in
theorem dX12_hungerIn_29 : decode cX12_hungerIn 29 = .ok (.iaload, 1) ∧ 29 + 1 = 30 := ⟨by decide +kernel, rfl⟩
set_option maxRecDepth 20000 in
theorem dX12_hungerIn_30 : decode cX12_hungerIn 30 = .ok (.istore 5, 2) ∧ 30 + 2 = 32 := ⟨by decide +kernel, rfl⟩
set_option maxRecDepth 20000 in
theorem dX12_hungerIn_32 : decode cX12_hungerIn 32 = .ok (.aload_n 0, 1) ∧ 32 + 1 = 33 := ⟨by decide +kernel, rfl⟩
set_option maxRecDepth 20000 in
theorem dX12_hungerIn_33 : decode cX12_hungerIn 33 = .ok (.getfield 13, 3) ∧ 33 + 3 = 36 := ⟨by decide +kernel, rfl⟩
set_option maxRecDepth 20000 in
theorem dX12_hungerIn_36 : decode cX12_hungerIn 36 = .ok (.bipush 60, 2) ∧ 36 + 2 = 38 := ⟨by decide +kernel, rfl⟩
set_option maxRecDepth 20000 in
theorem dX12_hungerIn_38 : decode cX12_hungerIn 38 = .ok (.iconst 2, 1) ∧ 38 + 1 = 39 := ⟨by decide +kernel, rfl⟩
set_option maxRecDepth 20000 in
theorem dX12_hungerIn_39 : decode cX12_hungerIn 39 = .ok (.iload 4, 2) ∧ 39 + 2 = 41 := ⟨by decide +kernel, rfl⟩
set_option maxRecDepth 20000 in
theorem dX12_hungerIn_41 : decode cX12_hungerIn 41 = .ok (.imul, 1) ∧ 41 + 1 = 42 := ⟨by decide +kernel, rfl⟩
set_option maxRecDepth 20000 in
theorem dX12_hungerIn_42 : decode cX12_hungerIn 42 = .ok (.iadd, 1) ∧ 42 + 1 = 43 := ⟨by decide +kernel, rfl⟩
set_option maxRecDepth 20000 in
theorem dX12_hungerIn_43 : decode cX12_hungerIn 43 = .ok (.iaload, 1) ∧ 43 + 1 = 44 := ⟨by decide +kernel, rfl⟩
set_option maxRecDepth 20000 in
theorem dX12_hungerIn_44 : decode cX12_hungerIn 44 = .ok (.iload_n 1, 1) ∧ 44 + 1 = 45 := ⟨by decide +kernel, rfl⟩
set_option maxRecDepth 20000 in
theorem dX12_hungerIn_45 : decode cX12_hungerIn 45 = .ok (.if_icmp .ne 20, 3) ∧ 45 + 3 = 48 ∧ ((45 : Nat) : Int) + (20) = ((65 : Nat) : Int) := ⟨by decide +kernel, rfl, by decide⟩
set_option maxRecDepth 20000 in
theorem dX12_hungerIn_48 : decode cX12_hungerIn 48 = .ok (.iload 5, 2) ∧ 48 + 2 = 50 := ⟨by decide +kernel, rfl⟩
set_option maxRecDepth 20000 in
theorem dX12_hungerIn_50 : decode cX12_hungerIn 50 = .ok (.iload_n 2, 1) ∧ 50 + 1 = 51 := ⟨by decide +kernel, rfl⟩
set_option maxRecDepth 20000 in
theorem dX12_hungerIn_51 : decode cX12_hungerIn 51 = .ok (.if_icmp .gt 14, 3) ∧ 51 + 3 = 54 ∧ ((51 : Nat) : Int) + (14) = ((65 : Nat) : Int) := ⟨by decide +kernel, rfl, by decide⟩
set_option maxRecDepth 20000 in
theorem dX12_hungerIn_54 : decode cX12_hungerIn 54 = .ok (.iload 5, 2) ∧ 54 + 2 = 56 := ⟨by decide +kernel, rfl⟩
set_option maxRecDepth 20000 in
theorem dX12_hungerIn_56 : decode cX12_hungerIn 56 = .ok (.iload_n 3, 1) ∧ 56 + 1 = 57 := ⟨by decide +kernel, rfl⟩
set_option maxRecDepth 20000 in
theorem dX12_hungerIn_57 : decode cX12_hungerIn 57 = .ok (.if_icmp .le 8, 3) ∧ 57 + 3 = 60 ∧ ((57 : Nat) : Int) + (8) = ((65 : Nat) : Int) := ⟨by decide +kernel, rfl, by decide⟩
set_option maxRecDepth 20000 in
theorem dX12_hungerIn_60 : decode cX12_hungerIn 60 = .ok (.iload 5, 2) ∧ 60 + 2 = 62 := ⟨by decide +kernel, rfl⟩
set_option maxRecDepth 20000 in
theorem dX12_hungerIn_62 : decode cX12_hungerIn 62 = .ok (.goto 4, 3) ∧ ((62 : Nat) : Int) + (4) = ((66 : Nat) : Int) := ⟨by decide +kernel, by decide⟩
set_option maxRecDepth 20000 in
theorem dX12_hungerIn_65 : decode cX12_hungerIn 65 = .ok (.iload_n 3, 1) ∧ 65 + 1 = 66 := ⟨by decide +kernel, rfl⟩
set_option maxRecDepth 20000 in
theorem dX12_hungerIn_66 : decode cX12_hungerIn 66 = .ok (.istore_n 3, 1) ∧ 66 + 1 = 67 := ⟨by decide +kernel, rfl⟩
set_option maxRecDepth 20000 in
theorem dX12_hungerIn_67 : decode cX12_hungerIn 67 = .ok (.iinc 4 1, 3) ∧ 67 + 3 = 70 := ⟨by decide +kernel, rfl⟩
set_option maxRecDepth 20000 in
theorem dX12_hungerIn_70 : decode cX12_hungerIn 70 = .ok (.goto (-65), 3) ∧ ((70 : Nat) : Int) + (-65) = ((5 : Nat) : Int) := ⟨by decide +kernel, by decide⟩
set_option maxRecDepth 20000 in
theorem dX12_hungerIn_73 : decode cX12_hungerIn 73 = .ok (.iload_n 3, 1) ∧ 73 + 1 = 74 := ⟨by decide +kernel, rfl⟩
set_option maxRecDepth 20000 in
theorem dX12_hungerIn_74 : decode cX12_hungerIn 74 = .ok (.iconst (-1), 1) ∧ 74 + 1 = 75 := ⟨by decide +kernel, rfl⟩
set_option maxRecDepth 20000 in
theorem dX12_hungerIn_75 : decode cX12_hungerIn 75 = .ok (.if_icmp .ne 21, 3) ∧ 75 + 3 = 78 ∧ ((75 : Nat) : Int) + (21) = ((96 : Nat) : Int) := ⟨by decide +kernel, rfl, by decide⟩
set_option maxRecDepth 20000 in
theorem dX12_hungerIn_78 : decode cX12_hungerIn 78 = .ok (.aload_n 0, 1) ∧ 78 + 1 = 79 := ⟨by decide +kernel, rfl⟩
set_option maxRecDepth 20000 in
theorem dX12_hungerIn_79 : decode cX12_hungerIn 79 = .ok (.iload_n 1, 1) ∧ 79 + 1 = 80 := ⟨by decide +kernel, rfl⟩
set_option maxRecDepth 20000 in
theorem dX12_hungerIn_80 : decode cX12_hungerIn 80 = .ok (.iconst 1, 1) ∧ 80 + 1 = 81 := ⟨by decide +kernel, rfl⟩
set_option maxRecDepth 20000 in
theorem dX12_hungerIn_81 : decode cX12_hungerIn 81 = .ok (.invokevirtual 163, 3) ∧ 81 + 3 = 84 := ⟨by decide +kernel, rfl⟩
set_option maxRecDepth 20000 in
theorem dX12_hungerIn_84 : decode cX12_hungerIn 84 = .ok (.aload_n 0, 1) ∧ 84 + 1 = 85 := ⟨by decide +kernel, rfl⟩
set_option maxRecDepth 20000 in
theorem dX12_hungerIn_85 : decode cX12_hungerIn 85 = .ok (.iload_n 1, 1) ∧ 85 + 1 = 86 := ⟨by decide +kernel, rfl⟩
set_option maxRecDepth 20000 in
theorem dX12_hungerIn_86 : decode cX12_hungerIn 86 = .ok (.iconst 2, 1) ∧ 86 + 1 = 87 := ⟨by decide +kernel, rfl⟩
set_option maxRecDepth 20000 in
theorem dX12_hungerIn_87 : decode cX12_hungerIn 87 = .ok (.invokevirtual 163, 3) ∧ 87 + 3 = 90 := ⟨by decide +kernel, rfl⟩
set_option maxRecDepth 20000 in
theorem dX12_hungerIn_90 : decode cX12_hungerIn 90 = .ok (.iload_n 2, 1) ∧ 90 + 1 = 91 := ⟨by decide +kernel, rfl⟩
set_option maxRecDepth 20000 in
theorem dX12_hungerIn_91 : decode cX12_hungerIn 91 = .ok (.imul, 1) ∧ 91 + 1 = 92 := ⟨by decide +kernel, rfl⟩
set_option maxRecDepth 20000 in
theorem dX12_hungerIn_92 : decode cX12_hungerIn 92 = .ok (.iadd, 1) ∧ 92 + 1 = 93 := ⟨by decide +kernel, rfl⟩
set_option maxRecDepth 20000 in
theorem dX12_hungerIn_93 : decode cX12_hungerIn 93 = .ok (.goto 13, 3) ∧ ((93 : Nat) : Int) + (13) = ((106 : Nat) : Int) := ⟨by decide +kernel, by decide⟩
set_option maxRecDepth 20000 in
theorem dX12_hungerIn_96 : decode cX12_hungerIn 96 = .ok (.aload_n 0, 1) ∧ 96 + 1 = 97 := ⟨by decide +kernel, rfl⟩
set_option maxRecDepth 20000 in
theorem dX12_hungerIn_97 : decode cX12_hungerIn 97 = .ok (.iload_n 1, 1) ∧ 97 + 1 = 98 := ⟨by decide +kernel, rfl⟩
set_option maxRecDepth 20000 in
theorem dX12_hungerIn_98 : decode cX12_hungerIn 98 = .ok (.iconst 2, 1) ∧ 98 + 1 = 99 := ⟨by decide +kernel, rfl⟩
set_option maxRecDepth 20000 in
theorem dX12_hungerIn_99 : decode cX12_hungerIn 99 = .ok (.invokevirtual 163, 3) ∧ 99 + 3 = 102 := ⟨by decide +kernel, rfl⟩
set_option maxRecDepth 20000 in
theorem dX12_hungerIn_102 : decode cX12_hungerIn 102 = .ok (.iload_n 2, 1) ∧ 102 + 1 = 103 := ⟨by decide +kernel, rfl⟩
set_option maxRecDepth 20000 in
theorem dX12_hungerIn_103 : decode cX12_hungerIn 103 = .ok (.iload_n 3, 1) ∧ 103 + 1 = 104 := ⟨by decide +kernel, rfl⟩
set_option maxRecDepth 20000 in
theorem dX12_hungerIn_104 : decode cX12_hungerIn 104 = .ok (.isub, 1) ∧ 104 + 1 = 105 := ⟨by decide +kernel, rfl⟩
set_option maxRecDepth 20000 in
theorem dX12_hungerIn_105 : decode cX12_hungerIn 105 = .ok (.imul, 1) ∧ 105 + 1 = 106 := ⟨by decide +kernel, rfl⟩
set_option maxRecDepth 20000 in
theorem dX12_hungerIn_106 : decode cX12_hungerIn 106 = .ok (.istore 4, 2) ∧ 106 + 2 = 108 := ⟨by decide +kernel, rfl⟩
set_option maxRecDepth 20000 in
theorem dX12_hungerIn_108 : decode cX12_hungerIn 108 = .ok (.iload 4, 2) ∧ 108 + 2 = 110 := ⟨by decide +kernel, rfl⟩
set_option maxRecDepth 20000 in
theorem dX12_hungerIn_110 : decode cX12_hungerIn 110 = .ok (.bipush 99, 2) ∧ 110 + 2 = 112 := ⟨by decide +kernel, rfl⟩
set_option maxRecDepth 20000 in
theorem dX12_hungerIn_112 : decode cX12_hungerIn 112 = .ok (.if_icmp .le 8, 3) ∧ 112 + 3 = 115 ∧ ((112 : Nat) : Int) + (8) = ((120 : Nat) : Int) := ⟨by decide +kernel, rfl, by decide⟩
set_option maxRecDepth 20000 in
theorem dX12_hungerIn_115 : decode cX12_hungerIn 115 = .ok (.bipush 99, 2) ∧ 115 + 2 = 117 := ⟨by decide +kernel, rfl⟩
set_option maxRecDepth 20000 in
theorem dX12_hungerIn_117 : decode cX12_hungerIn 117 = .ok (.goto 5, 3) ∧ ((117 : Nat) : Int) + (5) = ((122 : Nat) : Int) := ⟨by decide +kernel, by decide⟩
set_option maxRecDepth 20000 in
theorem dX12_hungerIn_120 : decode cX12_hungerIn 120 = .ok (.iload 4, 2) ∧ 120 + 2 = 122 := ⟨by decide +kernel, rfl⟩
set_option maxRecDepth 20000 in
theorem dX12_hungerIn_122 : decode cX12_hungerIn 122 = .ok (.ireturn, 1) := by decide +kernel
set_option maxRecDepth 20000 in
theorem dX12_hunger_0 : decode cX12_hunger 0 = .ok (.aload_n 0, 1) ∧ 0 + 1 = 1 := ⟨by decide +kernel, rfl⟩
set_option maxRecDepth 20000 in
theorem dX12_hunger_1 : decode cX12_hunger 1 = .ok (.iconst 0, 1) ∧ 1 + 1 = 2 := ⟨by decide +kernel, rfl⟩
set_option maxRecDepth 20000 in
theorem dX12_hunger_2 : decode cX12_hunger 2 = .ok (.putfield 124, 3) ∧ 2 + 3 = 5 := ⟨by decide +kernel, rfl⟩
set_option maxRecDepth 20000 in
theorem dX12_hunger_5 : decode cX12_hunger 5 = .ok (.aload_n 0, 1) ∧ 5 + 1 = 6 := ⟨by decide +kernel, rfl⟩
set_option maxRecDepth 20000 in
theorem dX12_hunger_6 : decode cX12_hunger 6 = .ok (.iload_n 1, 1) ∧ 6 + 1 = 7 := ⟨by decide +kernel, rfl⟩
set_option maxRecDepth 20000 in
theorem dX12_hunger_7 : decode cX12_hunger 7 = .ok (.invokevirtual 153, 3) ∧ 7 + 3 = 10 := ⟨by decide +kernel, rfl⟩
set_option maxRecDepth 20000 in
theorem dX12_hunger_10 : decode cX12_hunger 10 = .ok (.ifCond .eq 19, 3) ∧ 10 + 3 = 13 ∧ ((10 : Nat) : Int) + (19) = ((29 : Nat) : Int) := ⟨by decide +kernel, rfl, by decide⟩
set_option maxRecDepth 20000 in
theorem dX12_hunger_13 : decode cX12_hunger 13 = .ok (.iload_n 2, 1) ∧ 13 + 1 = 14 := ⟨by decide +kernel, rfl⟩
set_option maxRecDepth 20000 in
theorem dX12_hunger_14 : decode cX12_hunger 14 = .ok (.invokestatic 166, 3) ∧ 14 + 3 = 17 := ⟨by decide +kernel, rfl⟩
set_option maxRecDepth 20000 in
theorem dX12_hunger_17 : decode cX12_hunger 17 = .ok (.ifCond .eq 12, 3) ∧ 17 + 3 = 20 ∧ ((17 : Nat) : Int) + (12) = ((29 : Nat) : Int) := ⟨by decide +kernel, rfl, by decide⟩
set_option maxRecDepth 20000 in
theorem dX12_hunger_20 : decode cX12_hunger 20 = .ok (.aload_n 0, 1) ∧ 20 + 1 = 21 := ⟨by decide +kernel, rfl⟩
set_option maxRecDepth 20000 in
theorem dX12_hunger_21 : decode cX12_hunger 21 = .ok (.iload_n 1, 1) ∧ 21 + 1 = 22 := ⟨by decide +kernel, rfl⟩
set_option maxRecDepth 20000 in
theorem dX12_hunger_22 : decode cX12_hunger 22 = .ok (.iload_n 2, 1) ∧ 22 + 1 = 23 := ⟨by decide +kernel, rfl⟩
set_option maxRecDepth 20000 in
theorem dX12_hunger_23 : decode cX12_hunger 23 = .ok (.invokevirtual 169, 3) ∧ 23 + 3 = 26 := ⟨by decide +kernel, rfl⟩
set_option maxRecDepth 20000 in
theorem dX12_hunger_26 : decode cX12_hunger 26 = .ok (.goto 4, 3) ∧ ((26 : Nat) : Int) + (4) = ((30 : Nat) : Int) := ⟨by decide +kernel, by decide⟩
set_option maxRecDepth 20000 in
theorem dX12_hunger_29 : decode cX12_hunger 29 = .ok (.iconst (-1), 1) ∧ 29 + 1 = 30 := ⟨by decide +kernel, rfl⟩
set_option maxRecDepth 20000 in
theorem dX12_hunger_30 : decode cX12_hunger 30 = .ok (.ireturn, 1) := by decide +kernel
set_option maxRecDepth 20000 in
theorem dX12_areBeasts_0 : decode cX12_areBeasts 0 = .ok (.iload_n 1, 1) ∧ 0 + 1 = 1 := ⟨by decide +kernel, rfl⟩
set_option maxRecDepth 20000 in
theorem dX12_areBeasts_1 : decode cX12_areBeasts 1 = .ok (.i2l, 1) ∧ 1 + 1 = 2 := ⟨by decide +kernel, rfl⟩
set_option maxRecDepth 20000 in
theorem dX12_areBeasts_2 : decode cX12_areBeasts 2 = .ok (.lconst 0, 1) ∧ 2 + 1 = 3 := ⟨by decide +kernel, rfl⟩
set_option maxRecDepth 20000 in
theorem dX12_areBeasts_3 : decode cX12_areBeasts 3 = .ok (.iconst 1, 1) ∧ 3 + 1 = 4 := ⟨by decide +kernel, rfl⟩
set_option maxRecDepth 20000 in
theorem dX12_areBeasts_4 : decode cX12_areBeasts 4 = .ok (.aload_n 0, 1) ∧ 4 + 1 = 5 := ⟨by decide +kernel, rfl⟩
set_option maxRecDepth 20000 in
theorem dX12_areBeasts_5 : decode cX12_areBeasts 5 = .ok (.getfield 13, 3) ∧ 5 + 3 = 8 := ⟨by decide +kernel, rfl⟩
set_option maxRecDepth 20000 in
theorem dX12_areBeasts_8 : decode cX12_areBeasts 8 = .ok (.iconst 0, 1) ∧ 8 + 1 = 9 := ⟨by decide +kernel, rfl⟩
set_option maxRecDepth 20000 in
theorem dX12_areBeasts_9 : decode cX12_areBeasts 9 = .ok (.iaload, 1) ∧ 9 + 1 = 10 := ⟨by decide +kernel, rfl⟩
set_option maxRecDepth 20000 in
theorem dX12_areBeasts_10 : decode cX12_areBeasts 10 = .ok (.ishl, 1) ∧ 10 + 1 = 11 := ⟨by decide +kernel, rfl⟩
set_option maxRecDepth 20000 in
theorem dX12_areBeasts_11 : decode cX12_areBeasts 11 = .ok (.i2l, 1) ∧ 11 + 1 = 12 := ⟨by decide +kernel, rfl⟩
set_option maxRecDepth 20000 in
theorem dX12_areBeasts_12 : decode cX12_areBeasts 12 = .ok (.lconst 1, 1) ∧ 12 + 1 = 13 := ⟨by decide +kernel, rfl⟩
set_option maxRecDepth 20000 in
theorem dX12_areBeasts_13 : decode cX12_areBeasts 13 = .ok (.lsub, 1) ∧ 13 + 1 = 14 := ⟨by decide +kernel, rfl⟩
set_option maxRecDepth 20000 in
theorem dX12_areBeasts_14 : decode cX12_areBeasts 14 = .ok (.invokestatic 134, 3) ∧ 14 + 3 = 17 := ⟨by decide +kernel, rfl⟩
set_option maxRecDepth 20000 in
theorem dX12_areBeasts_17 : decode cX12_areBeasts 17 = .ok (.ireturn, 1) := by decide +kernel
set_option maxRecDepth 20000 in
theorem dX12_bench_0 : decode cX12_bench 0 = .ok (.aload_n 0, 1) ∧ 0 + 1 = 1 := ⟨by decide +kernel, rfl⟩
set_option maxRecDepth 20000 in
theorem dX12_bench_1 : decode cX12_bench 1 = .ok (.iconst 0, 1) ∧ 1 + 1 = 2 := ⟨by decide +kernel, rfl⟩
set_option maxRecDepth 20000 in
theorem dX12_bench_2 : decode cX12_bench 2 = .ok (.putfield 124, 3) ∧ 2 + 3 = 5 := ⟨by decide +kernel, rfl⟩
set_option maxRecDepth 20000 in
theorem dX12_bench_5 : decode cX12_bench 5 = .ok (.aload_n 0, 1) ∧ 5 + 1 = 6 := ⟨by decide +kernel, rfl⟩
set_option maxRecDepth 20000 in
theorem dX12_bench_6 : decode cX12_bench 6 = .ok (.iload_n 1, 1) ∧ 6 + 1 = 7 := ⟨by decide +kernel, rfl⟩
set_option maxRecDepth 20000 in
theorem dX12_bench_7 : decode cX12_bench 7 = .ok (.invokevirtual 172, 3) ∧ 7 + 3 = 10 := ⟨by decide +kernel, rfl⟩
set_option maxRecDepth 20000 in
theorem dX12_bench_10 : decode cX12_bench 10 = .ok (.ifCond .eq 12, 3) ∧ 10 + 3 = 13 ∧ ((10 : Nat) : Int) + (12) = ((22 : Nat) : Int) := ⟨by decide +kernel, rfl, by decide⟩
set_option maxRecDepth 20000 in
theorem dX12_bench_13 : decode cX12_bench 13 = .ok (.aload_n 0, 1) ∧ 13 + 1 = 14 := ⟨by decide +kernel, rfl⟩
set_option maxRecDepth 20000 in
theorem dX12_bench_14 : decode cX12_bench 14 = .ok (.iconst 4, 1) ∧ 14 + 1 = 15 := ⟨by decide +kernel, rfl⟩
set_option maxRecDepth 20000 in
theorem dX12_bench_15 : decode cX12_bench 15 = .ok (.iload_n 1, 1) ∧ 15 + 1 = 16 := ⟨by decide +kernel, rfl⟩
set_option maxRecDepth 20000 in
theorem dX12_bench_16 : decode cX12_bench 16 = .ok (.invokevirtual 157, 3) ∧ 16 + 3 = 19 := ⟨by decide +kernel, rfl⟩
set_option maxRecDepth 20000 in
theorem dX12_bench_19 : decode cX12_bench 19 = .ok (.goto 8, 3) ∧ ((19 : Nat) : Int) + (8) = ((27 : Nat) : Int) := ⟨by decide +kernel, by decide⟩
set_option maxRecDepth 20000 in
theorem dX12_bench_22 : decode cX12_bench 22 = .ok (.aload_n 0, 1) ∧ 22 + 1 = 23 := ⟨by decide +kernel, rfl⟩
set_option maxRecDepth 20000 in
theorem dX12_bench_23 : decode cX12_bench 23 = .ok (.iconst (-1), 1) ∧ 23 + 1 = 24 := ⟨by decide +kernel, rfl⟩
set_option maxRecDepth 20000 in
theorem dX12_bench_24 : decode cX12_bench 24 = .ok (.invokevirtual 138, 3) ∧ 24 + 3 = 27 := ⟨by decide +kernel, rfl⟩
set_option maxRecDepth 20000 in
theorem dX12_bench_27 : decode cX12_bench 27 = .ok (.ireturn, 1) := by decide +kernel
set_option maxRecDepth 20000 in
theorem dX12_isTerm_0 : decode cX12_isTerm 0 = .ok (.iload_n 0, 1) ∧ 0 + 1 = 1 := ⟨by decide +kernel, rfl⟩
set_option maxRecDepth 20000 in
theorem dX12_isTerm_1 : decode cX12_isTerm 1 = .ok (.tableswitch 92 0 5 #[39, 49, 54, 62, 72, 82], 39) := by decide +kernel
set_option maxRecDepth 20000 in
theorem dX12_isTerm_40 : decode cX12_isTerm 40 = .ok (.iload_n 1, 1) ∧ 40 + 1 = 41 := ⟨by decide +kernel, rfl⟩
set_option maxRecDepth 20000 in
theorem dX12_isTerm_41 : decode cX12_isTerm 41 = .ok (.i2l, 1) ∧ 41 + 1 = 42 := ⟨by decide +kernel, rfl⟩
set_option maxRecDepth 20000 in
theorem dX12_isTerm_42 : decode cX12_isTerm 42 = .ok (.lconst 1, 1) ∧ 42 + 1 = 43 := ⟨by decide +kernel, rfl⟩
set_option maxRecDepth 20000 in
theorem dX12_isTerm_43 : decode cX12_isTerm 43 = .ok (.ldc2_w 175, 3) ∧ 43 + 3 = 46 := ⟨by decide +kernel, rfl⟩
set_option maxRecDepth 20000 in
theorem dX12_isTerm_46 : decode cX12_isTerm 46 = .ok (.invokestatic 134, 3) ∧ 46 + 3 = 49 := ⟨by decide +kernel, rfl⟩
set_option maxRecDepth 20000 in
theorem dX12_isTerm_49 : decode cX12_isTerm 49 = .ok (.ireturn, 1) := by decide +kernel
set_option maxRecDepth 20000 in
theorem dX12_isTerm_50 : decode cX12_isTerm 50 = .ok (.iload_n 1, 1) ∧ 50 + 1 = 51 := ⟨by decide +kernel, rfl⟩
set_option maxRecDepth 20000 in
theorem dX12_isTerm_51 : decode cX12_isTerm 51 = .ok (.invokestatic 166, 3) ∧ 51 + 3 = 54 := ⟨by decide +kernel, rfl⟩
set_option maxRecDepth 20000 in
theorem dX12_isTerm_54 : decode cX12_isTerm 54 = .ok (.ireturn, 1) := by decide +kernel
set_option maxRecDepth 20000 in
theorem dX12_isTerm_55 : decode cX12_isTerm 55 = .ok (.iload_n 1, 1) ∧ 55 + 1 = 56 := ⟨by decide +kernel, rfl⟩
set_option maxRecDepth 20000 in
theorem dX12_isTerm_56 : decode cX12_isTerm 56 = .ok (.i2l, 1) ∧ 56 + 1 = 57 := ⟨by decide +kernel, rfl⟩
set_option maxRecDepth 20000 in
theorem dX12_isTerm_57 : decode cX12_isTerm 57 = .ok (.lconst 0, 1) ∧ 57 + 1 = 58 := ⟨by decide +kernel, rfl⟩
set_option maxRecDepth 20000 in
theorem dX12_isTerm_58 : decode cX12_isTerm 58 = .ok (.lconst 1, 1) ∧ 58 + 1 = 59 := ⟨by decide +kernel, rfl⟩
set_option maxRecDepth 20000 in
theorem dX12_isTerm_59 : decode cX12_isTerm 59 = .ok (.invokestatic 134, 3) ∧ 59 + 3 = 62 := ⟨by decide +kernel, rfl⟩
set_option maxRecDepth 20000 in
theorem dX12_isTerm_62 : decode cX12_isTerm 62 = .ok (.ireturn, 1) := by decide +kernel
set_option maxRecDepth 20000 in
theorem dX12_isTerm_63 : decode cX12_isTerm 63 = .ok (.iload_n 1, 1) ∧ 63 + 1 = 64 := ⟨by decide +kernel, rfl⟩
set_option maxRecDepth 20000 in
theorem dX12_isTerm_64 : decode cX12_isTerm 64 = .ok (.i2l, 1) ∧ 64 + 1 = 65 := ⟨by decide +kernel, rfl⟩
set_option maxRecDepth 20000 in
theorem dX12_isTerm_65 : decode cX12_isTerm 65 = .ok (.lconst 0, 1) ∧ 65 + 1 = 66 := ⟨by decide +kernel, rfl⟩
set_option maxRecDepth 20000 in
theorem dX12_isTerm_66 : decode cX12_isTerm 66 = .ok (.ldc2_w 177, 3) ∧ 66 + 3 = 69 := ⟨by decide +kernel, rfl⟩
set_option maxRecDepth 20000 in
theorem dX12_isTerm_69 : decode cX12_isTerm 69 = .ok (.invokestatic 134, 3) ∧ 69 + 3 = 72 := ⟨by decide +kernel, rfl⟩
set_option maxRecDepth 20000 in
theorem dX12_isTerm_72 : decode cX12_isTerm 72 = .ok (.ireturn, 1) := by decide +kernel
set_option maxRecDepth 20000 in
theorem dX12_isTerm_73 : decode cX12_isTerm 73 = .ok (.iload_n 1, 1) ∧ 73 + 1 = 74 := ⟨by decide +kernel, rfl⟩
set_option maxRecDepth 20000 in
theorem dX12_isTerm_74 : decode cX12_isTerm 74 = .ok (.i2l, 1) ∧ 74 + 1 = 75 := ⟨by decide +kernel, rfl⟩
set_option maxRecDepth 20000 in
theorem dX12_isTerm_75 : decode cX12_isTerm 75 = .ok (.lconst 0, 1) ∧ 75 + 1 = 76 := ⟨by decide +kernel, rfl⟩
set_option maxRecDepth 20000 in
theorem dX12_isTerm_76 : decode cX12_isTerm 76 = .ok (.ldc2_w 177, 3) ∧ 76 + 3 = 79 := ⟨by decide +kernel, rfl⟩
set_option maxRecDepth 20000 in
theorem dX12_isTerm_79 : decode cX12_isTerm 79 = .ok (.invokestatic 134, 3) ∧ 79 + 3 = 82 := ⟨by decide +kernel, rfl⟩
set_option maxRecDepth 20000 in
theorem dX12_isTerm_82 : decode cX12_isTerm 82 = .ok (.ireturn, 1) := by decide +kernel
set_option maxRecDepth 20000 in
theorem dX12_isTerm_83 : decode cX12_isTerm 83 = .ok (.iload_n 1, 1) ∧ 83 + 1 = 84 := ⟨by decide +kernel, rfl⟩
set_option maxRecDepth 20000 in
theorem dX12_isTerm_84 : decode cX12_isTerm 84 = .ok (.i2l, 1) ∧ 84 + 1 = 85 := ⟨by decide +kernel, rfl⟩
set_option maxRecDepth 20000 in
theorem dX12_isTerm_85 : decode cX12_isTerm 85 = .ok (.lconst 0, 1) ∧ 85 + 1 = 86 := ⟨by decide +kernel, rfl⟩
set_option maxRecDepth 20000 in
theorem dX12_isTerm_86 : decode cX12_isTerm 86 = .ok (.ldc2_w 179, 3) ∧ 86 + 3 = 89 := ⟨by decide +kernel, rfl⟩
set_option maxRecDepth 20000 in
theorem dX12_isTerm_89 : decode cX12_isTerm 89 = .ok (.invokestatic 134, 3) ∧ 89 + 3 = 92 := ⟨by decide +kernel, rfl⟩
set_option maxRecDepth 20000 in
theorem dX12_isTerm_92 : decode cX12_isTerm 92 = .ok (.ireturn, 1) := by decide +kernel
set_option maxRecDepth 20000 in
theorem dX12_isTerm_93 : decode cX12_isTerm 93 = .ok (.iconst 0, 1) ∧ 93 + 1 = 94 := ⟨by decide +kernel, rfl⟩
set_option maxRecDepth 20000 in
theorem dX12_isTerm_94 : decode cX12_isTerm 94 = .ok (.ireturn, 1) := by decide +kernel
set_option maxRecDepth 20000 in
theorem dX12_terms_0 : decode cX12_terms 0 = .ok (.aload_n 0, 1) ∧ 0 + 1 = 1 := ⟨by decide +kernel, rfl⟩
set_option maxRecDepth 20000 in
theorem dX12_terms_1 : decode cX12_terms 1 = .ok (.iconst 0, 1) ∧ 1 + 1 = 2 := ⟨by decide +kernel, rfl⟩
set_option maxRecDepth 20000 in
theorem dX12_terms_2 : decode cX12_terms 2 = .ok (.putfield 124, 3) ∧ 2 + 3 = 5 := ⟨by decide +kernel, rfl⟩
set_option maxRecDepth 20000 in
theorem dX12_terms_5 : decode cX12_terms 5 = .ok (.iload_n 1, 1) ∧ 5 + 1 = 6 := ⟨by decide +kernel, rfl⟩
set_option maxRecDepth 20000 in
theorem dX12_terms_6 : decode cX12_terms 6 = .ok (.iload_n 2, 1) ∧ 6 + 1 = 7 := ⟨by decide +kernel, rfl⟩
set_option maxRecDepth 20000 in
theorem dX12_terms_7 : decode cX12_terms 7 = .ok (.invokestatic 181, 3) ∧ 7 + 3 = 10 := ⟨by decide +kernel, rfl⟩
set_option maxRecDepth 20000 in
theorem dX12_terms_10 : decode cX12_terms 10 = .ok (.ifCond .eq 14, 3) ∧ 10 + 3 = 13 ∧ ((10 : Nat) : Int) + (14) = ((24 : Nat) : Int) := ⟨by decide +kernel, rfl, by decide⟩
set_option maxRecDepth 20000 in
theorem dX12_terms_13 : decode cX12_terms 13 = .ok (.aload_n 0, 1) ∧ 13 + 1 = 14 := ⟨by decide +kernel, rfl⟩
set_option maxRecDepth 20000 in
theorem dX12_terms_14 : decode cX12_terms 14 = .ok (.iconst 5, 1) ∧ 14 + 1 = 15 := ⟨by decide +kernel, rfl⟩
set_option maxRecDepth 20000 in
theorem dX12_terms_15 : decode cX12_terms 15 = .ok (.iload_n 1, 1) ∧ 15 + 1 = 16 := ⟨by decide +kernel, rfl⟩
set_option maxRecDepth 20000 in
theorem dX12_terms_16 : decode cX12_terms 16 = .ok (.iadd, 1) ∧ 16 + 1 = 17 := ⟨by decide +kernel, rfl⟩
set_option maxRecDepth 20000 in
theorem dX12_terms_17 : decode cX12_terms 17 = .ok (.iload_n 2, 1) ∧ 17 + 1 = 18 := ⟨by decide +kernel, rfl⟩
set_option maxRecDepth 20000 in
theorem dX12_terms_18 : decode cX12_terms 18 = .ok (.invokevirtual 157, 3) ∧ 18 + 3 = 21 := ⟨by decide +kernel, rfl⟩
set_option maxRecDepth 20000 in
theorem dX12_terms_21 : decode cX12_terms 21 = .ok (.goto 8, 3) ∧ ((21 : Nat) : Int) + (8) = ((29 : Nat) : Int) := ⟨by decide +kernel, by decide⟩
set_option maxRecDepth 20000 in
theorem dX12_terms_24 : decode cX12_terms 24 = .ok (.aload_n 0, 1) ∧ 24 + 1 = 25 := ⟨by decide +kernel, rfl⟩
set_option maxRecDepth 20000 in
theorem dX12_terms_25 : decode cX12_terms 25 = .ok (.iconst (-1), 1) ∧ 25 + 1 = 26 := ⟨by decide +kernel, rfl⟩
set_option maxRecDepth 20000 in
theorem dX12_terms_26 : decode cX12_terms 26 = .ok (.invokevirtual 138, 3) ∧ 26 + 3 = 29 := ⟨by decide +kernel, rfl⟩
set_option maxRecDepth 20000 in
theorem dX12_terms_29 : decode cX12_terms 29 = .ok (.ireturn, 1) := by decide +kernel
set_option maxRecDepth 20000 in
theorem dX12_four_0 : decode cX12_four 0 = .ok (.bipush 24, 2) ∧ 0 + 2 = 2 := ⟨by decide +kernel, rfl⟩
set_option maxRecDepth 20000 in
theorem dX12_four_2 : decode cX12_four 2 = .ok (.istore_n 2, 1) ∧ 2 + 1 = 3 := ⟨by decide +kernel, rfl⟩
set_option maxRecDepth 20000 in
theorem dX12_four_3 : decode cX12_four 3 = .ok (.iload_n 2, 1) ∧ 3 + 1 = 4 := ⟨by decide +kernel, rfl⟩
set_option maxRecDepth 20000 in
theorem dX12_four_4 : decode cX12_four 4 = .ok (.ifCond .lt 35, 3) ∧ 4 + 3 = 7 ∧ ((4 : Nat) : Int) + (35) = ((39 : Nat) : Int) := ⟨by decide +kernel, rfl, by decide⟩
set_option maxRecDepth 20000 in
theorem dX12_four_7 : decode cX12_four 7 = .ok (.aload_n 0, 1) ∧ 7 + 1 = 8 := ⟨by decide +kernel, rfl⟩
set_option maxRecDepth 20000 in
theorem dX12_four_8 : decode cX12_four 8 = .ok (.getfield 23, 3) ∧ 8 + 3 = 11 := ⟨by decide +kernel, rfl⟩
set_option maxRecDepth 20000 in
theorem dX12_four_11 : decode cX12_four 11 = .ok (.aload_n 0, 1) ∧ 11 + 1 = 12 := ⟨by decide +kernel, rfl⟩
set_option maxRecDepth 20000 in
theorem dX12_four_12 : decode cX12_four 12 = .ok (.getfield 184, 3) ∧ 12 + 3 = 15 := ⟨by decide +kernel, rfl⟩
set_option maxRecDepth 20000 in
theorem dX12_four_15 : decode cX12_four 15 = .ok (.iload_n 1, 1) ∧ 15 + 1 = 16 := ⟨by decide +kernel, rfl⟩
set_option maxRecDepth 20000 in
theorem dX12_four_16 : decode cX12_four 16 = .ok (.iload_n 2, 1) ∧ 16 + 1 = 17 := ⟨by decide +kernel, rfl⟩
set_option maxRecDepth 20000 in
theorem dX12_four_17 : decode cX12_four 17 = .ok (.ishr, 1) ∧ 17 + 1 = 18 := ⟨by decide +kernel, rfl⟩
set_option maxRecDepth 20000 in
theorem dX12_four_18 : decode cX12_four 18 = .ok (.sipush 255, 3) ∧ 18 + 3 = 21 := ⟨by decide +kernel, rfl⟩
set_option maxRecDepth 20000 in
theorem dX12_four_21 : decode cX12_four 21 = .ok (.iand, 1) ∧ 21 + 1 = 22 := ⟨by decide +kernel, rfl⟩
set_option maxRecDepth 20000 in
theorem dX12_four_22 : decode cX12_four 22 = .ok (.iastore, 1) ∧ 22 + 1 = 23 := ⟨by decide +kernel, rfl⟩
set_option maxRecDepth 20000 in
theorem dX12_four_23 : decode cX12_four 23 = .ok (.aload_n 0, 1) ∧ 23 + 1 = 24 := ⟨by decide +kernel, rfl⟩
set_option maxRecDepth 20000 in
theorem dX12_four_24 : decode cX12_four 24 = .ok (.dup, 1) ∧ 24 + 1 = 25 := ⟨by decide +kernel, rfl⟩
set_option maxRecDepth 20000 in
theorem dX12_four_25 : decode cX12_four 25 = .ok (.getfield 184, 3) ∧ 25 + 3 = 28 := ⟨by decide +kernel, rfl⟩
set_option maxRecDepth 20000 in
theorem dX12_four_28 : decode cX12_four 28 = .ok (.iconst 1, 1) ∧ 28 + 1 = 29 := ⟨by decide +kernel, rfl⟩
set_option maxRecDepth 20000 in
theorem dX12_four_29 : decode cX12_four 29 = .ok (.iadd, 1) ∧ 29 + 1 = 30 := ⟨by decide +kernel, rfl⟩
set_option maxRecDepth 20000 in
theorem dX12_four_30 : decode cX12_four 30 = .ok (.putfield 184, 3) ∧ 30 + 3 = 33 := ⟨by decide +kernel, rfl⟩
set_option maxRecDepth 20000 in
theorem dX12_four_33 : decode cX12_four 33 = .ok (.iinc 2 (-8), 3) ∧ 33 + 3 = 36 := ⟨by decide +kernel, rfl⟩
set_option maxRecDepth 20000 in
theorem dX12_four_36 : decode cX12_four 36 = .ok (.goto (-33), 3) ∧ ((36 : Nat) : Int) + (-33) = ((3 : Nat) : Int) := ⟨by decide +kernel, by decide⟩
set_option maxRecDepth 20000 in
theorem dX12_four_39 : decode cX12_four 39 = .ok (.return_, 1) := by decide +kernel
set_option maxRecDepth 20000 in
theorem dX12_feed_0 : decode cX12_feed 0 = .ok (.aload_n 0, 1) ∧ 0 + 1 = 1 := ⟨by decide +kernel, rfl⟩
set_option maxRecDepth 20000 in
theorem dX12_feed_1 : decode cX12_feed 1 = .ok (.iconst 0, 1) ∧ 1 + 1 = 2 := ⟨by decide +kernel, rfl⟩
set_option maxRecDepth 20000 in
theorem dX12_feed_2 : decode cX12_feed 2 = .ok (.putfield 124, 3) ∧ 2 + 3 = 5 := ⟨by decide +kernel, rfl⟩
set_option maxRecDepth 20000 in
theorem dX12_feed_5 : decode cX12_feed 5 = .ok (.aload_n 0, 1) ∧ 5 + 1 = 6 := ⟨by decide +kernel, rfl⟩
set_option maxRecDepth 20000 in
theorem dX12_feed_6 : decode cX12_feed 6 = .ok (.getfield 184, 3) ∧ 6 + 3 = 9 := ⟨by decide +kernel, rfl⟩
set_option maxRecDepth 20000 in
theorem dX12_feed_9 : decode cX12_feed 9 = .ok (.bipush 20, 2) ∧ 9 + 2 = 11 := ⟨by decide +kernel, rfl⟩
set_option maxRecDepth 20000 in
theorem dX12_feed_11 : decode cX12_feed 11 = .ok (.iadd, 1) ∧ 11 + 1 = 12 := ⟨by decide +kernel, rfl⟩
set_option maxRecDepth 20000 in
theorem dX12_feed_12 : decode cX12_feed 12 = .ok (.sipush 400, 3) ∧ 12 + 3 = 15 := ⟨by decide +kernel, rfl⟩
set_option maxRecDepth 20000 in
theorem dX12_feed_15 : decode cX12_feed 15 = .ok (.if_icmp .le 5, 3) ∧ 15 + 3 = 18 ∧ ((15 : Nat) : Int) + (5) = ((20 : Nat) : Int) := ⟨by decide +kernel, rfl, by decide⟩
set_option maxRecDepth 20000 in
theorem dX12_feed_18 : decode cX12_feed 18 = .ok (.iconst (-1), 1) ∧ 18 + 1 = 19 := ⟨by decide +kernel, rfl⟩
set_option maxRecDepth 20000 in
theorem dX12_feed_19 : decode cX12_feed 19 = .ok (.ireturn, 1) := by decide +kernel
set_option maxRecDepth 20000 in
theorem dX12_feed_20 : decode cX12_feed 20 = .ok (.aload_n 0, 1) ∧ 20 + 1 = 21 := ⟨by decide +kernel, rfl⟩
set_option maxRecDepth 20000 in
theorem dX12_feed_21 : decode cX12_feed 21 = .ok (.iload_n 1, 1) ∧ 21 + 1 = 22 := ⟨by decide +kernel, rfl⟩
set_option maxRecDepth 20000 in
theorem dX12_feed_22 : decode cX12_feed 22 = .ok (.invokevirtual 187, 3) ∧ 22 + 3 = 25 := ⟨by decide +kernel, rfl⟩
set_option maxRecDepth 20000 in
theorem dX12_feed_25 : decode cX12_feed 25 = .ok (.aload_n 0, 1) ∧ 25 + 1 = 26 := ⟨by decide +kernel, rfl⟩
set_option maxRecDepth 20000 in
theorem dX12_feed_26 : decode cX12_feed 26 = .ok (.iload_n 2, 1) ∧ 26 + 1 = 27 := ⟨by decide +kernel, rfl⟩
set_option maxRecDepth 20000 in
theorem dX12_feed_27 : decode cX12_feed 27 = .ok (.invokevirtual 187, 3) ∧ 27 + 3 = 30 := ⟨by decide +kernel, rfl⟩
set_option maxRecDepth 20000 in
theorem dX12_feed_30 : decode cX12_feed 30 = .ok (.aload_n 0, 1) ∧ 30 + 1 = 31 := ⟨by decide +kernel, rfl⟩
set_option maxRecDepth 20000 in
theorem dX12_feed_31 : decode cX12_feed 31 = .ok (.iload_n 3, 1) ∧ 31 + 1 = 32 := ⟨by decide +kernel, rfl⟩
set_option maxRecDepth 20000 in
theorem dX12_feed_32 : decode cX12_feed 32 = .ok (.invokevirtual 187, 3) ∧ 32 + 3 = 35 := ⟨by decide +kernel, rfl⟩
set_option maxRecDepth 20000 in
theorem dX12_feed_35 : decode cX12_feed 35 = .ok (.aload_n 0, 1) ∧ 35 + 1 = 36 := ⟨by decide +kernel, rfl⟩
set_option maxRecDepth 20000 in
theorem dX12_feed_36 : decode cX12_feed 36 = .ok (.iload 4, 2) ∧ 36 + 2 = 38 := ⟨by decide +kernel, rfl⟩
set_option maxRecDepth 20000 in
theorem dX12_feed_38 : decode cX12_feed 38 = .ok (.invokevirtual 187, 3) ∧ 38 + 3 = 41 := ⟨by decide +kernel, rfl⟩
set_option maxRecDepth 20000 in
theorem dX12_feed_41 : decode cX12_feed 41 = .ok (.aload_n 0, 1) ∧ 41 + 1 = 42 := ⟨by decide +kernel, rfl⟩
set_option maxRecDepth 20000 in
theorem dX12_feed_42 : decode cX12_feed 42 = .ok (.iload 5, 2) ∧ 42 + 2 = 44 := ⟨by decide +kernel, rfl⟩
set_option maxRecDepth 20000 in
theorem dX12_feed_44 : decode cX12_feed 44 = .ok (.invokevirtual 187, 3) ∧ 44 + 3 = 47 := ⟨by decide +kernel, rfl⟩
set_option maxRecDepth 20000 in
theorem dX12_feed_47 : decode cX12_feed 47 = .ok (.aload_n 0, 1) ∧ 47 + 1 = 48 := ⟨by decide +kernel, rfl⟩
set_option maxRecDepth 20000 in
theorem dX12_feed_48 : decode cX12_feed 48 = .ok (.getfield 184, 3) ∧ 48 + 3 = 51 := ⟨by decide +kernel, rfl⟩
set_option maxRecDepth 20000 in
theorem dX12_feed_51 : decode cX12_feed 51 = .ok (.ireturn, 1) := by decide +kernel
set_option maxRecDepth 20000 in
theorem dX12_end_0 : decode cX12_end 0 = .ok (.aload_n 0, 1) ∧ 0 + 1 = 1 := ⟨by decide +kernel, rfl⟩
set_option maxRecDepth 20000 in
theorem dX12_end_1 : decode cX12_end 1 = .ok (.iconst 0, 1) ∧ 1 + 1 = 2 := ⟨by decide +kernel, rfl⟩
set_option maxRecDepth 20000 in
theorem dX12_end_2 : decode cX12_end 2 = .ok (.putfield 124, 3) ∧ 2 + 3 = 5 := ⟨by decide +kernel, rfl⟩
set_option maxRecDepth 20000 in
theorem dX12_end_5 : decode cX12_end 5 = .ok (.iload_n 1, 1) ∧ 5 + 1 = 6 := ⟨by decide +kernel, rfl⟩
set_option maxRecDepth 20000 in
theorem dX12_end_6 : decode cX12_end 6 = .ok (.ifCond .lt 11, 3) ∧ 6 + 3 = 9 ∧ ((6 : Nat) : Int) + (11) = ((17 : Nat) : Int) := ⟨by decide +kernel, rfl, by decide⟩
set_option maxRecDepth 20000 in
theorem dX12_end_9 : decode cX12_end 9 = .ok (.iload_n 1, 1) ∧ 9 + 1 = 10 := ⟨by decide +kernel, rfl⟩
set_option maxRecDepth 20000 in
theorem dX12_end_10 : decode cX12_end 10 = .ok (.aload_n 0, 1) ∧ 10 + 1 = 11 := ⟨by decide +kernel, rfl⟩
set_option maxRecDepth 20000 in
theorem dX12_end_11 : decode cX12_end 11 = .ok (.getfield 184, 3) ∧ 11 + 3 = 14 := ⟨by decide +kernel, rfl⟩
set_option maxRecDepth 20000 in
theorem dX12_end_14 : decode cX12_end 14 = .ok (.if_icmp .le 5, 3) ∧ 14 + 3 = 17 ∧ ((14 : Nat) : Int) + (5) = ((19 : Nat) : Int) := ⟨by decide +kernel, rfl, by decide⟩
set_option maxRecDepth 20000 in
theorem dX12_end_17 : decode cX12_end 17 = .ok (.iconst (-1), 1) ∧ 17 + 1 = 18 := ⟨by decide +kernel, rfl⟩
set_option maxRecDepth 20000 in
theorem dX12_end_18 : decode cX12_end 18 = .ok (.ireturn, 1) := by decide +kernel
set_option maxRecDepth 20000 in
theorem dX12_end_19 : decode cX12_end 19 = .ok (.aload_n 0, 1) ∧ 19 + 1 = 20 := ⟨by decide +kernel, rfl⟩
set_option maxRecDepth 20000 in
theorem dX12_end_20 : decode cX12_end 20 = .ok (.iload_n 1, 1) ∧ 20 + 1 = 21 := ⟨by decide +kernel, rfl⟩
set_option maxRecDepth 20000 in
theorem dX12_end_21 : decode cX12_end 21 = .ok (.putfield 184, 3) ∧ 21 + 3 = 24 := ⟨by decide +kernel, rfl⟩
set_option maxRecDepth 20000 in
theorem dX12_end_24 : decode cX12_end 24 = .ok (.iload_n 1, 1) ∧ 24 + 1 = 25 := ⟨by decide +kernel, rfl⟩
set_option maxRecDepth 20000 in
theorem dX12_end_25 : decode cX12_end 25 = .ok (.ireturn, 1) := by decide +kernel
set_option maxRecDepth 20000 in
theorem dX12_isSmall_0 : decode cX12_isSmall 0 = .ok (.iload_n 0, 1) ∧ 0 + 1 = 1 := ⟨by decide +kernel, rfl⟩
set_option maxRecDepth 20000 in
theorem dX12_isSmall_1 : decode cX12_isSmall 1 = .ok (.bipush 97, 2) ∧ 1 + 2 = 3 := ⟨by decide +kernel, rfl⟩
set_option maxRecDepth 20000 in
theorem dX12_isSmall_3 : decode cX12_isSmall 3 = .ok (.if_icmp .lt 13, 3) ∧ 3 + 3 = 6 ∧ ((3 : Nat) : Int) + (13) = ((16 : Nat) : Int) := ⟨by decide +kernel, rfl, by decide⟩
set_option maxRecDepth 20000 in
theorem dX12_isSmall_6 : decode cX12_isSmall 6 = .ok (.iload_n 0, 1) ∧ 6 + 1 = 7 := ⟨by decide +kernel, rfl⟩
set_option maxRecDepth 20000 in
theorem dX12_isSmall_7 : decode cX12_isSmall 7 = .ok (.bipush 122, 2) ∧ 7 + 2 = 9 := ⟨by decide +kernel, rfl⟩
set_option maxRecDepth 20000 in
theorem dX12_isSmall_9 : decode cX12_isSmall 9 = .ok (.if_icmp .gt 7, 3) ∧ 9 + 3 = 12 ∧ ((9 : Nat) : Int) + (7) = ((16 : Nat) : Int) := ⟨by decide +kernel, rfl, by decide⟩
set_option maxRecDepth 20000 in
theorem dX12_isSmall_12 : decode cX12_isSmall 12 = .ok (.iconst 1, 1) ∧ 12 + 1 = 13 := ⟨by decide +kernel, rfl⟩
set_option maxRecDepth 20000 in
theorem dX12_isSmall_13 : decode cX12_isSmall 13 = .ok (.goto 4, 3) ∧ ((13 : Nat) : Int) + (4) = ((17 : Nat) : Int) := ⟨by decide +kernel, by decide⟩
set_option maxRecDepth 20000 in
theorem dX12_isSmall_16 : decode cX12_isSmall 16 = .ok (.iconst 0, 1) ∧ 16 + 1 = 17 := ⟨by decide +kernel, rfl⟩
set_option maxRecDepth 20000 in
theorem dX12_isSmall_17 : decode cX12_isSmall 17 = .ok (.ireturn, 1) := by decide +kernel
set_option maxRecDepth 20000 in
theorem dX12_isDigit_0 : decode cX12_isDigit 0 = .ok (.iload_n 0, 1) ∧ 0 + 1 = 1 := ⟨by decide +kernel, rfl⟩
set_option maxRecDepth 20000 in
theorem dX12_isDigit_1 : decode cX12_isDigit 1 = .ok (.bipush 48, 2) ∧ 1 + 2 = 3 := ⟨by decide +kernel, rfl⟩
set_option maxRecDepth 20000 in
theorem dX12_isDigit_3 : decode cX12_isDigit 3 = .ok (.if_icmp .lt 13, 3) ∧ 3 + 3 = 6 ∧ ((3 : Nat) : Int) + (13) = ((16 : Nat) : Int) := ⟨by decide +kernel, rfl, by decide⟩
set_option maxRecDepth 20000 in
theorem dX12_isDigit_6 : decode cX12_isDigit 6 = .ok (.iload_n 0, 1) ∧ 6 + 1 = 7 := ⟨by decide +kernel, rfl⟩
set_option maxRecDepth 20000 in
theorem dX12_isDigit_7 : decode cX12_isDigit 7 = .ok (.bipush 57, 2) ∧ 7 + 2 = 9 := ⟨by decide +kernel, rfl⟩
set_option maxRecDepth 20000 in
theorem dX12_isDigit_9 : decode cX12_isDigit 9 = .ok (.if_icmp .gt 7, 3) ∧ 9 + 3 = 12 ∧ ((9 : Nat) : Int) + (7) = ((16 : Nat) : Int) := ⟨by decide +kernel, rfl, by decide⟩
set_option maxRecDepth 20000 in
theorem dX12_isDigit_12 : decode cX12_isDigit 12 = .ok (.iconst 1, 1) ∧ 12 + 1 = 13 := ⟨by decide +kernel, rfl⟩
set_option maxRecDepth 20000 in
theorem dX12_isDigit_13 : decode cX12_isDigit 13 = .ok (.goto 4, 3) ∧ ((13 : Nat) : Int) + (4) = ((17 : Nat) : Int) := ⟨by decide +kernel, by decide⟩
set_option maxRecDepth 20000 in
theorem dX12_isDigit_16 : decode cX12_isDigit 16 = .ok (.iconst 0, 1) ∧ 16 + 1 = 17 := ⟨by decide +kernel, rfl⟩
set_option maxRecDepth 20000 in
theorem dX12_isDigit_17 : decode cX12_isDigit 17 = .ok (.ireturn, 1) := by decide +kernel
set_option maxRecDepth 20000 in
theorem dX12_begin_0 : decode cX12_begin 0 = .ok (.aload_n 0, 1) ∧ 0 + 1 = 1 := ⟨by decide +kernel, rfl⟩
set_option maxRecDepth 20000 in
theorem dX12_begin_1 : decode cX12_begin 1 = .ok (.iconst 0, 1) ∧ 1 + 1 = 2 := ⟨by decide +kernel, rfl⟩
set_option maxRecDepth 20000 in
theorem dX12_begin_2 : decode cX12_begin 2 = .ok (.putfield 191, 3) ∧ 2 + 3 = 5 := ⟨by decide +kernel, rfl⟩
set_option maxRecDepth 20000 in
theorem dX12_begin_5 : decode cX12_begin 5 = .ok (.aload_n 0, 1) ∧ 5 + 1 = 6 := ⟨by decide +kernel, rfl⟩
set_option maxRecDepth 20000 in
theorem dX12_begin_6 : decode cX12_begin 6 = .ok (.iconst 0, 1) ∧ 6 + 1 = 7 := ⟨by decide +kernel, rfl⟩
set_option maxRecDepth 20000 in
theorem dX12_begin_7 : decode cX12_begin 7 = .ok (.putfield 194, 3) ∧ 7 + 3 = 10 := ⟨by decide +kernel, rfl⟩
set_option maxRecDepth 20000 in
theorem dX12_begin_10 : decode cX12_begin 10 = .ok (.aload_n 0, 1) ∧ 10 + 1 = 11 := ⟨by decide +kernel, rfl⟩
set_option maxRecDepth 20000 in
theorem dX12_begin_11 : decode cX12_begin 11 = .ok (.iconst (-1), 1) ∧ 11 + 1 = 12 := ⟨by decide +kernel, rfl⟩
set_option maxRecDepth 20000 in
theorem dX12_begin_12 : decode cX12_begin 12 = .ok (.putfield 26, 3) ∧ 12 + 3 = 15 := ⟨by decide +kernel, rfl⟩
set_option maxRecDepth 20000 in
theorem dX12_begin_15 : decode cX12_begin 15 = .ok (.aload_n 0, 1) ∧ 15 + 1 = 16 := ⟨by decide +kernel, rfl⟩
set_option maxRecDepth 20000 in
theorem dX12_begin_16 : decode cX12_begin 16 = .ok (.invokevirtual 198, 3) ∧ 16 + 3 = 19 := ⟨by decide +kernel, rfl⟩
set_option maxRecDepth 20000 in
theorem dX12_begin_19 : decode cX12_begin 19 = .ok (.return_, 1) := by decide +kernel
set_option maxRecDepth 20000 in
theorem dX12_next_0 : decode cX12_next 0 = .ok (.aload_n 0, 1) ∧ 0 + 1 = 1 := ⟨by decide +kernel, rfl⟩
set_option maxRecDepth 20000 in
theorem dX12_next_1 : decode cX12_next 1 = .ok (.aload_n 0, 1) ∧ 1 + 1 = 2 := ⟨by decide +kernel, rfl⟩
set_option maxRecDepth 20000 in
theorem dX12_next_2 : decode cX12_next 2 = .ok (.getfield 191, 3) ∧ 2 + 3 = 5 := ⟨by decide +kernel, rfl⟩
set_option maxRecDepth 20000 in
theorem dX12_next_5 : decode cX12_next 5 = .ok (.putfield 201, 3) ∧ 5 + 3 = 8 := ⟨by decide +kernel, rfl⟩
set_option maxRecDepth 20000 in
theorem dX12_next_8 : decode cX12_next 8 = .ok (.aload_n 0, 1) ∧ 8 + 1 = 9 := ⟨by decide +kernel, rfl⟩
set_option maxRecDepth 20000 in
theorem dX12_next_9 : decode cX12_next 9 = .ok (.getfield 201, 3) ∧ 9 + 3 = 12 := ⟨by decide +kernel, rfl⟩
set_option maxRecDepth 20000 in
theorem dX12_next_12 : decode cX12_next 12 = .ok (.aload_n 0, 1) ∧ 12 + 1 = 13 := ⟨by decide +kernel, rfl⟩
set_option maxRecDepth 20000 in
theorem dX12_next_13 : decode cX12_next 13 = .ok (.getfield 184, 3) ∧ 13 + 3 = 16 := ⟨by decide +kernel, rfl⟩
set_option maxRecDepth 20000 in
theorem dX12_next_16 : decode cX12_next 16 = .ok (.if_icmp .ge 30, 3) ∧ 16 + 3 = 19 ∧ ((16 : Nat) : Int) + (30) = ((46 : Nat) : Int) := ⟨by decide +kernel, rfl, by decide⟩
set_option maxRecDepth 20000 in
theorem dX12_next_19 : decode cX12_next 19 = .ok (.aload_n 0, 1) ∧ 19 + 1 = 20 := ⟨by decide +kernel, rfl⟩
set_option maxRecDepth 20000 in
theorem dX12_next_20 : decode cX12_next 20 = .ok (.getfield 23, 3) ∧ 20 + 3 = 23 := ⟨by decide +kernel, rfl⟩
set_option maxRecDepth 20000 in
theorem dX12_next_23 : decode cX12_next 23 = .ok (.aload_n 0, 1) ∧ 23 + 1 = 24 := ⟨by decide +kernel, rfl⟩
set_option maxRecDepth 20000 in
theorem dX12_next_24 : decode cX12_next 24 = .ok (.getfield 201, 3) ∧ 24 + 3 = 27 := ⟨by decide +kernel, rfl⟩
set_option maxRecDepth 20000 in
theorem dX12_next_27 : decode cX12_next 27 = .ok (.iaload, 1) ∧ 27 + 1 = 28 := ⟨by decide +kernel, rfl⟩
set_option maxRecDepth 20000 in
theorem dX12_next_28 : decode cX12_next 28 = .ok (.bipush 32, 2) ∧ 28 + 2 = 30 := ⟨by decide +kernel, rfl⟩
set_option maxRecDepth 20000 in
theorem dX12_next_30 : decode cX12_next 30 = .ok (.if_icmp .ne 16, 3) ∧ 30 + 3 = 33 ∧ ((30 : Nat) : Int) + (16) = ((46 : Nat) : Int) := ⟨by decide +kernel, rfl, by decide⟩
set_option maxRecDepth 20000 in
theorem dX12_next_33 : decode cX12_next 33 = .ok (.aload_n 0, 1) ∧ 33 + 1 = 34 := ⟨by decide +kernel, rfl⟩
set_option maxRecDepth 20000 in
theorem dX12_next_34 : decode cX12_next 34 = .ok (.dup, 1) ∧ 34 + 1 = 35 := ⟨by decide +kernel, rfl⟩
set_option maxRecDepth 20000 in
theorem dX12_next_35 : decode cX12_next 35 = .ok (.getfield 201, 3) ∧ 35 + 3 = 38 := ⟨by decide +kernel, rfl⟩
set_option maxRecDepth 20000 in
theorem dX12_next_38 : decode cX12_next 38 = .ok (.iconst 1, 1) ∧ 38 + 1 = 39 := ⟨by decide +kernel, rfl⟩
set_option maxRecDepth 20000 in
theorem dX12_next_39 : decode cX12_next 39 = .ok (.iadd, 1) ∧ 39 + 1 = 40 := ⟨by decide +kernel, rfl⟩
set_option maxRecDepth 20000 in
theorem dX12_next_40 : decode cX12_next 40 = .ok (.putfield 201, 3) ∧ 40 + 3 = 43 := ⟨by decide +kernel, rfl⟩
set_option maxRecDepth 20000 in
theorem dX12_next_43 : decode cX12_next 43 = .ok (.goto (-35), 3) ∧ ((43 : Nat) : Int) + (-35) = ((8 : Nat) : Int) := ⟨by decide +kernel, by decide⟩
set_option maxRecDepth 20000 in
theorem dX12_next_46 : decode cX12_next 46 = .ok (.aload_n 0, 1) ∧ 46 + 1 = 47 := ⟨by decide +kernel, rfl⟩
set_option maxRecDepth 20000 in
theorem dX12_next_47 : decode cX12_next 47 = .ok (.aload_n 0, 1) ∧ 47 + 1 = 48 := ⟨by decide +kernel, rfl⟩
set_option maxRecDepth 20000 in
theorem dX12_next_48 : decode cX12_next 48 = .ok (.getfield 201, 3) ∧ 48 + 3 = 51 := ⟨by decide +kernel, rfl⟩
set_option maxRecDepth 20000 in
theorem dX12_next_51 : decode cX12_next 51 = .ok (.putfield 191, 3) ∧ 51 + 3 = 54 := ⟨by decide +kernel, rfl⟩
set_option maxRecDepth 20000 in
theorem dX12_next_54 : decode cX12_next 54 = .ok (.aload_n 0, 1) ∧ 54 + 1 = 55 := ⟨by decide +kernel, rfl⟩
set_option maxRecDepth 20000 in
theorem dX12_next_55 : decode cX12_next 55 = .ok (.lconst 0, 1) ∧ 55 + 1 = 56 := ⟨by decide +kernel, rfl⟩
set_option maxRecDepth 20000 in
theorem dX12_next_56 : decode cX12_next 56 = .ok (.putfield 204, 3) ∧ 56 + 3 = 59 := ⟨by decide +kernel, rfl⟩
set_option maxRecDepth 20000 in
theorem dX12_next_59 : decode cX12_next 59 = .ok (.aload_n 0, 1) ∧ 59 + 1 = 60 := ⟨by decide +kernel, rfl⟩
set_option maxRecDepth 20000 in
theorem dX12_next_60 : decode cX12_next 60 = .ok (.aload_n 0, 1) ∧ 60 + 1 = 61 := ⟨by decide +kernel, rfl⟩
set_option maxRecDepth 20000 in
theorem dX12_next_61 : decode cX12_next 61 = .ok (.getfield 201, 3) ∧ 61 + 3 = 64 := ⟨by decide +kernel, rfl⟩
set_option maxRecDepth 20000 in
theorem dX12_next_64 : decode cX12_next 64 = .ok (.aload_n 0, 1) ∧ 64 + 1 = 65 := ⟨by decide +kernel, rfl⟩
set_option maxRecDepth 20000 in
theorem dX12_next_65 : decode cX12_next 65 = .ok (.getfield 184, 3) ∧ 65 + 3 = 68 := ⟨by decide +kernel, rfl⟩
set_option maxRecDepth 20000 in
theorem dX12_next_68 : decode cX12_next 68 = .ok (.if_icmp .ne 7, 3) ∧ 68 + 3 = 71 ∧ ((68 : Nat) : Int) + (7) = ((75 : Nat) : Int) := ⟨by decide +kernel, rfl, by decide⟩
set_option maxRecDepth 20000 in
theorem dX12_next_71 : decode cX12_next 71 = .ok (.iconst 0, 1) ∧ 71 + 1 = 72 := ⟨by decide +kernel, rfl⟩
set_option maxRecDepth 20000 in
theorem dX12_next_72 : decode cX12_next 72 = .ok (.goto 42, 3) ∧ ((72 : Nat) : Int) + (42) = ((114 : Nat) : Int) := ⟨by decide +kernel, by decide⟩
set_option maxRecDepth 20000 in
theorem dX12_next_75 : decode cX12_next 75 = .ok (.aload_n 0, 1) ∧ 75 + 1 = 76 := ⟨by decide +kernel, rfl⟩
set_option maxRecDepth 20000 in
theorem dX12_next_76 : decode cX12_next 76 = .ok (.getfield 23, 3) ∧ 76 + 3 = 79 := ⟨by decide +kernel, rfl⟩
set_option maxRecDepth 20000 in
theorem dX12_next_79 : decode cX12_next 79 = .ok (.aload_n 0, 1) ∧ 79 + 1 = 80 := ⟨by decide +kernel, rfl⟩
set_option maxRecDepth 20000 in
theorem dX12_next_80 : decode cX12_next 80 = .ok (.getfield 201, 3) ∧ 80 + 3 = 83 := ⟨by decide +kernel, rfl⟩
set_option maxRecDepth 20000 in
theorem dX12_next_83 : decode cX12_next 83 = .ok (.iaload, 1) ∧ 83 + 1 = 84 := ⟨by decide +kernel, rfl⟩
set_option maxRecDepth 20000 in
theorem dX12_next_84 : decode cX12_next 84 = .ok (.invokestatic 208, 3) ∧ 84 + 3 = 87 := ⟨by decide +kernel, rfl⟩
set_option maxRecDepth 20000 in
theorem dX12_next_87 : decode cX12_next 87 = .ok (.ifCond .eq 7, 3) ∧ 87 + 3 = 90 ∧ ((87 : Nat) : Int) + (7) = ((94 : Nat) : Int) := ⟨by decide +kernel, rfl, by decide⟩
set_option maxRecDepth 20000 in
theorem dX12_next_90 : decode cX12_next 90 = .ok (.iconst 1, 1) ∧ 90 + 1 = 91 := ⟨by decide +kernel, rfl⟩
set_option maxRecDepth 20000 in
theorem dX12_next_91 : decode cX12_next 91 = .ok (.goto 23, 3) ∧ ((91 : Nat) : Int) + (23) = ((114 : Nat) : Int) := ⟨by decide +kernel, by decide⟩
set_option maxRecDepth 20000 in
theorem dX12_next_94 : decode cX12_next 94 = .ok (.aload_n 0, 1) ∧ 94 + 1 = 95 := ⟨by decide +kernel, rfl⟩
set_option maxRecDepth 20000 in
theorem dX12_next_95 : decode cX12_next 95 = .ok (.getfield 23, 3) ∧ 95 + 3 = 98 := ⟨by decide +kernel, rfl⟩
set_option maxRecDepth 20000 in
theorem dX12_next_98 : decode cX12_next 98 = .ok (.aload_n 0, 1) ∧ 98 + 1 = 99 := ⟨by decide +kernel, rfl⟩
set_option maxRecDepth 20000 in
theorem dX12_next_99 : decode cX12_next 99 = .ok (.getfield 201, 3) ∧ 99 + 3 = 102 := ⟨by decide +kernel, rfl⟩
set_option maxRecDepth 20000 in
theorem dX12_next_102 : decode cX12_next 102 = .ok (.iaload, 1) ∧ 102 + 1 = 103 := ⟨by decide +kernel, rfl⟩
set_option maxRecDepth 20000 in
theorem dX12_next_103 : decode cX12_next 103 = .ok (.invokestatic 211, 3) ∧ 103 + 3 = 106 := ⟨by decide +kernel, rfl⟩
set_option maxRecDepth 20000 in
theorem dX12_next_106 : decode cX12_next 106 = .ok (.ifCond .eq 7, 3) ∧ 106 + 3 = 109 ∧ ((106 : Nat) : Int) + (7) = ((113 : Nat) : Int) := ⟨by decide +kernel, rfl, by decide⟩
set_option maxRecDepth 20000 in
theorem dX12_next_109 : decode cX12_next 109 = .ok (.iconst 2, 1) ∧ 109 + 1 = 110 := ⟨by decide +kernel, rfl⟩
set_option maxRecDepth 20000 in
theorem dX12_next_110 : decode cX12_next 110 = .ok (.goto 4, 3) ∧ ((110 : Nat) : Int) + (4) = ((114 : Nat) : Int) := ⟨by decide +kernel, by decide⟩
set_option maxRecDepth 20000 in
theorem dX12_next_113 : decode cX12_next 113 = .ok (.iconst 3, 1) ∧ 113 + 1 = 114 := ⟨by decide +kernel, rfl⟩
set_option maxRecDepth 20000 in
theorem dX12_next_114 : decode cX12_next 114 = .ok (.putfield 214, 3) ∧ 114 + 3 = 117 := ⟨by decide +kernel, rfl⟩
set_option maxRecDepth 20000 in
theorem dX12_next_117 : decode cX12_next 117 = .ok (.aload_n 0, 1) ∧ 117 + 1 = 118 := ⟨by decide +kernel, rfl⟩
set_option maxRecDepth 20000 in
theorem dX12_next_118 : decode cX12_next 118 = .ok (.getfield 214, 3) ∧ 118 + 3 = 121 := ⟨by decide +kernel, rfl⟩
set_option maxRecDepth 20000 in
theorem dX12_next_121 : decode cX12_next 121 = .ok (.iconst 3, 1) ∧ 121 + 1 = 122 := ⟨by decide +kernel, rfl⟩
set_option maxRecDepth 20000 in
theorem dX12_next_122 : decode cX12_next 122 = .ok (.if_icmp .ne 27, 3) ∧ 122 + 3 = 125 ∧ ((122 : Nat) : Int) + (27) = ((149 : Nat) : Int) := ⟨by decide +kernel, rfl, by decide⟩
set_option maxRecDepth 20000 in
theorem dX12_next_125 : decode cX12_next 125 = .ok (.aload_n 0, 1) ∧ 125 + 1 = 126 := ⟨by decide +kernel, rfl⟩
set_option maxRecDepth 20000 in
theorem dX12_next_126 : decode cX12_next 126 = .ok (.aload_n 0, 1) ∧ 126 + 1 = 127 := ⟨by decide +kernel, rfl⟩
set_option maxRecDepth 20000 in
theorem dX12_next_127 : decode cX12_next 127 = .ok (.getfield 23, 3) ∧ 127 + 3 = 130 := ⟨by decide +kernel, rfl⟩
set_option maxRecDepth 20000 in
theorem dX12_next_130 : decode cX12_next 130 = .ok (.aload_n 0, 1) ∧ 130 + 1 = 131 := ⟨by decide +kernel, rfl⟩
set_option maxRecDepth 20000 in
theorem dX12_next_131 : decode cX12_next 131 = .ok (.getfield 201, 3) ∧ 131 + 3 = 134 := ⟨by decide +kernel, rfl⟩
set_option maxRecDepth 20000 in
theorem dX12_next_134 : decode cX12_next 134 = .ok (.iaload, 1) ∧ 134 + 1 = 135 := ⟨by decide +kernel, rfl⟩
set_option maxRecDepth 20000 in
theorem dX12_next_135 : decode cX12_next 135 = .ok (.i2l, 1) ∧ 135 + 1 = 136 := ⟨by decide +kernel, rfl⟩
set_option maxRecDepth 20000 in
theorem dX12_next_136 : decode cX12_next 136 = .ok (.putfield 204, 3) ∧ 136 + 3 = 139 := ⟨by decide +kernel, rfl⟩
set_option maxRecDepth 20000 in
theorem dX12_next_139 : decode cX12_next 139 = .ok (.aload_n 0, 1) ∧ 139 + 1 = 140 := ⟨by decide +kernel, rfl⟩
set_option maxRecDepth 20000 in
theorem dX12_next_140 : decode cX12_next 140 = .ok (.dup, 1) ∧ 140 + 1 = 141 := ⟨by decide +kernel, rfl⟩
set_option maxRecDepth 20000 in
theorem dX12_next_141 : decode cX12_next 141 = .ok (.getfield 191, 3) ∧ 141 + 3 = 144 := ⟨by decide +kernel, rfl⟩
set_option maxRecDepth 20000 in
theorem dX12_next_144 : decode cX12_next 144 = .ok (.iconst 1, 1) ∧ 144 + 1 = 145 := ⟨by decide +kernel, rfl⟩
set_option maxRecDepth 20000 in
theorem dX12_next_145 : decode cX12_next 145 = .ok (.iadd, 1) ∧ 145 + 1 = 146 := ⟨by decide +kernel, rfl⟩
set_option maxRecDepth 20000 in
theorem dX12_next_146 : decode cX12_next 146 = .ok (.putfield 191, 3) ∧ 146 + 3 = 149 := ⟨by decide +kernel, rfl⟩
set_option maxRecDepth 20000 in
theorem dX12_next_149 : decode cX12_next 149 = .ok (.aload_n 0, 1) ∧ 149 + 1 = 150 := ⟨by decide +kernel, rfl⟩
set_option maxRecDepth 20000 in
theorem dX12_next_150 : decode cX12_next 150 = .ok (.getfield 214, 3) ∧ 150 + 3 = 153 := ⟨by decide +kernel, rfl⟩
set_option maxRecDepth 20000 in
theorem dX12_next_153 : decode cX12_next 153 = .ok (.iconst 1, 1) ∧ 153 + 1 = 154 := ⟨by decide +kernel, rfl⟩
set_option maxRecDepth 20000 in
theorem dX12_next_154 : decode cX12_next 154 = .ok (.if_icmp .ne 89, 3) ∧ 154 + 3 = 157 ∧ ((154 : Nat) : Int) + (89) = ((243 : Nat) : Int) := ⟨by decide +kernel, rfl, by decide⟩
set_option maxRecDepth 20000 in
theorem dX12_next_157 : decode cX12_next 157 = .ok (.aload_n 0, 1) ∧ 157 + 1 = 158 := ⟨by decide +kernel, rfl⟩
set_option maxRecDepth 20000 in
theorem dX12_next_158 : decode cX12_next 158 = .ok (.getfield 191, 3) ∧ 158 + 3 = 161 := ⟨by decide +kernel, rfl⟩
set_option maxRecDepth 20000 in
theorem dX12_next_161 : decode cX12_next 161 = .ok (.aload_n 0, 1) ∧ 161 + 1 = 162 := ⟨by decide +kernel, rfl⟩
set_option maxRecDepth 20000 in
theorem dX12_next_162 : decode cX12_next 162 = .ok (.getfield 184, 3) ∧ 162 + 3 = 165 := ⟨by decide +kernel, rfl⟩
set_option maxRecDepth 20000 in
theorem dX12_next_165 : decode cX12_next 165 = .ok (.if_icmp .ge 78, 3) ∧ 165 + 3 = 168 ∧ ((165 : Nat) : Int) + (78) = ((243 : Nat) : Int) := ⟨by decide +kernel, rfl, by decide⟩
set_option maxRecDepth 20000 in
theorem dX12_next_168 : decode cX12_next 168 = .ok (.aload_n 0, 1) ∧ 168 + 1 = 169 := ⟨by decide +kernel, rfl⟩
set_option maxRecDepth 20000 in
theorem dX12_next_169 : decode cX12_next 169 = .ok (.getfield 23, 3) ∧ 169 + 3 = 172 := ⟨by decide +kernel, rfl⟩
set_option maxRecDepth 20000 in
theorem dX12_next_172 : decode cX12_next 172 = .ok (.aload_n 0, 1) ∧ 172 + 1 = 173 := ⟨by decide +kernel, rfl⟩
set_option maxRecDepth 20000 in
theorem dX12_next_173 : decode cX12_next 173 = .ok (.getfield 191, 3) ∧ 173 + 3 = 176 := ⟨by decide +kernel, rfl⟩
set_option maxRecDepth 20000 in
theorem dX12_next_176 : decode cX12_next 176 = .ok (.iaload, 1) ∧ 176 + 1 = 177 := ⟨by decide +kernel, rfl⟩
set_option maxRecDepth 20000 in
theorem dX12_next_177 : decode cX12_next 177 = .ok (.invokestatic 208, 3) ∧ 177 + 3 = 180 := ⟨by decide +kernel, rfl⟩
set_option maxRecDepth 20000 in
theorem dX12_next_180 : decode cX12_next 180 = .ok (.ifCond .eq 63, 3) ∧ 180 + 3 = 183 ∧ ((180 : Nat) : Int) + (63) = ((243 : Nat) : Int) := ⟨by decide +kernel, rfl, by decide⟩
set_option maxRecDepth 20000 in
theorem dX12_next_183 : decode cX12_next 183 = .ok (.aload_n 0, 1) ∧ 183 + 1 = 184 := ⟨by decide +kernel, rfl⟩
set_option maxRecDepth 20000 in
theorem dX12_next_184 : decode cX12_next 184 = .ok (.aload_n 0, 1) ∧ 184 + 1 = 185 := ⟨by decide +kernel, rfl⟩
set_option maxRecDepth 20000 in
theorem dX12_next_185 : decode cX12_next 185 = .ok (.getfield 191, 3) ∧ 185 + 3 = 188 := ⟨by decide +kernel, rfl⟩
set_option maxRecDepth 20000 in
theorem dX12_next_188 : decode cX12_next 188 = .ok (.aload_n 0, 1) ∧ 188 + 1 = 189 := ⟨by decide +kernel, rfl⟩
set_option maxRecDepth 20000 in
theorem dX12_next_189 : decode cX12_next 189 = .ok (.getfield 201, 3) ∧ 189 + 3 = 192 := ⟨by decide +kernel, rfl⟩
set_option maxRecDepth 20000 in
theorem dX12_next_192 : decode cX12_next 192 = .ok (.isub, 1) ∧ 192 + 1 = 193 := ⟨by decide +kernel, rfl⟩
set_option maxRecDepth 20000 in
theorem dX12_next_193 : decode cX12_next 193 = .ok (.bipush 10, 2) ∧ 193 + 2 = 195 := ⟨by decide +kernel, rfl⟩
set_option maxRecDepth 20000 in
theorem dX12_next_195 : decode cX12_next 195 = .ok (.if_icmp .ge 29, 3) ∧ 195 + 3 = 198 ∧ ((195 : Nat) : Int) + (29) = ((224 : Nat) : Int) := ⟨by decide +kernel, rfl, by decide⟩
set_option maxRecDepth 20000 in
theorem dX12_next_198 : decode cX12_next 198 = .ok (.aload_n 0, 1) ∧ 198 + 1 = 199 := ⟨by decide +kernel, rfl⟩
set_option maxRecDepth 20000 in
theorem dX12_next_199 : decode cX12_next 199 = .ok (.getfield 204, 3) ∧ 199 + 3 = 202 := ⟨by decide +kernel, rfl⟩
set_option maxRecDepth 20000 in
theorem dX12_next_202 : decode cX12_next 202 = .ok (.ldc2_w 217, 3) ∧ 202 + 3 = 205 := ⟨by decide +kernel, rfl⟩
set_option maxRecDepth 20000 in
theorem dX12_next_205 : decode cX12_next 205 = .ok (.lmul, 1) ∧ 205 + 1 = 206 := ⟨by decide +kernel, rfl⟩
set_option maxRecDepth 20000 in
theorem dX12_next_206 : decode cX12_next 206 = .ok (.aload_n 0, 1) ∧ 206 + 1 = 207 := ⟨by decide +kernel, rfl⟩
set_option maxRecDepth 20000 in
theorem dX12_next_207 : decode cX12_next 207 = .ok (.getfield 23, 3) ∧ 207 + 3 = 210 := ⟨by decide +kernel, rfl⟩
set_option maxRecDepth 20000 in
theorem dX12_next_210 : decode cX12_next 210 = .ok (.aload_n 0, 1) ∧ 210 + 1 = 211 := ⟨by decide +kernel, rfl⟩
set_option maxRecDepth 20000 in
theorem dX12_next_211 : decode cX12_next 211 = .ok (.getfield 191, 3) ∧ 211 + 3 = 214 := ⟨by decide +kernel, rfl⟩
set_option maxRecDepth 20000 in
theorem dX12_next_214 : decode cX12_next 214 = .ok (.iaload, 1) ∧ 214 + 1 = 215 := ⟨by decide +kernel, rfl⟩
set_option maxRecDepth 20000 in
theorem dX12_next_215 : decode cX12_next 215 = .ok (.i2l, 1) ∧ 215 + 1 = 216 := ⟨by decide +kernel, rfl⟩
set_option maxRecDepth 20000 in
theorem dX12_next_216 : decode cX12_next 216 = .ok (.ladd, 1) ∧ 216 + 1 = 217 := ⟨by decide +kernel, rfl⟩
set_option maxRecDepth 20000 in
theorem dX12_next_217 : decode cX12_next 217 = .ok (.ldc2_w 219, 3) ∧ 217 + 3 = 220 := ⟨by decide +kernel, rfl⟩
set_option maxRecDepth 20000 in
theorem dX12_next_220 : decode cX12_next 220 = .ok (.lsub, 1) ∧ 220 + 1 = 221 := ⟨by decide +kernel, rfl⟩
set_option maxRecDepth 20000 in
theorem dX12_next_221 : decode cX12_next 221 = .ok (.goto 6, 3) ∧ ((221 : Nat) : Int) + (6) = ((227 : Nat) : Int) := ⟨by decide +kernel, by decide⟩
set_option maxRecDepth 20000 in
theorem dX12_next_224 : decode cX12_next 224 = .ok (.ldc2_w 221, 3) ∧ 224 + 3 = 227 := ⟨by decide +kernel, rfl⟩
set_option maxRecDepth 20000 in
theorem dX12_next_227 : decode cX12_next 227 = .ok (.putfield 204, 3) ∧ 227 + 3 = 230 := ⟨by decide +kernel, rfl⟩
set_option maxRecDepth 20000 in
theorem dX12_next_230 : decode cX12_next 230 = .ok (.aload_n 0, 1) ∧ 230 + 1 = 231 := ⟨by decide +kernel, rfl⟩
set_option maxRecDepth 20000 in
theorem dX12_next_231 : decode cX12_next 231 = .ok (.dup, 1) ∧ 231 + 1 = 232 := ⟨by decide +kernel, rfl⟩
set_option maxRecDepth 20000 in
theorem dX12_next_232 : decode cX12_next 232 = .ok (.getfield 191, 3) ∧ 232 + 3 = 235 := ⟨by decide +kernel, rfl⟩
set_option maxRecDepth 20000 in
theorem dX12_next_235 : decode cX12_next 235 = .ok (.iconst 1, 1) ∧ 235 + 1 = 236 := ⟨by decide +kernel, rfl⟩
set_option maxRecDepth 20000 in
theorem dX12_next_236 : decode cX12_next 236 = .ok (.iadd, 1) ∧ 236 + 1 = 237 := ⟨by decide +kernel, rfl⟩
set_option maxRecDepth 20000 in
theorem dX12_next_237 : decode cX12_next 237 = .ok (.putfield 191, 3) ∧ 237 + 3 = 240 := ⟨by decide +kernel, rfl⟩
set_option maxRecDepth 20000 in
theorem dX12_next_240 : decode cX12_next 240 = .ok (.goto (-91), 3) ∧ ((240 : Nat) : Int) + (-91) = ((149 : Nat) : Int) := ⟨by decide +kernel, by decide⟩
set_option maxRecDepth 20000 in
theorem dX12_next_243 : decode cX12_next 243 = .ok (.aload_n 0, 1) ∧ 243 + 1 = 244 := ⟨by decide +kernel, rfl⟩
set_option maxRecDepth 20000 in
theorem dX12_next_244 : decode cX12_next 244 = .ok (.getfield 214, 3) ∧ 244 + 3 = 247 := ⟨by decide +kernel, rfl⟩
set_option maxRecDepth 20000 in
theorem dX12_next_247 : decode cX12_next 247 = .ok (.iconst 2, 1) ∧ 247 + 1 = 248 := ⟨by decide +kernel, rfl⟩
set_option maxRecDepth 20000 in
theorem dX12_next_248 : decode cX12_next 248 = .ok (.if_icmp .ne 87, 3) ∧ 248 + 3 = 251 ∧ ((248 : Nat) : Int) + (87) = ((335 : Nat) : Int) := ⟨by decide +kernel, rfl, by decide⟩
set_option maxRecDepth 20000 in
theorem dX12_next_251 : decode cX12_next 251 = .ok (.aload_n 0, 1) ∧ 251 + 1 = 252 := ⟨by decide +kernel, rfl⟩
set_option maxRecDepth 20000 in
theorem dX12_next_252 : decode cX12_next 252 = .ok (.getfield 191, 3) ∧ 252 + 3 = 255 := ⟨by decide +kernel, rfl⟩
set_option maxRecDepth 20000 in
theorem dX12_next_255 : decode cX12_next 255 = .ok (.aload_n 0, 1) ∧ 255 + 1 = 256 := ⟨by decide +kernel, rfl⟩
set_option maxRecDepth 20000 in
theorem dX12_next_256 : decode cX12_next 256 = .ok (.getfield 184, 3) ∧ 256 + 3 = 259 := ⟨by decide +kernel, rfl⟩
set_option maxRecDepth 20000 in
theorem dX12_next_259 : decode cX12_next 259 = .ok (.if_icmp .ge 76, 3) ∧ 259 + 3 = 262 ∧ ((259 : Nat) : Int) + (76) = ((335 : Nat) : Int) := ⟨by decide +kernel, rfl, by decide⟩
set_option maxRecDepth 20000 in
theorem dX12_next_262 : decode cX12_next 262 = .ok (.aload_n 0, 1) ∧ 262 + 1 = 263 := ⟨by decide +kernel, rfl⟩
set_option maxRecDepth 20000 in
theorem dX12_next_263 : decode cX12_next 263 = .ok (.getfield 23, 3) ∧ 263 + 3 = 266 := ⟨by decide +kernel, rfl⟩
set_option maxRecDepth 20000 in
theorem dX12_next_266 : decode cX12_next 266 = .ok (.aload_n 0, 1) ∧ 266 + 1 = 267 := ⟨by decide +kernel, rfl⟩
set_option maxRecDepth 20000 in
theorem dX12_next_267 : decode cX12_next 267 = .ok (.getfield 191, 3) ∧ 267 + 3 = 270 := ⟨by decide +kernel, rfl⟩
set_option maxRecDepth 20000 in
theorem dX12_next_270 : decode cX12_next 270 = .ok (.iaload, 1) ∧ 270 + 1 = 271 := ⟨by decide +kernel, rfl⟩
set_option maxRecDepth 20000 in
theorem dX12_next_271 : decode cX12_next 271 = .ok (.invokestatic 211, 3) ∧ 271 + 3 = 274 := ⟨by decide +kernel, rfl⟩
set_option maxRecDepth 20000 in
theorem dX12_next_274 : decode cX12_next 274 = .ok (.ifCond .eq 61, 3) ∧ 274 + 3 = 277 ∧ ((274 : Nat) : Int) + (61) = ((335 : Nat) : Int) := ⟨by decide +kernel, rfl, by decide⟩
set_option maxRecDepth 20000 in
theorem dX12_next_277 : decode cX12_next 277 = .ok (.aload_n 0, 1) ∧ 277 + 1 = 278 := ⟨by decide +kernel, rfl⟩
set_option maxRecDepth 20000 in
theorem dX12_next_278 : decode cX12_next 278 = .ok (.aload_n 0, 1) ∧ 278 + 1 = 279 := ⟨by decide +kernel, rfl⟩
set_option maxRecDepth 20000 in
theorem dX12_next_279 : decode cX12_next 279 = .ok (.getfield 204, 3) ∧ 279 + 3 = 282 := ⟨by decide +kernel, rfl⟩
set_option maxRecDepth 20000 in
theorem dX12_next_282 : decode cX12_next 282 = .ok (.ldc2_w 223, 3) ∧ 282 + 3 = 285 := ⟨by decide +kernel, rfl⟩
set_option maxRecDepth 20000 in
theorem dX12_next_285 : decode cX12_next 285 = .ok (.lcmp, 1) ∧ 285 + 1 = 286 := ⟨by decide +kernel, rfl⟩
set_option maxRecDepth 20000 in
theorem dX12_next_286 : decode cX12_next 286 = .ok (.ifCond .le 10, 3) ∧ 286 + 3 = 289 ∧ ((286 : Nat) : Int) + (10) = ((296 : Nat) : Int) := ⟨by decide +kernel, rfl, by decide⟩
set_option maxRecDepth 20000 in
theorem dX12_next_289 : decode cX12_next 289 = .ok (.aload_n 0, 1) ∧ 289 + 1 = 290 := ⟨by decide +kernel, rfl⟩
set_option maxRecDepth 20000 in
theorem dX12_next_290 : decode cX12_next 290 = .ok (.getfield 204, 3) ∧ 290 + 3 = 293 := ⟨by decide +kernel, rfl⟩
set_option maxRecDepth 20000 in
theorem dX12_next_293 : decode cX12_next 293 = .ok (.goto 26, 3) ∧ ((293 : Nat) : Int) + (26) = ((319 : Nat) : Int) := ⟨by decide +kernel, by decide⟩
set_option maxRecDepth 20000 in
theorem dX12_next_296 : decode cX12_next 296 = .ok (.aload_n 0, 1) ∧ 296 + 1 = 297 := ⟨by decide +kernel, rfl⟩
set_option maxRecDepth 20000 in
theorem dX12_next_297 : decode cX12_next 297 = .ok (.getfield 204, 3) ∧ 297 + 3 = 300 := ⟨by decide +kernel, rfl⟩
set_option maxRecDepth 20000 in
theorem dX12_next_300 : decode cX12_next 300 = .ok (.ldc2_w 225, 3) ∧ 300 + 3 = 303 := ⟨by decide +kernel, rfl⟩
set_option maxRecDepth 20000 in
theorem dX12_next_303 : decode cX12_next 303 = .ok (.lmul, 1) ∧ 303 + 1 = 304 := ⟨by decide +kernel, rfl⟩
set_option maxRecDepth 20000 in
theorem dX12_next_304 : decode cX12_next 304 = .ok (.aload_n 0, 1) ∧ 304 + 1 = 305 := ⟨by decide +kernel, rfl⟩
set_option maxRecDepth 20000 in
theorem dX12_next_305 : decode cX12_next 305 = .ok (.getfield 23, 3) ∧ 305 + 3 = 308 := ⟨by decide +kernel, rfl⟩
set_option maxRecDepth 20000 in
theorem dX12_next_308 : decode cX12_next 308 = .ok (.aload_n 0, 1) ∧ 308 + 1 = 309 := ⟨by decide +kernel, rfl⟩
set_option maxRecDepth 20000 in
theorem dX12_next_309 : decode cX12_next 309 = .ok (.getfield 191, 3) ∧ 309 + 3 = 312 := ⟨by decide +kernel, rfl⟩
set_option maxRecDepth 20000 in
theorem dX12_next_312 : decode cX12_next 312 = .ok (.iaload, 1) ∧ 312 + 1 = 313 := ⟨by decide +kernel, rfl⟩
set_option maxRecDepth 20000 in
theorem dX12_next_313 : decode cX12_next 313 = .ok (.i2l, 1) ∧ 313 + 1 = 314 := ⟨by decide +kernel, rfl⟩
set_option maxRecDepth 20000 in
theorem dX12_next_314 : decode cX12_next 314 = .ok (.ladd, 1) ∧ 314 + 1 = 315 := ⟨by decide +kernel, rfl⟩
set_option maxRecDepth 20000 in
theorem dX12_next_315 : decode cX12_next 315 = .ok (.ldc2_w 227, 3) ∧ 315 + 3 = 318 := ⟨by decide +kernel, rfl⟩
set_option maxRecDepth 20000 in
theorem dX12_next_318 : decode cX12_next 318 = .ok (.lsub, 1) ∧ 318 + 1 = 319 := ⟨by decide +kernel, rfl⟩
set_option maxRecDepth 20000 in
theorem dX12_next_319 : decode cX12_next 319 = .ok (.putfield 204, 3) ∧ 319 + 3 = 322 := ⟨by decide +kernel, rfl⟩
set_option maxRecDepth 20000 in
theorem dX12_next_322 : decode cX12_next 322 = .ok (.aload_n 0, 1) ∧ 322 + 1 = 323 := ⟨by decide +kernel, rfl⟩
set_option maxRecDepth 20000 in
theorem dX12_next_323 : decode cX12_next 323 = .ok (.dup, 1) ∧ 323 + 1 = 324 := ⟨by decide +kernel, rfl⟩
set_option maxRecDepth 20000 in
theorem dX12_next_324 : decode cX12_next 324 = .ok (.getfield 191, 3) ∧ 324 + 3 = 327 := ⟨by decide +kernel, rfl⟩
set_option maxRecDepth 20000 in
theorem dX12_next_327 : decode cX12_next 327 = .ok (.iconst 1, 1) ∧ 327 + 1 = 328 := ⟨by decide +kernel, rfl⟩
set_option maxRecDepth 20000 in
theorem dX12_next_328 : decode cX12_next 328 = .ok (.iadd, 1) ∧ 328 + 1 = 329 := ⟨by decide +kernel, rfl⟩
set_option maxRecDepth 20000 in
theorem dX12_next_329 : decode cX12_next 329 = .ok (.putfield 191, 3) ∧ 329 + 3 = 332 := ⟨by decide +kernel, rfl⟩
set_option maxRecDepth 20000 in
theorem dX12_next_332 : decode cX12_next 332 = .ok (.goto (-89), 3) ∧ ((332 : Nat) : Int) + (-89) = ((243 : Nat) : Int) := ⟨by decide +kernel, by decide⟩
set_option maxRecDepth 20000 in
theorem dX12_next_335 : decode cX12_next 335 = .ok (.return_, 1) := by decide +kernel
set_option maxRecDepth 20000 in
theorem dX12_isWord_0 : decode cX12_isWord 0 = .ok (.aload_n 0, 1) ∧ 0 + 1 = 1 := ⟨by decide +kernel, rfl⟩
set_option maxRecDepth 20000 in
theorem dX12_isWord_1 : decode cX12_isWord 1 = .ok (.getfield 214, 3) ∧ 1 + 3 = 4 := ⟨by decide +kernel, rfl⟩
set_option maxRecDepth 20000 in
theorem dX12_isWord_4 : decode cX12_isWord 4 = .ok (.iconst 1, 1) ∧ 4 + 1 = 5 := ⟨by decide +kernel, rfl⟩
set_option maxRecDepth 20000 in
theorem dX12_isWord_5 : decode cX12_isWord 5 = .ok (.if_icmp .ne 16, 3) ∧ 5 + 3 = 8 ∧ ((5 : Nat) : Int) + (16) = ((21 : Nat) : Int) := ⟨by decide +kernel, rfl, by decide⟩
set_option maxRecDepth 20000 in
theorem dX12_isWord_8 : decode cX12_isWord 8 = .ok (.aload_n 0, 1) ∧ 8 + 1 = 9 := ⟨by decide +kernel, rfl⟩
set_option maxRecDepth 20000 in
theorem dX12_isWord_9 : decode cX12_isWord 9 = .ok (.getfield 204, 3) ∧ 9 + 3 = 12 := ⟨by decide +kernel, rfl⟩
set_option maxRecDepth 20000 in
theorem dX12_isWord_12 : decode cX12_isWord 12 = .ok (.lload_n 1, 1) ∧ 12 + 1 = 13 := ⟨by decide +kernel, rfl⟩
set_option maxRecDepth 20000 in
theorem dX12_isWord_13 : decode cX12_isWord 13 = .ok (.lcmp, 1) ∧ 13 + 1 = 14 := ⟨by decide +kernel, rfl⟩
set_option maxRecDepth 20000 in
theorem dX12_isWord_14 : decode cX12_isWord 14 = .ok (.ifCond .ne 7, 3) ∧ 14 + 3 = 17 ∧ ((14 : Nat) : Int) + (7) = ((21 : Nat) : Int) := ⟨by decide +kernel, rfl, by decide⟩
set_option maxRecDepth 20000 in
theorem dX12_isWord_17 : decode cX12_isWord 17 = .ok (.iconst 1, 1) ∧ 17 + 1 = 18 := ⟨by decide +kernel, rfl⟩
set_option maxRecDepth 20000 in
theorem dX12_isWord_18 : decode cX12_isWord 18 = .ok (.goto 4, 3) ∧ ((18 : Nat) : Int) + (4) = ((22 : Nat) : Int) := ⟨by decide +kernel, by decide⟩
set_option maxRecDepth 20000 in
theorem dX12_isWord_21 : decode cX12_isWord 21 = .ok (.iconst 0, 1) ∧ 21 + 1 = 22 := ⟨by decide +kernel, rfl⟩
set_option maxRecDepth 20000 in
theorem dX12_isWord_22 : decode cX12_isWord 22 = .ok (.ireturn, 1) := by decide +kernel
set_option maxRecDepth 20000 in
theorem dX12_isSign_0 : decode cX12_isSign 0 = .ok (.aload_n 0, 1) ∧ 0 + 1 = 1 := ⟨by decide +kernel, rfl⟩
set_option maxRecDepth 20000 in
theorem dX12_isSign_1 : decode cX12_isSign 1 = .ok (.getfield 214, 3) ∧ 1 + 3 = 4 := ⟨by decide +kernel, rfl⟩
set_option maxRecDepth 20000 in
theorem dX12_isSign_4 : decode cX12_isSign 4 = .ok (.iconst 3, 1) ∧ 4 + 1 = 5 := ⟨by decide +kernel, rfl⟩
set_option maxRecDepth 20000 in
theorem dX12_isSign_5 : decode cX12_isSign 5 = .ok (.if_icmp .ne 17, 3) ∧ 5 + 3 = 8 ∧ ((5 : Nat) : Int) + (17) = ((22 : Nat) : Int) := ⟨by decide +kernel, rfl, by decide⟩
set_option maxRecDepth 20000 in
theorem dX12_isSign_8 : decode cX12_isSign 8 = .ok (.aload_n 0, 1) ∧ 8 + 1 = 9 := ⟨by decide +kernel, rfl⟩
set_option maxRecDepth 20000 in
theorem dX12_isSign_9 : decode cX12_isSign 9 = .ok (.getfield 204, 3) ∧ 9 + 3 = 12 := ⟨by decide +kernel, rfl⟩
set_option maxRecDepth 20000 in
theorem dX12_isSign_12 : decode cX12_isSign 12 = .ok (.iload_n 1, 1) ∧ 12 + 1 = 13 := ⟨by decide +kernel, rfl⟩
set_option maxRecDepth 20000 in
theorem dX12_isSign_13 : decode cX12_isSign 13 = .ok (.i2l, 1) ∧ 13 + 1 = 14 := ⟨by decide +kernel, rfl⟩
set_option maxRecDepth 20000 in
theorem dX12_isSign_14 : decode cX12_isSign 14 = .ok (.lcmp, 1) ∧ 14 + 1 = 15 := ⟨by decide +kernel, rfl⟩
set_option maxRecDepth 20000 in
theorem dX12_isSign_15 : decode cX12_isSign 15 = .ok (.ifCond .ne 7, 3) ∧ 15 + 3 = 18 ∧ ((15 : Nat) : Int) + (7) = ((22 : Nat) : Int) := ⟨by decide +kernel, rfl, by decide⟩
set_option maxRecDepth 20000 in
theorem dX12_isSign_18 : decode cX12_isSign 18 = .ok (.iconst 1, 1) ∧ 18 + 1 = 19 := ⟨by decide +kernel, rfl⟩
set_option maxRecDepth 20000 in
theorem dX12_isSign_19 : decode cX12_isSign 19 = .ok (.goto 4, 3) ∧ ((19 : Nat) : Int) + (4) = ((23 : Nat) : Int) := ⟨by decide +kernel, by decide⟩
set_option maxRecDepth 20000 in
theorem dX12_isSign_22 : decode cX12_isSign 22 = .ok (.iconst 0, 1) ∧ 22 + 1 = 23 := ⟨by decide +kernel, rfl⟩
set_option maxRecDepth 20000 in
theorem dX12_isSign_23 : decode cX12_isSign 23 = .ok (.ireturn, 1) := by decide +kernel
set_option maxRecDepth 20000 in
theorem dX12_must_0 : decode cX12_must 0 = .ok (.aload_n 0, 1) ∧ 0 + 1 = 1 := ⟨by decide +kernel, rfl⟩
set_option maxRecDepth 20000 in
theorem dX12_must_1 : decode cX12_must 1 = .ok (.getfield 194, 3) ∧ 1 + 3 = 4 := ⟨by decide +kernel, rfl⟩
set_option maxRecDepth 20000 in
theorem dX12_must_4 : decode cX12_must 4 = .ok (.ifCond .ne 20, 3) ∧ 4 + 3 = 7 ∧ ((4 : Nat) : Int) + (20) = ((24 : Nat) : Int) := ⟨by decide +kernel, rfl, by decide⟩
set_option maxRecDepth 20000 in
theorem dX12_must_7 : decode cX12_must 7 = .ok (.iload_n 1, 1) ∧ 7 + 1 = 8 := ⟨by decide +kernel, rfl⟩
set_option maxRecDepth 20000 in
theorem dX12_must_8 : decode cX12_must 8 = .ok (.ifCond .ne 16, 3) ∧ 8 + 3 = 11 ∧ ((8 : Nat) : Int) + (16) = ((24 : Nat) : Int) := ⟨by decide +kernel, rfl, by decide⟩
set_option maxRecDepth 20000 in
theorem dX12_must_11 : decode cX12_must 11 = .ok (.aload_n 0, 1) ∧ 11 + 1 = 12 := ⟨by decide +kernel, rfl⟩
set_option maxRecDepth 20000 in
theorem dX12_must_12 : decode cX12_must 12 = .ok (.iconst 1, 1) ∧ 12 + 1 = 13 := ⟨by decide +kernel, rfl⟩
set_option maxRecDepth 20000 in
theorem dX12_must_13 : decode cX12_must 13 = .ok (.putfield 194, 3) ∧ 13 + 3 = 16 := ⟨by decide +kernel, rfl⟩
set_option maxRecDepth 20000 in
theorem dX12_must_16 : decode cX12_must 16 = .ok (.aload_n 0, 1) ∧ 16 + 1 = 17 := ⟨by decide +kernel, rfl⟩
set_option maxRecDepth 20000 in
theorem dX12_must_17 : decode cX12_must 17 = .ok (.aload_n 0, 1) ∧ 17 + 1 = 18 := ⟨by decide +kernel, rfl⟩
set_option maxRecDepth 20000 in
theorem dX12_must_18 : decode cX12_must 18 = .ok (.getfield 201, 3) ∧ 18 + 3 = 21 := ⟨by decide +kernel, rfl⟩
set_option maxRecDepth 20000 in
theorem dX12_must_21 : decode cX12_must 21 = .ok (.putfield 26, 3) ∧ 21 + 3 = 24 := ⟨by decide +kernel, rfl⟩
set_option maxRecDepth 20000 in
theorem dX12_must_24 : decode cX12_must 24 = .ok (.aload_n 0, 1) ∧ 24 + 1 = 25 := ⟨by decide +kernel, rfl⟩
set_option maxRecDepth 20000 in
theorem dX12_must_25 : decode cX12_must 25 = .ok (.getfield 194, 3) ∧ 25 + 3 = 28 := ⟨by decide +kernel, rfl⟩
set_option maxRecDepth 20000 in
theorem dX12_must_28 : decode cX12_must 28 = .ok (.ifCond .ne 7, 3) ∧ 28 + 3 = 31 ∧ ((28 : Nat) : Int) + (7) = ((35 : Nat) : Int) := ⟨by decide +kernel, rfl, by decide⟩
set_option maxRecDepth 20000 in
theorem dX12_must_31 : decode cX12_must 31 = .ok (.aload_n 0, 1) ∧ 31 + 1 = 32 := ⟨by decide +kernel, rfl⟩
set_option maxRecDepth 20000 in
theorem dX12_must_32 : decode cX12_must 32 = .ok (.invokevirtual 198, 3) ∧ 32 + 3 = 35 := ⟨by decide +kernel, rfl⟩
set_option maxRecDepth 20000 in
theorem dX12_must_35 : decode cX12_must 35 = .ok (.return_, 1) := by decide +kernel
set_option maxRecDepth 20000 in
theorem dX12_fault_0 : decode cX12_fault 0 = .ok (.aload_n 0, 1) ∧ 0 + 1 = 1 := ⟨by decide +kernel, rfl⟩
set_option maxRecDepth 20000 in
theorem dX12_fault_1 : decode cX12_fault 1 = .ok (.iconst 0, 1) ∧ 1 + 1 = 2 := ⟨by decide +kernel, rfl⟩
set_option maxRecDepth 20000 in
theorem dX12_fault_2 : decode cX12_fault 2 = .ok (.putfield 124, 3) ∧ 2 + 3 = 5 := ⟨by decide +kernel, rfl⟩
set_option maxRecDepth 20000 in
theorem dX12_fault_5 : decode cX12_fault 5 = .ok (.aload_n 0, 1) ∧ 5 + 1 = 6 := ⟨by decide +kernel, rfl⟩
set_option maxRecDepth 20000 in
theorem dX12_fault_6 : decode cX12_fault 6 = .ok (.getfield 26, 3) ∧ 6 + 3 = 9 := ⟨by decide +kernel, rfl⟩
set_option maxRecDepth 20000 in
theorem dX12_fault_9 : decode cX12_fault 9 = .ok (.ireturn, 1) := by decide +kernel
set_option maxRecDepth 20000 in
theorem dX12_emit_0 : decode cX12_emit 0 = .ok (.aload_n 0, 1) ∧ 0 + 1 = 1 := ⟨by decide +kernel, rfl⟩
set_option maxRecDepth 20000 in
theorem dX12_emit_1 : decode cX12_emit 1 = .ok (.getfield 33, 3) ∧ 1 + 3 = 4 := ⟨by decide +kernel, rfl⟩
set_option maxRecDepth 20000 in
theorem dX12_emit_4 : decode cX12_emit 4 = .ok (.aload_n 0, 1) ∧ 4 + 1 = 5 := ⟨by decide +kernel, rfl⟩
set_option maxRecDepth 20000 in
theorem dX12_emit_5 : decode cX12_emit 5 = .ok (.getfield 233, 3) ∧ 5 + 3 = 8 := ⟨by decide +kernel, rfl⟩
set_option maxRecDepth 20000 in
theorem dX12_emit_8 : decode cX12_emit 8 = .ok (.iload_n 1, 1) ∧ 8 + 1 = 9 := ⟨by decide +kernel, rfl⟩
set_option maxRecDepth 20000 in
theorem dX12_emit_9 : decode cX12_emit 9 = .ok (.iastore, 1) ∧ 9 + 1 = 10 := ⟨by decide +kernel, rfl⟩
set_option maxRecDepth 20000 in
theorem dX12_emit_10 : decode cX12_emit 10 = .ok (.aload_n 0, 1) ∧ 10 + 1 = 11 := ⟨by decide +kernel, rfl⟩
set_option maxRecDepth 20000 in
theorem dX12_emit_11 : decode cX12_emit 11 = .ok (.getfield 36, 3) ∧ 11 + 3 = 14 := ⟨by decide +kernel, rfl⟩
set_option maxRecDepth 20000 in
theorem dX12_emit_14 : decode cX12_emit 14 = .ok (.aload_n 0, 1) ∧ 14 + 1 = 15 := ⟨by decide +kernel, rfl⟩
set_option maxRecDepth 20000 in
theorem dX12_emit_15 : decode cX12_emit 15 = .ok (.getfield 233, 3) ∧ 15 + 3 = 18 := ⟨by decide +kernel, rfl⟩
set_option maxRecDepth 20000 in
theorem dX12_emit_18 : decode cX12_emit 18 = .ok (.iload_n 2, 1) ∧ 18 + 1 = 19 := ⟨by decide +kernel, rfl⟩
set_option maxRecDepth 20000 in
theorem dX12_emit_19 : decode cX12_emit 19 = .ok (.iastore, 1) ∧ 19 + 1 = 20 := ⟨by decide +kernel, rfl⟩
set_option maxRecDepth 20000 in
theorem dX12_emit_20 : decode cX12_emit 20 = .ok (.aload_n 0, 1) ∧ 20 + 1 = 21 := ⟨by decide +kernel, rfl⟩
set_option maxRecDepth 20000 in
theorem dX12_emit_21 : decode cX12_emit 21 = .ok (.dup, 1) ∧ 21 + 1 = 22 := ⟨by decide +kernel, rfl⟩
set_option maxRecDepth 20000 in
theorem dX12_emit_22 : decode cX12_emit 22 = .ok (.getfield 233, 3) ∧ 22 + 3 = 25 := ⟨by decide +kernel, rfl⟩
set_option maxRecDepth 20000 in
theorem dX12_emit_25 : decode cX12_emit 25 = .ok (.iconst 1, 1) ∧ 25 + 1 = 26 := ⟨by decide +kernel, rfl⟩
set_option maxRecDepth 20000 in
theorem dX12_emit_26 : decode cX12_emit 26 = .ok (.iadd, 1) ∧ 26 + 1 = 27 := ⟨by decide +kernel, rfl⟩
set_option maxRecDepth 20000 in
theorem dX12_emit_27 : decode cX12_emit 27 = .ok (.putfield 233, 3) ∧ 27 + 3 = 30 := ⟨by decide +kernel, rfl⟩
set_option maxRecDepth 20000 in
theorem dX12_emit_30 : decode cX12_emit 30 = .ok (.return_, 1) := by decide +kernel
set_option maxRecDepth 20000 in
theorem dX12_push_0 : decode cX12_push 0 = .ok (.aload_n 0, 1) ∧ 0 + 1 = 1 := ⟨by decide +kernel, rfl⟩
set_option maxRecDepth 20000 in
theorem dX12_push_1 : decode cX12_push 1 = .ok (.getfield 39, 3) ∧ 1 + 3 = 4 := ⟨by decide +kernel, rfl⟩
set_option maxRecDepth 20000 in
theorem dX12_push_4 : decode cX12_push 4 = .ok (.aload_n 0, 1) ∧ 4 + 1 = 5 := ⟨by decide +kernel, rfl⟩
set_option maxRecDepth 20000 in
theorem dX12_push_5 : decode cX12_push 5 = .ok (.getfield 236, 3) ∧ 5 + 3 = 8 := ⟨by decide +kernel, rfl⟩
set_option maxRecDepth 20000 in
theorem dX12_push_8 : decode cX12_push 8 = .ok (.iload_n 1, 1) ∧ 8 + 1 = 9 := ⟨by decide +kernel, rfl⟩
set_option maxRecDepth 20000 in
theorem dX12_push_9 : decode cX12_push 9 = .ok (.iastore, 1) ∧ 9 + 1 = 10 := ⟨by decide +kernel, rfl⟩
set_option maxRecDepth 20000 in
theorem dX12_push_10 : decode cX12_push 10 = .ok (.aload_n 0, 1) ∧ 10 + 1 = 11 := ⟨by decide +kernel, rfl⟩
set_option maxRecDepth 20000 in
theorem dX12_push_11 : decode cX12_push 11 = .ok (.getfield 42, 3) ∧ 11 + 3 = 14 := ⟨by decide +kernel, rfl⟩
set_option maxRecDepth 20000 in
theorem dX12_push_14 : decode cX12_push 14 = .ok (.aload_n 0, 1) ∧ 14 + 1 = 15 := ⟨by decide +kernel, rfl⟩
set_option maxRecDepth 20000 in
theorem dX12_push_15 : decode cX12_push 15 = .ok (.getfield 236, 3) ∧ 15 + 3 = 18 := ⟨by decide +kernel, rfl⟩
set_option maxRecDepth 20000 in
theorem dX12_push_18 : decode cX12_push 18 = .ok (.iload_n 2, 1) ∧ 18 + 1 = 19 := ⟨by decide +kernel, rfl⟩
set_option maxRecDepth 20000 in
theorem dX12_push_19 : decode cX12_push 19 = .ok (.iastore, 1) ∧ 19 + 1 = 20 := ⟨by decide +kernel, rfl⟩
set_option maxRecDepth 20000 in
theorem dX12_push_20 : decode cX12_push 20 = .ok (.aload_n 0, 1) ∧ 20 + 1 = 21 := ⟨by decide +kernel, rfl⟩
set_option maxRecDepth 20000 in
theorem dX12_push_21 : decode cX12_push 21 = .ok (.dup, 1) ∧ 21 + 1 = 22 := ⟨by decide +kernel, rfl⟩
set_option maxRecDepth 20000 in
theorem dX12_push_22 : decode cX12_push 22 = .ok (.getfield 236, 3) ∧ 22 + 3 = 25 := ⟨by decide +kernel, rfl⟩
set_option maxRecDepth 20000 in
theorem dX12_push_25 : decode cX12_push 25 = .ok (.iconst 1, 1) ∧ 25 + 1 = 26 := ⟨by decide +kernel, rfl⟩
set_option maxRecDepth 20000 in
theorem dX12_push_26 : decode cX12_push 26 = .ok (.iadd, 1) ∧ 26 + 1 = 27 := ⟨by decide +kernel, rfl⟩
set_option maxRecDepth 20000 in
theorem dX12_push_27 : decode cX12_push 27 = .ok (.putfield 236, 3) ∧ 27 + 3 = 30 := ⟨by decide +kernel, rfl⟩
set_option maxRecDepth 20000 in
theorem dX12_push_30 : decode cX12_push 30 = .ok (.return_, 1) := by decide +kernel
set_option maxRecDepth 20000 in
theorem dX12_binds_0 : decode cX12_binds 0 = .ok (.iload_n 0, 1) ∧ 0 + 1 = 1 := ⟨by decide +kernel, rfl⟩
set_option maxRecDepth 20000 in
theorem dX12_binds_1 : decode cX12_binds 1 = .ok (.bipush 30, 2) ∧ 1 + 2 = 3 := ⟨by decide +kernel, rfl⟩
set_option maxRecDepth 20000 in
theorem dX12_binds_3 : decode cX12_binds 3 = .ok (.if_icmp .lt 7, 3) ∧ 3 + 3 = 6 ∧ ((3 : Nat) : Int) + (7) = ((10 : Nat) : Int) := ⟨by decide +kernel, rfl, by decide⟩
set_option maxRecDepth 20000 in
theorem dX12_binds_6 : decode cX12_binds 6 = .ok (.iconst 0, 1) ∧ 6 + 1 = 7 := ⟨by decide +kernel, rfl⟩
set_option maxRecDepth 20000 in
theorem dX12_binds_7 : decode cX12_binds 7 = .ok (.goto 55, 3) ∧ ((7 : Nat) : Int) + (55) = ((62 : Nat) : Int) := ⟨by decide +kernel, by decide⟩
set_option maxRecDepth 20000 in
theorem dX12_binds_10 : decode cX12_binds 10 = .ok (.iload_n 0, 1) ∧ 10 + 1 = 11 := ⟨by decide +kernel, rfl⟩
set_option maxRecDepth 20000 in
theorem dX12_binds_11 : decode cX12_binds 11 = .ok (.bipush 29, 2) ∧ 11 + 2 = 13 := ⟨by decide +kernel, rfl⟩
set_option maxRecDepth 20000 in
theorem dX12_binds_13 : decode cX12_binds 13 = .ok (.if_icmp .ne 7, 3) ∧ 13 + 3 = 16 ∧ ((13 : Nat) : Int) + (7) = ((20 : Nat) : Int) := ⟨by decide +kernel, rfl, by decide⟩
set_option maxRecDepth 20000 in
theorem dX12_binds_16 : decode cX12_binds 16 = .ok (.iconst 1, 1) ∧ 16 + 1 = 17 := ⟨by decide +kernel, rfl⟩
set_option maxRecDepth 20000 in
theorem dX12_binds_17 : decode cX12_binds 17 = .ok (.goto 45, 3) ∧ ((17 : Nat) : Int) + (45) = ((62 : Nat) : Int) := ⟨by decide +kernel, by decide⟩
set_option maxRecDepth 20000 in
theorem dX12_binds_20 : decode cX12_binds 20 = .ok (.iload_n 0, 1) ∧ 20 + 1 = 21 := ⟨by decide +kernel, rfl⟩
set_option maxRecDepth 20000 in
theorem dX12_binds_21 : decode cX12_binds 21 = .ok (.bipush 28, 2) ∧ 21 + 2 = 23 := ⟨by decide +kernel, rfl⟩
set_option maxRecDepth 20000 in
theorem dX12_binds_23 : decode cX12_binds 23 = .ok (.if_icmp .ne 7, 3) ∧ 23 + 3 = 26 ∧ ((23 : Nat) : Int) + (7) = ((30 : Nat) : Int) := ⟨by decide +kernel, rfl, by decide⟩
set_option maxRecDepth 20000 in
theorem dX12_binds_26 : decode cX12_binds 26 = .ok (.iconst 2, 1) ∧ 26 + 1 = 27 := ⟨by decide +kernel, rfl⟩
set_option maxRecDepth 20000 in
theorem dX12_binds_27 : decode cX12_binds 27 = .ok (.goto 35, 3) ∧ ((27 : Nat) : Int) + (35) = ((62 : Nat) : Int) := ⟨by decide +kernel, by decide⟩
set_option maxRecDepth 20000 in
theorem dX12_binds_30 : decode cX12_binds 30 = .ok (.iload_n 0, 1) ∧ 30 + 1 = 31 := ⟨by decide +kernel, rfl⟩
set_option maxRecDepth 20000 in
theorem dX12_binds_31 : decode cX12_binds 31 = .ok (.bipush 27, 2) ∧ 31 + 2 = 33 := ⟨by decide +kernel, rfl⟩
set_option maxRecDepth 20000 in
theorem dX12_binds_33 : decode cX12_binds 33 = .ok (.if_icmp .ne 7, 3) ∧ 33 + 3 = 36 ∧ ((33 : Nat) : Int) + (7) = ((40 : Nat) : Int) := ⟨by decide +kernel, rfl, by decide⟩
set_option maxRecDepth 20000 in
theorem dX12_binds_36 : decode cX12_binds 36 = .ok (.iconst 3, 1) ∧ 36 + 1 = 37 := ⟨by decide +kernel, rfl⟩
set_option maxRecDepth 20000 in
theorem dX12_binds_37 : decode cX12_binds 37 = .ok (.goto 25, 3) ∧ ((37 : Nat) : Int) + (25) = ((62 : Nat) : Int) := ⟨by decide +kernel, by decide⟩
set_option maxRecDepth 20000 in
theorem dX12_binds_40 : decode cX12_binds 40 = .ok (.iload_n 0, 1) ∧ 40 + 1 = 41 := ⟨by decide +kernel, rfl⟩
set_option maxRecDepth 20000 in
theorem dX12_binds_41 : decode cX12_binds 41 = .ok (.bipush 24, 2) ∧ 41 + 2 = 43 := ⟨by decide +kernel, rfl⟩
set_option maxRecDepth 20000 in
theorem dX12_binds_43 : decode cX12_binds 43 = .ok (.if_icmp .lt 7, 3) ∧ 43 + 3 = 46 ∧ ((43 : Nat) : Int) + (7) = ((50 : Nat) : Int) := ⟨by decide +kernel, rfl, by decide⟩
set_option maxRecDepth 20000 in
theorem dX12_binds_46 : decode cX12_binds 46 = .ok (.iconst 4, 1) ∧ 46 + 1 = 47 := ⟨by decide +kernel, rfl⟩
set_option maxRecDepth 20000 in
theorem dX12_binds_47 : decode cX12_binds 47 = .ok (.goto 15, 3) ∧ ((47 : Nat) : Int) + (15) = ((62 : Nat) : Int) := ⟨by decide +kernel, by decide⟩
set_option maxRecDepth 20000 in
theorem dX12_binds_50 : decode cX12_binds 50 = .ok (.iload_n 0, 1) ∧ 50 + 1 = 51 := ⟨by decide +kernel, rfl⟩
set_option maxRecDepth 20000 in
theorem dX12_binds_51 : decode cX12_binds 51 = .ok (.bipush 22, 2) ∧ 51 + 2 = 53 := ⟨by decide +kernel, rfl⟩
set_option maxRecDepth 20000 in
theorem dX12_binds_53 : decode cX12_binds 53 = .ok (.if_icmp .lt 8, 3) ∧ 53 + 3 = 56 ∧ ((53 : Nat) : Int) + (8) = ((61 : Nat) : Int) := ⟨by decide +kernel, rfl, by decide⟩
set_option maxRecDepth 20000 in
theorem dX12_binds_56 : decode cX12_binds 56 = .ok (.bipush 6, 2) ∧ 56 + 2 = 58 := ⟨by decide +kernel, rfl⟩
set_option maxRecDepth 20000 in
theorem dX12_binds_58 : decode cX12_binds 58 = .ok (.goto 4, 3) ∧ ((58 : Nat) : Int) + (4) = ((62 : Nat) : Int) := ⟨by decide +kernel, by decide⟩
set_option maxRecDepth 20000 in
theorem dX12_binds_61 : decode cX12_binds 61 = .ok (.iconst 5, 1) ∧ 61 + 1 = 62 := ⟨by decide +kernel, rfl⟩
set_option maxRecDepth 20000 in
theorem dX12_binds_62 : decode cX12_binds 62 = .ok (.ireturn, 1) := by decide +kernel
set_option maxRecDepth 20000 in
theorem dX12_settle_0 : decode cX12_settle 0 = .ok (.aload_n 0, 1) ∧ 0 + 1 = 1 := ⟨by decide +kernel, rfl⟩
set_option maxRecDepth 20000 in
theorem dX12_settle_1 : decode cX12_settle 1 = .ok (.getfield 236, 3) ∧ 1 + 3 = 4 := ⟨by decide +kernel, rfl⟩
set_option maxRecDepth 20000 in
theorem dX12_settle_4 : decode cX12_settle 4 = .ok (.ifCond .le 97, 3) ∧ 4 + 3 = 7 ∧ ((4 : Nat) : Int) + (97) = ((101 : Nat) : Int) := ⟨by decide +kernel, rfl, by decide⟩
set_option maxRecDepth 20000 in
theorem dX12_settle_7 : decode cX12_settle 7 = .ok (.aload_n 0, 1) ∧ 7 + 1 = 8 := ⟨by decide +kernel, rfl⟩
set_option maxRecDepth 20000 in
theorem dX12_settle_8 : decode cX12_settle 8 = .ok (.getfield 39, 3) ∧ 8 + 3 = 11 := ⟨by decide +kernel, rfl⟩
set_option maxRecDepth 20000 in
theorem dX12_settle_11 : decode cX12_settle 11 = .ok (.aload_n 0, 1) ∧ 11 + 1 = 12 := ⟨by decide +kernel, rfl⟩
set_option maxRecDepth 20000 in
theorem dX12_settle_12 : decode cX12_settle 12 = .ok (.getfield 236, 3) ∧ 12 + 3 = 15 := ⟨by decide +kernel, rfl⟩
set_option maxRecDepth 20000 in
theorem dX12_settle_15 : decode cX12_settle 15 = .ok (.iconst 1, 1) ∧ 15 + 1 = 16 := ⟨by decide +kernel, rfl⟩
set_option maxRecDepth 20000 in
theorem dX12_settle_16 : decode cX12_settle 16 = .ok (.isub, 1) ∧ 16 + 1 = 17 := ⟨by decide +kernel, rfl⟩
set_option maxRecDepth 20000 in
theorem dX12_settle_17 : decode cX12_settle 17 = .ok (.iaload, 1) ∧ 17 + 1 = 18 := ⟨by decide +kernel, rfl⟩
set_option maxRecDepth 20000 in
theorem dX12_settle_18 : decode cX12_settle 18 = .ok (.invokestatic 239, 3) ∧ 18 + 3 = 21 := ⟨by decide +kernel, rfl⟩
set_option maxRecDepth 20000 in
theorem dX12_settle_21 : decode cX12_settle 21 = .ok (.iload_n 1, 1) ∧ 21 + 1 = 22 := ⟨by decide +kernel, rfl⟩
set_option maxRecDepth 20000 in
theorem dX12_settle_22 : decode cX12_settle 22 = .ok (.if_icmp .lt 79, 3) ∧ 22 + 3 = 25 ∧ ((22 : Nat) : Int) + (79) = ((101 : Nat) : Int) := ⟨by decide +kernel, rfl, by decide⟩
set_option maxRecDepth 20000 in
theorem dX12_settle_25 : decode cX12_settle 25 = .ok (.aload_n 0, 1) ∧ 25 + 1 = 26 := ⟨by decide +kernel, rfl⟩
set_option maxRecDepth 20000 in
theorem dX12_settle_26 : decode cX12_settle 26 = .ok (.dup, 1) ∧ 26 + 1 = 27 := ⟨by decide +kernel, rfl⟩
set_option maxRecDepth 20000 in
theorem dX12_settle_27 : decode cX12_settle 27 = .ok (.getfield 236, 3) ∧ 27 + 3 = 30 := ⟨by decide +kernel, rfl⟩
set_option maxRecDepth 20000 in
theorem dX12_settle_30 : decode cX12_settle 30 = .ok (.iconst 1, 1) ∧ 30 + 1 = 31 := ⟨by decide +kernel, rfl⟩
set_option maxRecDepth 20000 in
theorem dX12_settle_31 : decode cX12_settle 31 = .ok (.isub, 1) ∧ 31 + 1 = 32 := ⟨by decide +kernel, rfl⟩
set_option maxRecDepth 20000 in
theorem dX12_settle_32 : decode cX12_settle 32 = .ok (.putfield 236, 3) ∧ 32 + 3 = 35 := ⟨by decide +kernel, rfl⟩
set_option maxRecDepth 20000 in
theorem dX12_settle_35 : decode cX12_settle 35 = .ok (.aload_n 0, 1) ∧ 35 + 1 = 36 := ⟨by decide +kernel, rfl⟩
set_option maxRecDepth 20000 in
theorem dX12_settle_36 : decode cX12_settle 36 = .ok (.getfield 39, 3) ∧ 36 + 3 = 39 := ⟨by decide +kernel, rfl⟩
set_option maxRecDepth 20000 in
theorem dX12_settle_39 : decode cX12_settle 39 = .ok (.aload_n 0, 1) ∧ 39 + 1 = 40 := ⟨by decide +kernel, rfl⟩
set_option maxRecDepth 20000 in
theorem dX12_settle_40 : decode cX12_settle 40 = .ok (.getfield 236, 3) ∧ 40 + 3 = 43 := ⟨by decide +kernel, rfl⟩
set_option maxRecDepth 20000 in
theorem dX12_settle_43 : decode cX12_settle 43 = .ok (.iaload, 1) ∧ 43 + 1 = 44 := ⟨by decide +kernel, rfl⟩
set_option maxRecDepth 20000 in
theorem dX12_settle_44 : decode cX12_settle 44 = .ok (.bipush 28, 2) ∧ 44 + 2 = 46 := ⟨by decide +kernel, rfl⟩
set_option maxRecDepth 20000 in
theorem dX12_settle_46 : decode cX12_settle 46 = .ok (.if_icmp .eq 17, 3) ∧ 46 + 3 = 49 ∧ ((46 : Nat) : Int) + (17) = ((63 : Nat) : Int) := ⟨by decide +kernel, rfl, by decide⟩
set_option maxRecDepth 20000 in
theorem dX12_settle_49 : decode cX12_settle 49 = .ok (.aload_n 0, 1) ∧ 49 + 1 = 50 := ⟨by decide +kernel, rfl⟩
set_option maxRecDepth 20000 in
theorem dX12_settle_50 : decode cX12_settle 50 = .ok (.getfield 39, 3) ∧ 50 + 3 = 53 := ⟨by decide +kernel, rfl⟩
set_option maxRecDepth 20000 in
theorem dX12_settle_53 : decode cX12_settle 53 = .ok (.aload_n 0, 1) ∧ 53 + 1 = 54 := ⟨by decide +kernel, rfl⟩
set_option maxRecDepth 20000 in
theorem dX12_settle_54 : decode cX12_settle 54 = .ok (.getfield 236, 3) ∧ 54 + 3 = 57 := ⟨by decide +kernel, rfl⟩
set_option maxRecDepth 20000 in
theorem dX12_settle_57 : decode cX12_settle 57 = .ok (.iaload, 1) ∧ 57 + 1 = 58 := ⟨by decide +kernel, rfl⟩
set_option maxRecDepth 20000 in
theorem dX12_settle_58 : decode cX12_settle 58 = .ok (.bipush 29, 2) ∧ 58 + 2 = 60 := ⟨by decide +kernel, rfl⟩
set_option maxRecDepth 20000 in
theorem dX12_settle_60 : decode cX12_settle 60 = .ok (.if_icmp .ne 24, 3) ∧ 60 + 3 = 63 ∧ ((60 : Nat) : Int) + (24) = ((84 : Nat) : Int) := ⟨by decide +kernel, rfl, by decide⟩
set_option maxRecDepth 20000 in
theorem dX12_settle_63 : decode cX12_settle 63 = .ok (.aload_n 0, 1) ∧ 63 + 1 = 64 := ⟨by decide +kernel, rfl⟩
set_option maxRecDepth 20000 in
theorem dX12_settle_64 : decode cX12_settle 64 = .ok (.getfield 36, 3) ∧ 64 + 3 = 67 := ⟨by decide +kernel, rfl⟩
set_option maxRecDepth 20000 in
theorem dX12_settle_67 : decode cX12_settle 67 = .ok (.aload_n 0, 1) ∧ 67 + 1 = 68 := ⟨by decide +kernel, rfl⟩
set_option maxRecDepth 20000 in
theorem dX12_settle_68 : decode cX12_settle 68 = .ok (.getfield 42, 3) ∧ 68 + 3 = 71 := ⟨by decide +kernel, rfl⟩
set_option maxRecDepth 20000 in
theorem dX12_settle_71 : decode cX12_settle 71 = .ok (.aload_n 0, 1) ∧ 71 + 1 = 72 := ⟨by decide +kernel, rfl⟩
set_option maxRecDepth 20000 in
theorem dX12_settle_72 : decode cX12_settle 72 = .ok (.getfield 236, 3) ∧ 72 + 3 = 75 := ⟨by decide +kernel, rfl⟩
set_option maxRecDepth 20000 in
theorem dX12_settle_75 : decode cX12_settle 75 = .ok (.iaload, 1) ∧ 75 + 1 = 76 := ⟨by decide +kernel, rfl⟩
set_option maxRecDepth 20000 in
theorem dX12_settle_76 : decode cX12_settle 76 = .ok (.aload_n 0, 1) ∧ 76 + 1 = 77 := ⟨by decide +kernel, rfl⟩
set_option maxRecDepth 20000 in
theorem dX12_settle_77 : decode cX12_settle 77 = .ok (.getfield 233, 3) ∧ 77 + 3 = 80 := ⟨by decide +kernel, rfl⟩
set_option maxRecDepth 20000 in
theorem dX12_settle_80 : decode cX12_settle 80 = .ok (.iastore, 1) ∧ 80 + 1 = 81 := ⟨by decide +kernel, rfl⟩
set_option maxRecDepth 20000 in
theorem dX12_settle_81 : decode cX12_settle 81 = .ok (.goto (-81), 3) ∧ ((81 : Nat) : Int) + (-81) = ((0 : Nat) : Int) := ⟨by decide +kernel, by decide⟩
set_option maxRecDepth 20000 in
theorem dX12_settle_84 : decode cX12_settle 84 = .ok (.aload_n 0, 1) ∧ 84 + 1 = 85 := ⟨by decide +kernel, rfl⟩
set_option maxRecDepth 20000 in
theorem dX12_settle_85 : decode cX12_settle 85 = .ok (.aload_n 0, 1) ∧ 85 + 1 = 86 := ⟨by decide +kernel, rfl⟩
set_option maxRecDepth 20000 in
theorem dX12_settle_86 : decode cX12_settle 86 = .ok (.getfield 39, 3) ∧ 86 + 3 = 89 := ⟨by decide +kernel, rfl⟩
set_option maxRecDepth 20000 in
theorem dX12_settle_89 : decode cX12_settle 89 = .ok (.aload_n 0, 1) ∧ 89 + 1 = 90 := ⟨by decide +kernel, rfl⟩
set_option maxRecDepth 20000 in
theorem dX12_settle_90 : decode cX12_settle 90 = .ok (.getfield 236, 3) ∧ 90 + 3 = 93 := ⟨by decide +kernel, rfl⟩
set_option maxRecDepth 20000 in
theorem dX12_settle_93 : decode cX12_settle 93 = .ok (.iaload, 1) ∧ 93 + 1 = 94 := ⟨by decide +kernel, rfl⟩
set_option maxRecDepth 20000 in
theorem dX12_settle_94 : decode cX12_settle 94 = .ok (.iconst 0, 1) ∧ 94 + 1 = 95 := ⟨by decide +kernel, rfl⟩
set_option maxRecDepth 20000 in
theorem dX12_settle_95 : decode cX12_settle 95 = .ok (.invokevirtual 242, 3) ∧ 95 + 3 = 98 := ⟨by decide +kernel, rfl⟩
set_option maxRecDepth 20000 in
theorem dX12_settle_98 : decode cX12_settle 98 = .ok (.goto (-98), 3) ∧ ((98 : Nat) : Int) + (-98) = ((0 : Nat) : Int) := ⟨by decide +kernel, by decide⟩
set_option maxRecDepth 20000 in
theorem dX12_settle_101 : decode cX12_settle 101 = .ok (.return_, 1) := by decide +kernel
set_option maxRecDepth 20000 in
theorem dX12_inner_0 : decode cX12_inner 0 = .ok (.iconst (-1), 1) ∧ 0 + 1 = 1 := ⟨by decide +kernel, rfl⟩
set_option maxRecDepth 20000 in
theorem dX12_inner_1 : decode cX12_inner 1 = .ok (.istore_n 1, 1) ∧ 1 + 1 = 2 := ⟨by decide +kernel, rfl⟩
set_option maxRecDepth 20000 in
theorem dX12_inner_2 : decode cX12_inner 2 = .ok (.iconst 0, 1) ∧ 2 + 1 = 3 := ⟨by decide +kernel, rfl⟩
set_option maxRecDepth 20000 in
theorem dX12_inner_3 : decode cX12_inner 3 = .ok (.istore_n 2, 1) ∧ 3 + 1 = 4 := ⟨by decide +kernel, rfl⟩
set_option maxRecDepth 20000 in
theorem dX12_inner_4 : decode cX12_inner 4 = .ok (.iload_n 2, 1) ∧ 4 + 1 = 5 := ⟨by decide +kernel, rfl⟩
set_option maxRecDepth 20000 in
theorem dX12_inner_5 : decode cX12_inner 5 = .ok (.aload_n 0, 1) ∧ 5 + 1 = 6 := ⟨by decide +kernel, rfl⟩
set_option maxRecDepth 20000 in
theorem dX12_inner_6 : decode cX12_inner 6 = .ok (.getfield 236, 3) ∧ 6 + 3 = 9 := ⟨by decide +kernel, rfl⟩
set_option maxRecDepth 20000 in
theorem dX12_inner_9 : decode cX12_inner 9 = .ok (.if_icmp .ge 31, 3) ∧ 9 + 3 = 12 ∧ ((9 : Nat) : Int) + (31) = ((40 : Nat) : Int) := ⟨by decide +kernel, rfl, by decide⟩
set_option maxRecDepth 20000 in
theorem dX12_inner_12 : decode cX12_inner 12 = .ok (.aload_n 0, 1) ∧ 12 + 1 = 13 := ⟨by decide +kernel, rfl⟩
set_option maxRecDepth 20000 in
theorem dX12_inner_13 : decode cX12_inner 13 = .ok (.getfield 39, 3) ∧ 13 + 3 = 16 := ⟨by decide +kernel, rfl⟩
set_option maxRecDepth 20000 in
theorem dX12_inner_16 : decode cX12_inner 16 = .ok (.iload_n 2, 1) ∧ 16 + 1 = 17 := ⟨by decide +kernel, rfl⟩
set_option maxRecDepth 20000 in
theorem dX12_inner_17 : decode cX12_inner 17 = .ok (.iaload, 1) ∧ 17 + 1 = 18 := ⟨by decide +kernel, rfl⟩
set_option maxRecDepth 20000 in
theorem dX12_inner_18 : decode cX12_inner 18 = .ok (.bipush 30, 2) ∧ 18 + 2 = 20 := ⟨by decide +kernel, rfl⟩
set_option maxRecDepth 20000 in
theorem dX12_inner_20 : decode cX12_inner 20 = .ok (.if_icmp .lt 12, 3) ∧ 20 + 3 = 23 ∧ ((20 : Nat) : Int) + (12) = ((32 : Nat) : Int) := ⟨by decide +kernel, rfl, by decide⟩
set_option maxRecDepth 20000 in
theorem dX12_inner_23 : decode cX12_inner 23 = .ok (.aload_n 0, 1) ∧ 23 + 1 = 24 := ⟨by decide +kernel, rfl⟩
set_option maxRecDepth 20000 in
theorem dX12_inner_24 : decode cX12_inner 24 = .ok (.getfield 39, 3) ∧ 24 + 3 = 27 := ⟨by decide +kernel, rfl⟩
set_option maxRecDepth 20000 in
theorem dX12_inner_27 : decode cX12_inner 27 = .ok (.iload_n 2, 1) ∧ 27 + 1 = 28 := ⟨by decide +kernel, rfl⟩
set_option maxRecDepth 20000 in
theorem dX12_inner_28 : decode cX12_inner 28 = .ok (.iaload, 1) ∧ 28 + 1 = 29 := ⟨by decide +kernel, rfl⟩
set_option maxRecDepth 20000 in
theorem dX12_inner_29 : decode cX12_inner 29 = .ok (.goto 4, 3) ∧ ((29 : Nat) : Int) + (4) = ((33 : Nat) : Int) := ⟨by decide +kernel, by decide⟩
set_option maxRecDepth 20000 in
theorem dX12_inner_32 : decode cX12_inner 32 = .ok (.iload_n 1, 1) ∧ 32 + 1 = 33 := ⟨by decide +kernel, rfl⟩
set_option maxRecDepth 20000 in
theorem dX12_inner_33 : decode cX12_inner 33 = .ok (.istore_n 1, 1) ∧ 33 + 1 = 34 := ⟨by decide +kernel, rfl⟩
set_option maxRecDepth 20000 in
theorem dX12_inner_34 : decode cX12_inner 34 = .ok (.iinc 2 1, 3) ∧ 34 + 3 = 37 := ⟨by decide +kernel, rfl⟩
set_option maxRecDepth 20000 in
theorem dX12_inner_37 : decode cX12_inner 37 = .ok (.goto (-33), 3) ∧ ((37 : Nat) : Int) + (-33) = ((4 : Nat) : Int) := ⟨by decide +kernel, by decide⟩
set_option maxRecDepth 20000 in
theorem dX12_inner_40 : decode cX12_inner 40 = .ok (.iload_n 1, 1) ∧ 40 + 1 = 41 := ⟨by decide +kernel, rfl⟩
set_option maxRecDepth 20000 in
theorem dX12_inner_41 : decode cX12_inner 41 = .ok (.ireturn, 1) := by decide +kernel
set_option maxRecDepth 20000 in
theorem dX12_isCompared_0 : decode cX12_isCompared 0 = .ok (.aload_n 0, 1) ∧ 0 + 1 = 1 := ⟨by decide +kernel, rfl⟩
set_option maxRecDepth 20000 in
theorem dX12_isCompared_1 : decode cX12_isCompared 1 = .ok (.getfield 236, 3) ∧ 1 + 3 = 4 := ⟨by decide +kernel, rfl⟩
set_option maxRecDepth 20000 in
theorem dX12_isCompared_4 : decode cX12_isCompared 4 = .ok (.iconst 1, 1) ∧ 4 + 1 = 5 := ⟨by decide +kernel, rfl⟩
set_option maxRecDepth 20000 in
theorem dX12_isCompared_5 : decode cX12_isCompared 5 = .ok (.isub, 1) ∧ 5 + 1 = 6 := ⟨by decide +kernel, rfl⟩
set_option maxRecDepth 20000 in
theorem dX12_isCompared_6 : decode cX12_isCompared 6 = .ok (.istore_n 1, 1) ∧ 6 + 1 = 7 := ⟨by decide +kernel, rfl⟩
set_option maxRecDepth 20000 in
theorem dX12_isCompared_7 : decode cX12_isCompared 7 = .ok (.iload_n 1, 1) ∧ 7 + 1 = 8 := ⟨by decide +kernel, rfl⟩
set_option maxRecDepth 20000 in
theorem dX12_isCompared_8 : decode cX12_isCompared 8 = .ok (.ifCond .lt 28, 3) ∧ 8 + 3 = 11 ∧ ((8 : Nat) : Int) + (28) = ((36 : Nat) : Int) := ⟨by decide +kernel, rfl, by decide⟩
set_option maxRecDepth 20000 in
theorem dX12_isCompared_11 : decode cX12_isCompared 11 = .ok (.aload_n 0, 1) ∧ 11 + 1 = 12 := ⟨by decide +kernel, rfl⟩
set_option maxRecDepth 20000 in
theorem dX12_isCompared_12 : decode cX12_isCompared 12 = .ok (.getfield 39, 3) ∧ 12 + 3 = 15 := ⟨by decide +kernel, rfl⟩
set_option maxRecDepth 20000 in
theorem dX12_isCompared_15 : decode cX12_isCompared 15 = .ok (.iload_n 1, 1) ∧ 15 + 1 = 16 := ⟨by decide +kernel, rfl⟩
set_option maxRecDepth 20000 in
theorem dX12_isCompared_16 : decode cX12_isCompared 16 = .ok (.iaload, 1) ∧ 16 + 1 = 17 := ⟨by decide +kernel, rfl⟩
set_option maxRecDepth 20000 in
theorem dX12_isCompared_17 : decode cX12_isCompared 17 = .ok (.i2l, 1) ∧ 17 + 1 = 18 := ⟨by decide +kernel, rfl⟩
set_option maxRecDepth 20000 in
theorem dX12_isCompared_18 : decode cX12_isCompared 18 = .ok (.ldc2_w 246, 3) ∧ 18 + 3 = 21 := ⟨by decide +kernel, rfl⟩
set_option maxRecDepth 20000 in
theorem dX12_isCompared_21 : decode cX12_isCompared 21 = .ok (.ldc2_w 141, 3) ∧ 21 + 3 = 24 := ⟨by decide +kernel, rfl⟩
set_option maxRecDepth 20000 in
theorem dX12_isCompared_24 : decode cX12_isCompared 24 = .ok (.invokestatic 134, 3) ∧ 24 + 3 = 27 := ⟨by decide +kernel, rfl⟩
set_option maxRecDepth 20000 in
theorem dX12_isCompared_27 : decode cX12_isCompared 27 = .ok (.ifCond .eq 9, 3) ∧ 27 + 3 = 30 ∧ ((27 : Nat) : Int) + (9) = ((36 : Nat) : Int) := ⟨by decide +kernel, rfl, by decide⟩
set_option maxRecDepth 20000 in
theorem dX12_isCompared_30 : decode cX12_isCompared 30 = .ok (.iinc 1 (-1), 3) ∧ 30 + 3 = 33 := ⟨by decide +kernel, rfl⟩
set_option maxRecDepth 20000 in
theorem dX12_isCompared_33 : decode cX12_isCompared 33 = .ok (.goto (-26), 3) ∧ ((33 : Nat) : Int) + (-26) = ((7 : Nat) : Int) := ⟨by decide +kernel, by decide⟩
set_option maxRecDepth 20000 in
theorem dX12_isCompared_36 : decode cX12_isCompared 36 = .ok (.iload_n 1, 1) ∧ 36 + 1 = 37 := ⟨by decide +kernel, rfl⟩
set_option maxRecDepth 20000 in
theorem dX12_isCompared_37 : decode cX12_isCompared 37 = .ok (.ifCond .lt 26, 3) ∧ 37 + 3 = 40 ∧ ((37 : Nat) : Int) + (26) = ((63 : Nat) : Int) := ⟨by decide +kernel, rfl, by decide⟩
set_option maxRecDepth 20000 in
theorem dX12_isCompared_40 : decode cX12_isCompared 40 = .ok (.aload_n 0, 1) ∧ 40 + 1 = 41 := ⟨by decide +kernel, rfl⟩
set_option maxRecDepth 20000 in
theorem dX12_isCompared_41 : decode cX12_isCompared 41 = .ok (.getfield 39, 3) ∧ 41 + 3 = 44 := ⟨by decide +kernel, rfl⟩
set_option maxRecDepth 20000 in
theorem dX12_isCompared_44 : decode cX12_isCompared 44 = .ok (.iload_n 1, 1) ∧ 44 + 1 = 45 := ⟨by decide +kernel, rfl⟩
set_option maxRecDepth 20000 in
theorem dX12_isCompared_45 : decode cX12_isCompared 45 = .ok (.iaload, 1) ∧ 45 + 1 = 46 := ⟨by decide +kernel, rfl⟩
set_option maxRecDepth 20000 in
theorem dX12_isCompared_46 : decode cX12_isCompared 46 = .ok (.i2l, 1) ∧ 46 + 1 = 47 := ⟨by decide +kernel, rfl⟩
set_option maxRecDepth 20000 in
theorem dX12_isCompared_47 : decode cX12_isCompared 47 = .ok (.ldc2_w 248, 3) ∧ 47 + 3 = 50 := ⟨by decide +kernel, rfl⟩
set_option maxRecDepth 20000 in
theorem dX12_isCompared_50 : decode cX12_isCompared 50 = .ok (.ldc2_w 250, 3) ∧ 50 + 3 = 53 := ⟨by decide +kernel, rfl⟩
set_option maxRecDepth 20000 in
theorem dX12_isCompared_53 : decode cX12_isCompared 53 = .ok (.invokestatic 134, 3) ∧ 53 + 3 = 56 := ⟨by decide +kernel, rfl⟩
set_option maxRecDepth 20000 in
theorem dX12_isCompared_56 : decode cX12_isCompared 56 = .ok (.ifCond .eq 7, 3) ∧ 56 + 3 = 59 ∧ ((56 : Nat) : Int) + (7) = ((63 : Nat) : Int) := ⟨by decide +kernel, rfl, by decide⟩
set_option maxRecDepth 20000 in
theorem dX12_isCompared_59 : decode cX12_isCompared 59 = .ok (.iconst 1, 1) ∧ 59 + 1 = 60 := ⟨by decide +kernel, rfl⟩
set_option maxRecDepth 20000 in
theorem dX12_isCompared_60 : decode cX12_isCompared 60 = .ok (.goto 4, 3) ∧ ((60 : Nat) : Int) + (4) = ((64 : Nat) : Int) := ⟨by decide +kernel, by decide⟩
set_option maxRecDepth 20000 in
theorem dX12_isCompared_63 : decode cX12_isCompared 63 = .ok (.iconst 0, 1) ∧ 63 + 1 = 64 := ⟨by decide +kernel, rfl⟩
set_option maxRecDepth 20000 in
theorem dX12_isCompared_64 : decode cX12_isCompared 64 = .ok (.ireturn, 1) := by decide +kernel
set_option maxRecDepth 20000 in
theorem dX12_partAt_0 : decode cX12_partAt 0 = .ok (.iconst (-1), 1) ∧ 0 + 1 = 1 := ⟨by decide +kernel, rfl⟩
set_option maxRecDepth 20000 in
theorem dX12_partAt_1 : decode cX12_partAt 1 = .ok (.istore_n 1, 1) ∧ 1 + 1 = 2 := ⟨by decide +kernel, rfl⟩
set_option maxRecDepth 20000 in
theorem dX12_partAt_2 : decode cX12_partAt 2 = .ok (.iconst 0, 1) ∧ 2 + 1 = 3 := ⟨by decide +kernel, rfl⟩
set_option maxRecDepth 20000 in
theorem dX12_partAt_3 : decode cX12_partAt 3 = .ok (.istore_n 2, 1) ∧ 3 + 1 = 4 := ⟨by decide +kernel, rfl⟩
set_option maxRecDepth 20000 in
theorem dX12_partAt_4 : decode cX12_partAt 4 = .ok (.iload_n 2, 1) ∧ 4 + 1 = 5 := ⟨by decide +kernel, rfl⟩
set_option maxRecDepth 20000 in
theorem dX12_partAt_5 : decode cX12_partAt 5 = .ok (.bipush 10, 2) ∧ 5 + 2 = 7 := ⟨by decide +kernel, rfl⟩
set_option maxRecDepth 20000 in
theorem dX12_partAt_7 : decode cX12_partAt 7 = .ok (.if_icmp .ge 30, 3) ∧ 7 + 3 = 10 ∧ ((7 : Nat) : Int) + (30) = ((37 : Nat) : Int) := ⟨by decide +kernel, rfl, by decide⟩
set_option maxRecDepth 20000 in
theorem dX12_partAt_10 : decode cX12_partAt 10 = .ok (.aload_n 0, 1) ∧ 10 + 1 = 11 := ⟨by decide +kernel, rfl⟩
set_option maxRecDepth 20000 in
theorem dX12_partAt_11 : decode cX12_partAt 11 = .ok (.aload_n 0, 1) ∧ 11 + 1 = 12 := ⟨by decide +kernel, rfl⟩
set_option maxRecDepth 20000 in
theorem dX12_partAt_12 : decode cX12_partAt 12 = .ok (.getfield 65, 3) ∧ 12 + 3 = 15 := ⟨by decide +kernel, rfl⟩
set_option maxRecDepth 20000 in
theorem dX12_partAt_15 : decode cX12_partAt 15 = .ok (.iload_n 2, 1) ∧ 15 + 1 = 16 := ⟨by decide +kernel, rfl⟩
set_option maxRecDepth 20000 in
theorem dX12_partAt_16 : decode cX12_partAt 16 = .ok (.laload, 1) ∧ 16 + 1 = 17 := ⟨by decide +kernel, rfl⟩
set_option maxRecDepth 20000 in
theorem dX12_partAt_17 : decode cX12_partAt 17 = .ok (.invokevirtual 252, 3) ∧ 17 + 3 = 20 := ⟨by decide +kernel, rfl⟩
set_option maxRecDepth 20000 in
theorem dX12_partAt_20 : decode cX12_partAt 20 = .ok (.ifCond .eq 9, 3) ∧ 20 + 3 = 23 ∧ ((20 : Nat) : Int) + (9) = ((29 : Nat) : Int) := ⟨by decide +kernel, rfl, by decide⟩
set_option maxRecDepth 20000 in
theorem dX12_partAt_23 : decode cX12_partAt 23 = .ok (.iload_n 2, 1) ∧ 23 + 1 = 24 := ⟨by decide +kernel, rfl⟩
set_option maxRecDepth 20000 in
theorem dX12_partAt_24 : decode cX12_partAt 24 = .ok (.iconst 1, 1) ∧ 24 + 1 = 25 := ⟨by decide +kernel, rfl⟩
set_option maxRecDepth 20000 in
theorem dX12_partAt_25 : decode cX12_partAt 25 = .ok (.iadd, 1) ∧ 25 + 1 = 26 := ⟨by decide +kernel, rfl⟩
set_option maxRecDepth 20000 in
theorem dX12_partAt_26 : decode cX12_partAt 26 = .ok (.goto 4, 3) ∧ ((26 : Nat) : Int) + (4) = ((30 : Nat) : Int) := ⟨by decide +kernel, by decide⟩
set_option maxRecDepth 20000 in
theorem dX12_partAt_29 : decode cX12_partAt 29 = .ok (.iload_n 1, 1) ∧ 29 + 1 = 30 := ⟨by decide +kernel, rfl⟩
set_option maxRecDepth 20000 in
theorem dX12_partAt_30 : decode cX12_partAt 30 = .ok (.istore_n 1, 1) ∧ 30 + 1 = 31 := ⟨by decide +kernel, rfl⟩
set_option maxRecDepth 20000 in
theorem dX12_partAt_31 : decode cX12_partAt 31 = .ok (.iinc 2 1, 3) ∧ 31 + 3 = 34 := ⟨by decide +kernel, rfl⟩
set_option maxRecDepth 20000 in
theorem dX12_partAt_34 : decode cX12_partAt 34 = .ok (.goto (-30), 3) ∧ ((34 : Nat) : Int) + (-30) = ((4 : Nat) : Int) := ⟨by decide +kernel, by decide⟩
set_option maxRecDepth 20000 in
theorem dX12_partAt_37 : decode cX12_partAt 37 = .ok (.iload_n 1, 1) ∧ 37 + 1 = 38 := ⟨by decide +kernel, rfl⟩
set_option maxRecDepth 20000 in
theorem dX12_partAt_38 : decode cX12_partAt 38 = .ok (.ireturn, 1) := by decide +kernel
set_option maxRecDepth 20000 in
theorem dX12_openBracket_0 : decode cX12_openBracket 0 = .ok (.aload_n 0, 1) ∧ 0 + 1 = 1 := ⟨by decide +kernel, rfl⟩
set_option maxRecDepth 20000 in
theorem dX12_openBracket_1 : decode cX12_openBracket 1 = .ok (.aload_n 0, 1) ∧ 1 + 1 = 2 := ⟨by decide +kernel, rfl⟩
set_option maxRecDepth 20000 in
theorem dX12_openBracket_2 : decode cX12_openBracket 2 = .ok (.getfield 256, 3) ∧ 2 + 3 = 5 := ⟨by decide +kernel, rfl⟩
set_option maxRecDepth 20000 in
theorem dX12_openBracket_5 : decode cX12_openBracket 5 = .ok (.bipush 8, 2) ∧ 5 + 2 = 7 := ⟨by decide +kernel, rfl⟩
set_option maxRecDepth 20000 in
theorem dX12_openBracket_7 : decode cX12_openBracket 7 = .ok (.if_icmp .ge 7, 3) ∧ 7 + 3 = 10 ∧ ((7 : Nat) : Int) + (7) = ((14 : Nat) : Int) := ⟨by decide +kernel, rfl, by decide⟩
set_option maxRecDepth 20000 in
theorem dX12_openBracket_10 : decode cX12_openBracket 10 = .ok (.iconst 1, 1) ∧ 10 + 1 = 11 := ⟨by decide +kernel, rfl⟩
set_option maxRecDepth 20000 in
theorem dX12_openBracket_11 : decode cX12_openBracket 11 = .ok (.goto 4, 3) ∧ ((11 : Nat) : Int) + (4) = ((15 : Nat) : Int) := ⟨by decide +kernel, by decide⟩
set_option maxRecDepth 20000 in
theorem dX12_openBracket_14 : decode cX12_openBracket 14 = .ok (.iconst 0, 1) ∧ 14 + 1 = 15 := ⟨by decide +kernel, rfl⟩
set_option maxRecDepth 20000 in
theorem dX12_openBracket_15 : decode cX12_openBracket 15 = .ok (.invokevirtual 229, 3) ∧ 15 + 3 = 18 := ⟨by decide +kernel, rfl⟩
set_option maxRecDepth 20000 in
theorem dX12_openBracket_18 : decode cX12_openBracket 18 = .ok (.aload_n 0, 1) ∧ 18 + 1 = 19 := ⟨by decide +kernel, rfl⟩
set_option maxRecDepth 20000 in
theorem dX12_openBracket_19 : decode cX12_openBracket 19 = .ok (.getfield 194, 3) ∧ 19 + 3 = 22 := ⟨by decide +kernel, rfl⟩
set_option maxRecDepth 20000 in
theorem dX12_openBracket_22 : decode cX12_openBracket 22 = .ok (.ifCond .ne 19, 3) ∧ 22 + 3 = 25 ∧ ((22 : Nat) : Int) + (19) = ((41 : Nat) : Int) := ⟨by decide +kernel, rfl, by decide⟩
set_option maxRecDepth 20000 in
theorem dX12_openBracket_25 : decode cX12_openBracket 25 = .ok (.aload_n 0, 1) ∧ 25 + 1 = 26 := ⟨by decide +kernel, rfl⟩
set_option maxRecDepth 20000 in
theorem dX12_openBracket_26 : decode cX12_openBracket 26 = .ok (.dup, 1) ∧ 26 + 1 = 27 := ⟨by decide +kernel, rfl⟩
set_option maxRecDepth 20000 in
theorem dX12_openBracket_27 : decode cX12_openBracket 27 = .ok (.getfield 256, 3) ∧ 27 + 3 = 30 := ⟨by decide +kernel, rfl⟩
set_option maxRecDepth 20000 in
theorem dX12_openBracket_30 : decode cX12_openBracket 30 = .ok (.iconst 1, 1) ∧ 30 + 1 = 31 := ⟨by decide +kernel, rfl⟩
set_option maxRecDepth 20000 in
theorem dX12_openBracket_31 : decode cX12_openBracket 31 = .ok (.iadd, 1) ∧ 31 + 1 = 32 := ⟨by decide +kernel, rfl⟩
set_option maxRecDepth 20000 in
theorem dX12_openBracket_32 : decode cX12_openBracket 32 = .ok (.putfield 256, 3) ∧ 32 + 3 = 35 := ⟨by decide +kernel, rfl⟩
set_option maxRecDepth 20000 in
theorem dX12_openBracket_35 : decode cX12_openBracket 35 = .ok (.aload_n 0, 1) ∧ 35 + 1 = 36 := ⟨by decide +kernel, rfl⟩
set_option maxRecDepth 20000 in
theorem dX12_openBracket_36 : decode cX12_openBracket 36 = .ok (.iload_n 1, 1) ∧ 36 + 1 = 37 := ⟨by decide +kernel, rfl⟩
set_option maxRecDepth 20000 in
theorem dX12_openBracket_37 : decode cX12_openBracket 37 = .ok (.iconst 0, 1) ∧ 37 + 1 = 38 := ⟨by decide +kernel, rfl⟩
set_option maxRecDepth 20000 in
theorem dX12_openBracket_38 : decode cX12_openBracket 38 = .ok (.invokevirtual 259, 3) ∧ 38 + 3 = 41 := ⟨by decide +kernel, rfl⟩
set_option maxRecDepth 20000 in
theorem dX12_openBracket_41 : decode cX12_openBracket 41 = .ok (.return_, 1) := by decide +kernel
set_option maxRecDepth 20000 in
theorem dX12_leaf_0 : decode cX12_leaf 0 = .ok (.aload_n 0, 1) ∧ 0 + 1 = 1 := ⟨by decide +kernel, rfl⟩
set_option maxRecDepth 20000 in
theorem dX12_leaf_1 : decode cX12_leaf 1 = .ok (.iload_n 1, 1) ∧ 1 + 1 = 2 := ⟨by decide +kernel, rfl⟩
set_option maxRecDepth 20000 in
theorem dX12_leaf_2 : decode cX12_leaf 2 = .ok (.ifCond .eq 16, 3) ∧ 2 + 3 = 5 ∧ ((2 : Nat) : Int) + (16) = ((18 : Nat) : Int) := ⟨by decide +kernel, rfl, by decide⟩
set_option maxRecDepth 20000 in
theorem dX12_leaf_5 : decode cX12_leaf 5 = .ok (.aload_n 0, 1) ∧ 5 + 1 = 6 := ⟨by decide +kernel, rfl⟩
set_option maxRecDepth 20000 in
theorem dX12_leaf_6 : decode cX12_leaf 6 = .ok (.getfield 262, 3) ∧ 6 + 3 = 9 := ⟨by decide +kernel, rfl⟩
set_option maxRecDepth 20000 in
theorem dX12_leaf_9 : decode cX12_leaf 9 = .ok (.bipush 50, 2) ∧ 9 + 2 = 11 := ⟨by decide +kernel, rfl⟩
set_option maxRecDepth 20000 in
theorem dX12_leaf_11 : decode cX12_leaf 11 = .ok (.if_icmp .ge 7, 3) ∧ 11 + 3 = 14 ∧ ((11 : Nat) : Int) + (7) = ((18 : Nat) : Int) := ⟨by decide +kernel, rfl, by decide⟩
set_option maxRecDepth 20000 in
theorem dX12_leaf_14 : decode cX12_leaf 14 = .ok (.iconst 1, 1) ∧ 14 + 1 = 15 := ⟨by decide +kernel, rfl⟩
set_option maxRecDepth 20000 in
theorem dX12_leaf_15 : decode cX12_leaf 15 = .ok (.goto 4, 3) ∧ ((15 : Nat) : Int) + (4) = ((19 : Nat) : Int) := ⟨by decide +kernel, by decide⟩
set_option maxRecDepth 20000 in
theorem dX12_leaf_18 : decode cX12_leaf 18 = .ok (.iconst 0, 1) ∧ 18 + 1 = 19 := ⟨by decide +kernel, rfl⟩
set_option maxRecDepth 20000 in
theorem dX12_leaf_19 : decode cX12_leaf 19 = .ok (.invokevirtual 229, 3) ∧ 19 + 3 = 22 := ⟨by decide +kernel, rfl⟩
set_option maxRecDepth 20000 in
theorem dX12_leaf_22 : decode cX12_leaf 22 = .ok (.aload_n 0, 1) ∧ 22 + 1 = 23 := ⟨by decide +kernel, rfl⟩
set_option maxRecDepth 20000 in
theorem dX12_leaf_23 : decode cX12_leaf 23 = .ok (.getfield 194, 3) ∧ 23 + 3 = 26 := ⟨by decide +kernel, rfl⟩
set_option maxRecDepth 20000 in
theorem dX12_leaf_26 : decode cX12_leaf 26 = .ok (.ifCond .ne 19, 3) ∧ 26 + 3 = 29 ∧ ((26 : Nat) : Int) + (19) = ((45 : Nat) : Int) := ⟨by decide +kernel, rfl, by decide⟩
set_option maxRecDepth 20000 in
theorem dX12_leaf_29 : decode cX12_leaf 29 = .ok (.aload_n 0, 1) ∧ 29 + 1 = 30 := ⟨by decide +kernel, rfl⟩
set_option maxRecDepth 20000 in
theorem dX12_leaf_30 : decode cX12_leaf 30 = .ok (.iload_n 2, 1) ∧ 30 + 1 = 31 := ⟨by decide +kernel, rfl⟩
set_option maxRecDepth 20000 in
theorem dX12_leaf_31 : decode cX12_leaf 31 = .ok (.iload_n 3, 1) ∧ 31 + 1 = 32 := ⟨by decide +kernel, rfl⟩
set_option maxRecDepth 20000 in
theorem dX12_leaf_32 : decode cX12_leaf 32 = .ok (.invokevirtual 242, 3) ∧ 32 + 3 = 35 := ⟨by decide +kernel, rfl⟩
set_option maxRecDepth 20000 in
theorem dX12_leaf_35 : decode cX12_leaf 35 = .ok (.aload_n 0, 1) ∧ 35 + 1 = 36 := ⟨by decide +kernel, rfl⟩
set_option maxRecDepth 20000 in
theorem dX12_leaf_36 : decode cX12_leaf 36 = .ok (.dup, 1) ∧ 36 + 1 = 37 := ⟨by decide +kernel, rfl⟩
set_option maxRecDepth 20000 in
theorem dX12_leaf_37 : decode cX12_leaf 37 = .ok (.getfield 262, 3) ∧ 37 + 3 = 40 := ⟨by decide +kernel, rfl⟩
set_option maxRecDepth 20000 in
theorem dX12_leaf_40 : decode cX12_leaf 40 = .ok (.iconst 1, 1) ∧ 40 + 1 = 41 := ⟨by decide +kernel, rfl⟩
set_option maxRecDepth 20000 in
theorem dX12_leaf_41 : decode cX12_leaf 41 = .ok (.iadd, 1) ∧ 41 + 1 = 42 := ⟨by decide +kernel, rfl⟩
set_option maxRecDepth 20000 in
theorem dX12_leaf_42 : decode cX12_leaf 42 = .ok (.putfield 262, 3) ∧ 42 + 3 = 45 := ⟨by decide +kernel, rfl⟩
set_option maxRecDepth 20000 in
theorem dX12_leaf_45 : decode cX12_leaf 45 = .ok (.return_, 1) := by decide +kernel
set_option maxRecDepth 20000 in
theorem dX12_readPart_0 : decode cX12_readPart 0 = .ok (.aload_n 0, 1) ∧ 0 + 1 = 1 := ⟨by decide +kernel, rfl⟩
set_option maxRecDepth 20000 in
theorem dX12_readPart_1 : decode cX12_readPart 1 = .ok (.bipush 91, 2) ∧ 1 + 2 = 3 := ⟨by decide +kernel, rfl⟩
set_option maxRecDepth 20000 in
theorem dX12_readPart_3 : decode cX12_readPart 3 = .ok (.invokevirtual 265, 3) ∧ 3 + 3 = 6 := ⟨by decide +kernel, rfl⟩
set_option maxRecDepth 20000 in
theorem dX12_readPart_6 : decode cX12_readPart 6 = .ok (.ifCond .eq 11, 3) ∧ 6 + 3 = 9 ∧ ((6 : Nat) : Int) + (11) = ((17 : Nat) : Int) := ⟨by decide +kernel, rfl, by decide⟩
set_option maxRecDepth 20000 in
theorem dX12_readPart_9 : decode cX12_readPart 9 = .ok (.aload_n 0, 1) ∧ 9 + 1 = 10 := ⟨by decide +kernel, rfl⟩
set_option maxRecDepth 20000 in
theorem dX12_readPart_10 : decode cX12_readPart 10 = .ok (.bipush 31, 2) ∧ 10 + 2 = 12 := ⟨by decide +kernel, rfl⟩
set_option maxRecDepth 20000 in
theorem dX12_readPart_12 : decode cX12_readPart 12 = .ok (.invokevirtual 268, 3) ∧ 12 + 3 = 15 := ⟨by decide +kernel, rfl⟩
set_option maxRecDepth 20000 in
theorem dX12_readPart_15 : decode cX12_readPart 15 = .ok (.iconst 1, 1) ∧ 15 + 1 = 16 := ⟨by decide +kernel, rfl⟩
set_option maxRecDepth 20000 in
theorem dX12_readPart_16 : decode cX12_readPart 16 = .ok (.ireturn, 1) := by decide +kernel
set_option maxRecDepth 20000 in
theorem dX12_readPart_17 : decode cX12_readPart 17 = .ok (.aload_n 0, 1) ∧ 17 + 1 = 18 := ⟨by decide +kernel, rfl⟩
set_option maxRecDepth 20000 in
theorem dX12_readPart_18 : decode cX12_readPart 18 = .ok (.invokevirtual 271, 3) ∧ 18 + 3 = 21 := ⟨by decide +kernel, rfl⟩
set_option maxRecDepth 20000 in
theorem dX12_readPart_21 : decode cX12_readPart 21 = .ok (.istore_n 1, 1) ∧ 21 + 1 = 22 := ⟨by decide +kernel, rfl⟩
set_option maxRecDepth 20000 in
theorem dX12_readPart_22 : decode cX12_readPart 22 = .ok (.aload_n 0, 1) ∧ 22 + 1 = 23 := ⟨by decide +kernel, rfl⟩
set_option maxRecDepth 20000 in
theorem dX12_readPart_23 : decode cX12_readPart 23 = .ok (.getfield 214, 3) ∧ 23 + 3 = 26 := ⟨by decide +kernel, rfl⟩
set_option maxRecDepth 20000 in
theorem dX12_readPart_26 : decode cX12_readPart 26 = .ok (.iconst 2, 1) ∧ 26 + 1 = 27 := ⟨by decide +kernel, rfl⟩
set_option maxRecDepth 20000 in
theorem dX12_readPart_27 : decode cX12_readPart 27 = .ok (.if_icmp .ne 18, 3) ∧ 27 + 3 = 30 ∧ ((27 : Nat) : Int) + (18) = ((45 : Nat) : Int) := ⟨by decide +kernel, rfl, by decide⟩
set_option maxRecDepth 20000 in
theorem dX12_readPart_30 : decode cX12_readPart 30 = .ok (.aload_n 0, 1) ∧ 30 + 1 = 31 := ⟨by decide +kernel, rfl⟩
set_option maxRecDepth 20000 in
theorem dX12_readPart_31 : decode cX12_readPart 31 = .ok (.getfield 204, 3) ∧ 31 + 3 = 34 := ⟨by decide +kernel, rfl⟩
set_option maxRecDepth 20000 in
theorem dX12_readPart_34 : decode cX12_readPart 34 = .ok (.ldc2_w 275, 3) ∧ 34 + 3 = 37 := ⟨by decide +kernel, rfl⟩
set_option maxRecDepth 20000 in
theorem dX12_readPart_37 : decode cX12_readPart 37 = .ok (.lcmp, 1) ∧ 37 + 1 = 38 := ⟨by decide +kernel, rfl⟩
set_option maxRecDepth 20000 in
theorem dX12_readPart_38 : decode cX12_readPart 38 = .ok (.ifCond .gt 7, 3) ∧ 38 + 3 = 41 ∧ ((38 : Nat) : Int) + (7) = ((45 : Nat) : Int) := ⟨by decide +kernel, rfl, by decide⟩
set_option maxRecDepth 20000 in
theorem dX12_readPart_41 : decode cX12_readPart 41 = .ok (.iconst 1, 1) ∧ 41 + 1 = 42 := ⟨by decide +kernel, rfl⟩
set_option maxRecDepth 20000 in
theorem dX12_readPart_42 : decode cX12_readPart 42 = .ok (.goto 4, 3) ∧ ((42 : Nat) : Int) + (4) = ((46 : Nat) : Int) := ⟨by decide +kernel, by decide⟩
set_option maxRecDepth 20000 in
theorem dX12_readPart_45 : decode cX12_readPart 45 = .ok (.iconst 0, 1) ∧ 45 + 1 = 46 := ⟨by decide +kernel, rfl⟩
set_option maxRecDepth 20000 in
theorem dX12_readPart_46 : decode cX12_readPart 46 = .ok (.istore_n 2, 1) ∧ 46 + 1 = 47 := ⟨by decide +kernel, rfl⟩
set_option maxRecDepth 20000 in
theorem dX12_readPart_47 : decode cX12_readPart 47 = .ok (.aload_n 0, 1) ∧ 47 + 1 = 48 := ⟨by decide +kernel, rfl⟩
set_option maxRecDepth 20000 in
theorem dX12_readPart_48 : decode cX12_readPart 48 = .ok (.iload_n 1, 1) ∧ 48 + 1 = 49 := ⟨by decide +kernel, rfl⟩
set_option maxRecDepth 20000 in
theorem dX12_readPart_49 : decode cX12_readPart 49 = .ok (.iconst (-1), 1) ∧ 49 + 1 = 50 := ⟨by decide +kernel, rfl⟩
set_option maxRecDepth 20000 in
theorem dX12_readPart_50 : decode cX12_readPart 50 = .ok (.if_icmp .ne 7, 3) ∧ 50 + 3 = 53 ∧ ((50 : Nat) : Int) + (7) = ((57 : Nat) : Int) := ⟨by decide +kernel, rfl, by decide⟩
set_option maxRecDepth 20000 in
theorem dX12_readPart_53 : decode cX12_readPart 53 = .ok (.iload_n 2, 1) ∧ 53 + 1 = 54 := ⟨by decide +kernel, rfl⟩
set_option maxRecDepth 20000 in
theorem dX12_readPart_54 : decode cX12_readPart 54 = .ok (.ifCond .eq 7, 3) ∧ 54 + 3 = 57 ∧ ((54 : Nat) : Int) + (7) = ((61 : Nat) : Int) := ⟨by decide +kernel, rfl, by decide⟩
set_option maxRecDepth 20000 in
theorem dX12_readPart_57 : decode cX12_readPart 57 = .ok (.iconst 1, 1) ∧ 57 + 1 = 58 := ⟨by decide +kernel, rfl⟩
set_option maxRecDepth 20000 in
theorem dX12_readPart_58 : decode cX12_readPart 58 = .ok (.goto 4, 3) ∧ ((58 : Nat) : Int) + (4) = ((62 : Nat) : Int) := ⟨by decide +kernel, by decide⟩
set_option maxRecDepth 20000 in
theorem dX12_readPart_61 : decode cX12_readPart 61 = .ok (.iconst 0, 1) ∧ 61 + 1 = 62 := ⟨by decide +kernel, rfl⟩
set_option maxRecDepth 20000 in
theorem dX12_readPart_62 : decode cX12_readPart 62 = .ok (.iload_n 1, 1) ∧ 62 + 1 = 63 := ⟨by decide +kernel, rfl⟩
set_option maxRecDepth 20000 in
theorem dX12_readPart_63 : decode cX12_readPart 63 = .ok (.iconst (-1), 1) ∧ 63 + 1 = 64 := ⟨by decide +kernel, rfl⟩
set_option maxRecDepth 20000 in
theorem dX12_readPart_64 : decode cX12_readPart 64 = .ok (.if_icmp .ne 7, 3) ∧ 64 + 3 = 67 ∧ ((64 : Nat) : Int) + (7) = ((71 : Nat) : Int) := ⟨by decide +kernel, rfl, by decide⟩
set_option maxRecDepth 20000 in
theorem dX12_readPart_67 : decode cX12_readPart 67 = .ok (.iconst 0, 1) ∧ 67 + 1 = 68 := ⟨by decide +kernel, rfl⟩
set_option maxRecDepth 20000 in
theorem dX12_readPart_68 : decode cX12_readPart 68 = .ok (.goto 4, 3) ∧ ((68 : Nat) : Int) + (4) = ((72 : Nat) : Int) := ⟨by decide +kernel, by decide⟩
set_option maxRecDepth 20000 in
theorem dX12_readPart_71 : decode cX12_readPart 71 = .ok (.iload_n 1, 1) ∧ 71 + 1 = 72 := ⟨by decide +kernel, rfl⟩
set_option maxRecDepth 20000 in
theorem dX12_readPart_72 : decode cX12_readPart 72 = .ok (.iload_n 2, 1) ∧ 72 + 1 = 73 := ⟨by decide +kernel, rfl⟩
set_option maxRecDepth 20000 in
theorem dX12_readPart_73 : decode cX12_readPart 73 = .ok (.ifCond .eq 11, 3) ∧ 73 + 3 = 76 ∧ ((73 : Nat) : Int) + (11) = ((84 : Nat) : Int) := ⟨by decide +kernel, rfl, by decide⟩
set_option maxRecDepth 20000 in
theorem dX12_readPart_76 : decode cX12_readPart 76 = .ok (.aload_n 0, 1) ∧ 76 + 1 = 77 := ⟨by decide +kernel, rfl⟩
set_option maxRecDepth 20000 in
theorem dX12_readPart_77 : decode cX12_readPart 77 = .ok (.getfield 204, 3) ∧ 77 + 3 = 80 := ⟨by decide +kernel, rfl⟩
set_option maxRecDepth 20000 in
theorem dX12_readPart_80 : decode cX12_readPart 80 = .ok (.l2i, 1) ∧ 80 + 1 = 81 := ⟨by decide +kernel, rfl⟩
set_option maxRecDepth 20000 in
theorem dX12_readPart_81 : decode cX12_readPart 81 = .ok (.goto 4, 3) ∧ ((81 : Nat) : Int) + (4) = ((85 : Nat) : Int) := ⟨by decide +kernel, by decide⟩
set_option maxRecDepth 20000 in
theorem dX12_readPart_84 : decode cX12_readPart 84 = .ok (.iconst 0, 1) ∧ 84 + 1 = 85 := ⟨by decide +kernel, rfl⟩
set_option maxRecDepth 20000 in
theorem dX12_readPart_85 : decode cX12_readPart 85 = .ok (.invokevirtual 277, 3) ∧ 85 + 3 = 88 := ⟨by decide +kernel, rfl⟩
set_option maxRecDepth 20000 in
theorem dX12_readPart_88 : decode cX12_readPart 88 = .ok (.iconst 3, 1) ∧ 88 + 1 = 89 := ⟨by decide +kernel, rfl⟩
set_option maxRecDepth 20000 in
theorem dX12_readPart_89 : decode cX12_readPart 89 = .ok (.ireturn, 1) := by decide +kernel
set_option maxRecDepth 20000 in
theorem dX12_readPlain_0 : decode cX12_readPlain 0 = .ok (.aload_n 0, 1) ∧ 0 + 1 = 1 := ⟨by decide +kernel, rfl⟩
set_option maxRecDepth 20000 in
theorem dX12_readPlain_1 : decode cX12_readPlain 1 = .ok (.ldc2_w 281, 3) ∧ 1 + 3 = 4 := ⟨by decide +kernel, rfl⟩
set_option maxRecDepth 20000 in
theorem dX12_readPlain_4 : decode cX12_readPlain 4 = .ok (.invokevirtual 252, 3) ∧ 4 + 3 = 7 := ⟨by decide +kernel, rfl⟩
set_option maxRecDepth 20000 in
theorem dX12_readPlain_7 : decode cX12_readPlain 7 = .ok (.ifCond .eq 16, 3) ∧ 7 + 3 = 10 ∧ ((7 : Nat) : Int) + (16) = ((23 : Nat) : Int) := ⟨by decide +kernel, rfl, by decide⟩
set_option maxRecDepth 20000 in
theorem dX12_readPlain_10 : decode cX12_readPlain 10 = .ok (.aload_n 0, 1) ∧ 10 + 1 = 11 := ⟨by decide +kernel, rfl⟩
set_option maxRecDepth 20000 in
theorem dX12_readPlain_11 : decode cX12_readPlain 11 = .ok (.bipush 27, 2) ∧ 11 + 2 = 13 := ⟨by decide +kernel, rfl⟩
set_option maxRecDepth 20000 in
theorem dX12_readPlain_13 : decode cX12_readPlain 13 = .ok (.iconst 0, 1) ∧ 13 + 1 = 14 := ⟨by decide +kernel, rfl⟩
set_option maxRecDepth 20000 in
theorem dX12_readPlain_14 : decode cX12_readPlain 14 = .ok (.invokevirtual 259, 3) ∧ 14 + 3 = 17 := ⟨by decide +kernel, rfl⟩
set_option maxRecDepth 20000 in
theorem dX12_readPlain_17 : decode cX12_readPlain 17 = .ok (.aload_n 0, 1) ∧ 17 + 1 = 18 := ⟨by decide +kernel, rfl⟩
set_option maxRecDepth 20000 in
theorem dX12_readPlain_18 : decode cX12_readPlain 18 = .ok (.invokevirtual 198, 3) ∧ 18 + 3 = 21 := ⟨by decide +kernel, rfl⟩
set_option maxRecDepth 20000 in
theorem dX12_readPlain_21 : decode cX12_readPlain 21 = .ok (.iconst 0, 1) ∧ 21 + 1 = 22 := ⟨by decide +kernel, rfl⟩
set_option maxRecDepth 20000 in
theorem dX12_readPlain_22 : decode cX12_readPlain 22 = .ok (.ireturn, 1) := by decide +kernel
set_option maxRecDepth 20000 in
theorem dX12_readPlain_23 : decode cX12_readPlain 23 = .ok (.aload_n 0, 1) ∧ 23 + 1 = 24 := ⟨by decide +kernel, rfl⟩
set_option maxRecDepth 20000 in
theorem dX12_readPlain_24 : decode cX12_readPlain 24 = .ok (.bipush 40, 2) ∧ 24 + 2 = 26 := ⟨by decide +kernel, rfl⟩
set_option maxRecDepth 20000 in
theorem dX12_readPlain_26 : decode cX12_readPlain 26 = .ok (.invokevirtual 265, 3) ∧ 26 + 3 = 29 := ⟨by decide +kernel, rfl⟩
set_option maxRecDepth 20000 in
theorem dX12_readPlain_29 : decode cX12_readPlain 29 = .ok (.ifCond .eq 11, 3) ∧ 29 + 3 = 32 ∧ ((29 : Nat) : Int) + (11) = ((40 : Nat) : Int) := ⟨by decide +kernel, rfl, by decide⟩
set_option maxRecDepth 20000 in
theorem dX12_readPlain_32 : decode cX12_readPlain 32 = .ok (.aload_n 0, 1) ∧ 32 + 1 = 33 := ⟨by decide +kernel, rfl⟩
set_option maxRecDepth 20000 in
theorem dX12_readPlain_33 : decode cX12_readPlain 33 = .ok (.bipush 30, 2) ∧ 33 + 2 = 35 := ⟨by decide +kernel, rfl⟩
set_option maxRecDepth 20000 in
theorem dX12_readPlain_35 : decode cX12_readPlain 35 = .ok (.invokevirtual 268, 3) ∧ 35 + 3 = 38 := ⟨by decide +kernel, rfl⟩
set_option maxRecDepth 20000 in
theorem dX12_readPlain_38 : decode cX12_readPlain 38 = .ok (.iconst 0, 1) ∧ 38 + 1 = 39 := ⟨by decide +kernel, rfl⟩
set_option maxRecDepth 20000 in
theorem dX12_readPlain_39 : decode cX12_readPlain 39 = .ok (.ireturn, 1) := by decide +kernel
set_option maxRecDepth 20000 in
theorem dX12_readPlain_40 : decode cX12_readPlain 40 = .ok (.aload_n 0, 1) ∧ 40 + 1 = 41 := ⟨by decide +kernel, rfl⟩
set_option maxRecDepth 20000 in
theorem dX12_readPlain_41 : decode cX12_readPlain 41 = .ok (.invokevirtual 283, 3) ∧ 41 + 3 = 44 := ⟨by decide +kernel, rfl⟩
set_option maxRecDepth 20000 in
theorem dX12_readPlain_44 : decode cX12_readPlain 44 = .ok (.ireturn, 1) := by decide +kernel
set_option maxRecDepth 20000 in
theorem dX12_behindSum_0 : decode cX12_behindSum 0 = .ok (.aload_n 0, 1) ∧ 0 + 1 = 1 := ⟨by decide +kernel, rfl⟩
set_option maxRecDepth 20000 in
theorem dX12_behindSum_1 : decode cX12_behindSum 1 = .ok (.bipush 43, 2) ∧ 1 + 2 = 3 := ⟨by decide +kernel, rfl⟩
set_option maxRecDepth 20000 in
theorem dX12_behindSum_3 : decode cX12_behindSum 3 = .ok (.invokevirtual 265, 3) ∧ 3 + 3 = 6 := ⟨by decide +kernel, rfl⟩
set_option maxRecDepth 20000 in
theorem dX12_behindSum_6 : decode cX12_behindSum 6 = .ok (.ifCond .eq 8, 3) ∧ 6 + 3 = 9 ∧ ((6 : Nat) : Int) + (8) = ((14 : Nat) : Int) := ⟨by decide +kernel, rfl, by decide⟩
set_option maxRecDepth 20000 in
theorem dX12_behindSum_9 : decode cX12_behindSum 9 = .ok (.bipush 20, 2) ∧ 9 + 2 = 11 := ⟨by decide +kernel, rfl⟩
set_option maxRecDepth 20000 in
theorem dX12_behindSum_11 : decode cX12_behindSum 11 = .ok (.goto 46, 3) ∧ ((11 : Nat) : Int) + (46) = ((57 : Nat) : Int) := ⟨by decide +kernel, by decide⟩
set_option maxRecDepth 20000 in
theorem dX12_behindSum_14 : decode cX12_behindSum 14 = .ok (.aload_n 0, 1) ∧ 14 + 1 = 15 := ⟨by decide +kernel, rfl⟩
set_option maxRecDepth 20000 in
theorem dX12_behindSum_15 : decode cX12_behindSum 15 = .ok (.bipush 45, 2) ∧ 15 + 2 = 17 := ⟨by decide +kernel, rfl⟩
set_option maxRecDepth 20000 in
theorem dX12_behindSum_17 : decode cX12_behindSum 17 = .ok (.invokevirtual 265, 3) ∧ 17 + 3 = 20 := ⟨by decide +kernel, rfl⟩
set_option maxRecDepth 20000 in
theorem dX12_behindSum_20 : decode cX12_behindSum 20 = .ok (.ifCond .eq 8, 3) ∧ 20 + 3 = 23 ∧ ((20 : Nat) : Int) + (8) = ((28 : Nat) : Int) := ⟨by decide +kernel, rfl, by decide⟩
set_option maxRecDepth 20000 in
theorem dX12_behindSum_23 : decode cX12_behindSum 23 = .ok (.bipush 21, 2) ∧ 23 + 2 = 25 := ⟨by decide +kernel, rfl⟩
set_option maxRecDepth 20000 in
theorem dX12_behindSum_25 : decode cX12_behindSum 25 = .ok (.goto 32, 3) ∧ ((25 : Nat) : Int) + (32) = ((57 : Nat) : Int) := ⟨by decide +kernel, by decide⟩
set_option maxRecDepth 20000 in
theorem dX12_behindSum_28 : decode cX12_behindSum 28 = .ok (.aload_n 0, 1) ∧ 28 + 1 = 29 := ⟨by decide +kernel, rfl⟩
set_option maxRecDepth 20000 in
theorem dX12_behindSum_29 : decode cX12_behindSum 29 = .ok (.bipush 42, 2) ∧ 29 + 2 = 31 := ⟨by decide +kernel, rfl⟩
set_option maxRecDepth 20000 in
theorem dX12_behindSum_31 : decode cX12_behindSum 31 = .ok (.invokevirtual 265, 3) ∧ 31 + 3 = 34 := ⟨by decide +kernel, rfl⟩
set_option maxRecDepth 20000 in
theorem dX12_behindSum_34 : decode cX12_behindSum 34 = .ok (.ifCond .eq 8, 3) ∧ 34 + 3 = 37 ∧ ((34 : Nat) : Int) + (8) = ((42 : Nat) : Int) := ⟨by decide +kernel, rfl, by decide⟩
set_option maxRecDepth 20000 in
theorem dX12_behindSum_37 : decode cX12_behindSum 37 = .ok (.bipush 22, 2) ∧ 37 + 2 = 39 := ⟨by decide +kernel, rfl⟩
set_option maxRecDepth 20000 in
theorem dX12_behindSum_39 : decode cX12_behindSum 39 = .ok (.goto 18, 3) ∧ ((39 : Nat) : Int) + (18) = ((57 : Nat) : Int) := ⟨by decide +kernel, by decide⟩
set_option maxRecDepth 20000 in
theorem dX12_behindSum_42 : decode cX12_behindSum 42 = .ok (.aload_n 0, 1) ∧ 42 + 1 = 43 := ⟨by decide +kernel, rfl⟩
set_option maxRecDepth 20000 in
theorem dX12_behindSum_43 : decode cX12_behindSum 43 = .ok (.bipush 47, 2) ∧ 43 + 2 = 45 := ⟨by decide +kernel, rfl⟩
set_option maxRecDepth 20000 in
theorem dX12_behindSum_45 : decode cX12_behindSum 45 = .ok (.invokevirtual 265, 3) ∧ 45 + 3 = 48 := ⟨by decide +kernel, rfl⟩
set_option maxRecDepth 20000 in
theorem dX12_behindSum_48 : decode cX12_behindSum 48 = .ok (.ifCond .eq 8, 3) ∧ 48 + 3 = 51 ∧ ((48 : Nat) : Int) + (8) = ((56 : Nat) : Int) := ⟨by decide +kernel, rfl, by decide⟩
set_option maxRecDepth 20000 in
theorem dX12_behindSum_51 : decode cX12_behindSum 51 = .ok (.bipush 23, 2) ∧ 51 + 2 = 53 := ⟨by decide +kernel, rfl⟩
set_option maxRecDepth 20000 in
theorem dX12_behindSum_53 : decode cX12_behindSum 53 = .ok (.goto 4, 3) ∧ ((53 : Nat) : Int) + (4) = ((57 : Nat) : Int) := ⟨by decide +kernel, by decide⟩
set_option maxRecDepth 20000 in
theorem dX12_behindSum_56 : decode cX12_behindSum 56 = .ok (.iconst (-1), 1) ∧ 56 + 1 = 57 := ⟨by decide +kernel, rfl⟩
set_option maxRecDepth 20000 in
theorem dX12_behindSum_57 : decode cX12_behindSum 57 = .ok (.istore_n 2, 1) ∧ 57 + 1 = 58 := ⟨by decide +kernel, rfl⟩
set_option maxRecDepth 20000 in
theorem dX12_behindSum_58 : decode cX12_behindSum 58 = .ok (.iload_n 2, 1) ∧ 58 + 1 = 59 := ⟨by decide +kernel, rfl⟩
set_option maxRecDepth 20000 in
theorem dX12_behindSum_59 : decode cX12_behindSum 59 = .ok (.iconst (-1), 1) ∧ 59 + 1 = 60 := ⟨by decide +kernel, rfl⟩
set_option maxRecDepth 20000 in
theorem dX12_behindSum_60 : decode cX12_behindSum 60 = .ok (.if_icmp .eq 23, 3) ∧ 60 + 3 = 63 ∧ ((60 : Nat) : Int) + (23) = ((83 : Nat) : Int) := ⟨by decide +kernel, rfl, by decide⟩
set_option maxRecDepth 20000 in
theorem dX12_behindSum_63 : decode cX12_behindSum 63 = .ok (.aload_n 0, 1) ∧ 63 + 1 = 64 := ⟨by decide +kernel, rfl⟩
set_option maxRecDepth 20000 in
theorem dX12_behindSum_64 : decode cX12_behindSum 64 = .ok (.iload_n 2, 1) ∧ 64 + 1 = 65 := ⟨by decide +kernel, rfl⟩
set_option maxRecDepth 20000 in
theorem dX12_behindSum_65 : decode cX12_behindSum 65 = .ok (.invokestatic 239, 3) ∧ 65 + 3 = 68 := ⟨by decide +kernel, rfl⟩
set_option maxRecDepth 20000 in
theorem dX12_behindSum_68 : decode cX12_behindSum 68 = .ok (.invokevirtual 286, 3) ∧ 68 + 3 = 71 := ⟨by decide +kernel, rfl⟩
set_option maxRecDepth 20000 in
theorem dX12_behindSum_71 : decode cX12_behindSum 71 = .ok (.aload_n 0, 1) ∧ 71 + 1 = 72 := ⟨by decide +kernel, rfl⟩
set_option maxRecDepth 20000 in
theorem dX12_behindSum_72 : decode cX12_behindSum 72 = .ok (.iload_n 2, 1) ∧ 72 + 1 = 73 := ⟨by decide +kernel, rfl⟩
set_option maxRecDepth 20000 in
theorem dX12_behindSum_73 : decode cX12_behindSum 73 = .ok (.iconst 0, 1) ∧ 73 + 1 = 74 := ⟨by decide +kernel, rfl⟩
set_option maxRecDepth 20000 in
theorem dX12_behindSum_74 : decode cX12_behindSum 74 = .ok (.invokevirtual 259, 3) ∧ 74 + 3 = 77 := ⟨by decide +kernel, rfl⟩
set_option maxRecDepth 20000 in
theorem dX12_behindSum_77 : decode cX12_behindSum 77 = .ok (.aload_n 0, 1) ∧ 77 + 1 = 78 := ⟨by decide +kernel, rfl⟩
set_option maxRecDepth 20000 in
theorem dX12_behindSum_78 : decode cX12_behindSum 78 = .ok (.invokevirtual 198, 3) ∧ 78 + 3 = 81 := ⟨by decide +kernel, rfl⟩
set_option maxRecDepth 20000 in
theorem dX12_behindSum_81 : decode cX12_behindSum 81 = .ok (.iconst 1, 1) ∧ 81 + 1 = 82 := ⟨by decide +kernel, rfl⟩
set_option maxRecDepth 20000 in
theorem dX12_behindSum_82 : decode cX12_behindSum 82 = .ok (.ireturn, 1) := by decide +kernel
set_option maxRecDepth 20000 in
theorem dX12_behindSum_83 : decode cX12_behindSum 83 = .ok (.aload_n 0, 1) ∧ 83 + 1 = 84 := ⟨by decide +kernel, rfl⟩
set_option maxRecDepth 20000 in
theorem dX12_behindSum_84 : decode cX12_behindSum 84 = .ok (.invokevirtual 289, 3) ∧ 84 + 3 = 87 := ⟨by decide +kernel, rfl⟩
set_option maxRecDepth 20000 in
theorem dX12_behindSum_87 : decode cX12_behindSum 87 = .ok (.istore_n 3, 1) ∧ 87 + 1 = 88 := ⟨by decide +kernel, rfl⟩
set_option maxRecDepth 20000 in
theorem dX12_behindSum_88 : decode cX12_behindSum 88 = .ok (.iload_n 3, 1) ∧ 88 + 1 = 89 := ⟨by decide +kernel, rfl⟩
set_option maxRecDepth 20000 in
theorem dX12_behindSum_89 : decode cX12_behindSum 89 = .ok (.bipush 31, 2) ∧ 89 + 2 = 91 := ⟨by decide +kernel, rfl⟩
set_option maxRecDepth 20000 in
theorem dX12_behindSum_91 : decode cX12_behindSum 91 = .ok (.if_icmp .ne 47, 3) ∧ 91 + 3 = 94 ∧ ((91 : Nat) : Int) + (47) = ((138 : Nat) : Int) := ⟨by decide +kernel, rfl, by decide⟩
set_option maxRecDepth 20000 in
theorem dX12_behindSum_94 : decode cX12_behindSum 94 = .ok (.aload_n 0, 1) ∧ 94 + 1 = 95 := ⟨by decide +kernel, rfl⟩
set_option maxRecDepth 20000 in
theorem dX12_behindSum_95 : decode cX12_behindSum 95 = .ok (.aload_n 0, 1) ∧ 95 + 1 = 96 := ⟨by decide +kernel, rfl⟩
set_option maxRecDepth 20000 in
theorem dX12_behindSum_96 : decode cX12_behindSum 96 = .ok (.bipush 93, 2) ∧ 96 + 2 = 98 := ⟨by decide +kernel, rfl⟩
set_option maxRecDepth 20000 in
theorem dX12_behindSum_98 : decode cX12_behindSum 98 = .ok (.invokevirtual 265, 3) ∧ 98 + 3 = 101 := ⟨by decide +kernel, rfl⟩
set_option maxRecDepth 20000 in
theorem dX12_behindSum_101 : decode cX12_behindSum 101 = .ok (.invokevirtual 229, 3) ∧ 101 + 3 = 104 := ⟨by decide +kernel, rfl⟩
set_option maxRecDepth 20000 in
theorem dX12_behindSum_104 : decode cX12_behindSum 104 = .ok (.aload_n 0, 1) ∧ 104 + 1 = 105 := ⟨by decide +kernel, rfl⟩
set_option maxRecDepth 20000 in
theorem dX12_behindSum_105 : decode cX12_behindSum 105 = .ok (.getfield 194, 3) ∧ 105 + 3 = 108 := ⟨by decide +kernel, rfl⟩
set_option maxRecDepth 20000 in
theorem dX12_behindSum_108 : decode cX12_behindSum 108 = .ok (.ifCond .ne 28, 3) ∧ 108 + 3 = 111 ∧ ((108 : Nat) : Int) + (28) = ((136 : Nat) : Int) := ⟨by decide +kernel, rfl, by decide⟩
set_option maxRecDepth 20000 in
theorem dX12_behindSum_111 : decode cX12_behindSum 111 = .ok (.aload_n 0, 1) ∧ 111 + 1 = 112 := ⟨by decide +kernel, rfl⟩
set_option maxRecDepth 20000 in
theorem dX12_behindSum_112 : decode cX12_behindSum 112 = .ok (.iconst 5, 1) ∧ 112 + 1 = 113 := ⟨by decide +kernel, rfl⟩
set_option maxRecDepth 20000 in
theorem dX12_behindSum_113 : decode cX12_behindSum 113 = .ok (.invokevirtual 286, 3) ∧ 113 + 3 = 116 := ⟨by decide +kernel, rfl⟩
set_option maxRecDepth 20000 in
theorem dX12_behindSum_116 : decode cX12_behindSum 116 = .ok (.aload_n 0, 1) ∧ 116 + 1 = 117 := ⟨by decide +kernel, rfl⟩
set_option maxRecDepth 20000 in
theorem dX12_behindSum_117 : decode cX12_behindSum 117 = .ok (.dup, 1) ∧ 117 + 1 = 118 := ⟨by decide +kernel, rfl⟩
set_option maxRecDepth 20000 in
theorem dX12_behindSum_118 : decode cX12_behindSum 118 = .ok (.getfield 236, 3) ∧ 118 + 3 = 121 := ⟨by decide +kernel, rfl⟩
set_option maxRecDepth 20000 in
theorem dX12_behindSum_121 : decode cX12_behindSum 121 = .ok (.iconst 1, 1) ∧ 121 + 1 = 122 := ⟨by decide +kernel, rfl⟩
set_option maxRecDepth 20000 in
theorem dX12_behindSum_122 : decode cX12_behindSum 122 = .ok (.isub, 1) ∧ 122 + 1 = 123 := ⟨by decide +kernel, rfl⟩
set_option maxRecDepth 20000 in
theorem dX12_behindSum_123 : decode cX12_behindSum 123 = .ok (.putfield 236, 3) ∧ 123 + 3 = 126 := ⟨by decide +kernel, rfl⟩
set_option maxRecDepth 20000 in
theorem dX12_behindSum_126 : decode cX12_behindSum 126 = .ok (.aload_n 0, 1) ∧ 126 + 1 = 127 := ⟨by decide +kernel, rfl⟩
set_option maxRecDepth 20000 in
theorem dX12_behindSum_127 : decode cX12_behindSum 127 = .ok (.dup, 1) ∧ 127 + 1 = 128 := ⟨by decide +kernel, rfl⟩
set_option maxRecDepth 20000 in
theorem dX12_behindSum_128 : decode cX12_behindSum 128 = .ok (.getfield 256, 3) ∧ 128 + 3 = 131 := ⟨by decide +kernel, rfl⟩
set_option maxRecDepth 20000 in
theorem dX12_behindSum_131 : decode cX12_behindSum 131 = .ok (.iconst 1, 1) ∧ 131 + 1 = 132 := ⟨by decide +kernel, rfl⟩
set_option maxRecDepth 20000 in
theorem dX12_behindSum_132 : decode cX12_behindSum 132 = .ok (.isub, 1) ∧ 132 + 1 = 133 := ⟨by decide +kernel, rfl⟩
set_option maxRecDepth 20000 in
theorem dX12_behindSum_133 : decode cX12_behindSum 133 = .ok (.putfield 256, 3) ∧ 133 + 3 = 136 := ⟨by decide +kernel, rfl⟩
set_option maxRecDepth 20000 in
theorem dX12_behindSum_136 : decode cX12_behindSum 136 = .ok (.iconst 3, 1) ∧ 136 + 1 = 137 := ⟨by decide +kernel, rfl⟩
set_option maxRecDepth 20000 in
theorem dX12_behindSum_137 : decode cX12_behindSum 137 = .ok (.ireturn, 1) := by decide +kernel
set_option maxRecDepth 20000 in
theorem dX12_behindSum_138 : decode cX12_behindSum 138 = .ok (.iload_n 3, 1) ∧ 138 + 1 = 139 := ⟨by decide +kernel, rfl⟩
set_option maxRecDepth 20000 in
theorem dX12_behindSum_139 : decode cX12_behindSum 139 = .ok (.iconst (-1), 1) ∧ 139 + 1 = 140 := ⟨by decide +kernel, rfl⟩
set_option maxRecDepth 20000 in
theorem dX12_behindSum_140 : decode cX12_behindSum 140 = .ok (.if_icmp .ne 9, 3) ∧ 140 + 3 = 143 ∧ ((140 : Nat) : Int) + (9) = ((149 : Nat) : Int) := ⟨by decide +kernel, rfl, by decide⟩
set_option maxRecDepth 20000 in
theorem dX12_behindSum_143 : decode cX12_behindSum 143 = .ok (.iload_n 1, 1) ∧ 143 + 1 = 144 := ⟨by decide +kernel, rfl⟩
set_option maxRecDepth 20000 in
theorem dX12_behindSum_144 : decode cX12_behindSum 144 = .ok (.ifCond .ne 5, 3) ∧ 144 + 3 = 147 ∧ ((144 : Nat) : Int) + (5) = ((149 : Nat) : Int) := ⟨by decide +kernel, rfl, by decide⟩
set_option maxRecDepth 20000 in
theorem dX12_behindSum_147 : decode cX12_behindSum 147 = .ok (.iconst 4, 1) ∧ 147 + 1 = 148 := ⟨by decide +kernel, rfl⟩
set_option maxRecDepth 20000 in
theorem dX12_behindSum_148 : decode cX12_behindSum 148 = .ok (.ireturn, 1) := by decide +kernel
set_option maxRecDepth 20000 in
theorem dX12_behindSum_149 : decode cX12_behindSum 149 = .ok (.aload_n 0, 1) ∧ 149 + 1 = 150 := ⟨by decide +kernel, rfl⟩
set_option maxRecDepth 20000 in
theorem dX12_behindSum_150 : decode cX12_behindSum 150 = .ok (.invokevirtual 292, 3) ∧ 150 + 3 = 153 := ⟨by decide +kernel, rfl⟩
set_option maxRecDepth 20000 in
theorem dX12_behindSum_153 : decode cX12_behindSum 153 = .ok (.ifCond .eq 5, 3) ∧ 153 + 3 = 156 ∧ ((153 : Nat) : Int) + (5) = ((158 : Nat) : Int) := ⟨by decide +kernel, rfl, by decide⟩
set_option maxRecDepth 20000 in
theorem dX12_behindSum_156 : decode cX12_behindSum 156 = .ok (.iconst 2, 1) ∧ 156 + 1 = 157 := ⟨by decide +kernel, rfl⟩
set_option maxRecDepth 20000 in
theorem dX12_behindSum_157 : decode cX12_behindSum 157 = .ok (.ireturn, 1) := by decide +kernel
set_option maxRecDepth 20000 in
theorem dX12_behindSum_158 : decode cX12_behindSum 158 = .ok (.aload_n 0, 1) ∧ 158 + 1 = 159 := ⟨by decide +kernel, rfl⟩
set_option maxRecDepth 20000 in
theorem dX12_behindSum_159 : decode cX12_behindSum 159 = .ok (.bipush 60, 2) ∧ 159 + 2 = 161 := ⟨by decide +kernel, rfl⟩
set_option maxRecDepth 20000 in
theorem dX12_behindSum_161 : decode cX12_behindSum 161 = .ok (.invokevirtual 265, 3) ∧ 161 + 3 = 164 := ⟨by decide +kernel, rfl⟩
set_option maxRecDepth 20000 in
theorem dX12_behindSum_164 : decode cX12_behindSum 164 = .ok (.ifCond .eq 8, 3) ∧ 164 + 3 = 167 ∧ ((164 : Nat) : Int) + (8) = ((172 : Nat) : Int) := ⟨by decide +kernel, rfl, by decide⟩
set_option maxRecDepth 20000 in
theorem dX12_behindSum_167 : decode cX12_behindSum 167 = .ok (.bipush 24, 2) ∧ 167 + 2 = 169 := ⟨by decide +kernel, rfl⟩
set_option maxRecDepth 20000 in
theorem dX12_behindSum_169 : decode cX12_behindSum 169 = .ok (.goto 19, 3) ∧ ((169 : Nat) : Int) + (19) = ((188 : Nat) : Int) := ⟨by decide +kernel, by decide⟩
set_option maxRecDepth 20000 in
theorem dX12_behindSum_172 : decode cX12_behindSum 172 = .ok (.aload_n 0, 1) ∧ 172 + 1 = 173 := ⟨by decide +kernel, rfl⟩
set_option maxRecDepth 20000 in
theorem dX12_behindSum_173 : decode cX12_behindSum 173 = .ok (.bipush 62, 2) ∧ 173 + 2 = 175 := ⟨by decide +kernel, rfl⟩
set_option maxRecDepth 20000 in
theorem dX12_behindSum_175 : decode cX12_behindSum 175 = .ok (.invokevirtual 265, 3) ∧ 175 + 3 = 178 := ⟨by decide +kernel, rfl⟩
set_option maxRecDepth 20000 in
theorem dX12_behindSum_178 : decode cX12_behindSum 178 = .ok (.ifCond .eq 8, 3) ∧ 178 + 3 = 181 ∧ ((178 : Nat) : Int) + (8) = ((186 : Nat) : Int) := ⟨by decide +kernel, rfl, by decide⟩
set_option maxRecDepth 20000 in
theorem dX12_behindSum_181 : decode cX12_behindSum 181 = .ok (.bipush 25, 2) ∧ 181 + 2 = 183 := ⟨by decide +kernel, rfl⟩
set_option maxRecDepth 20000 in
theorem dX12_behindSum_183 : decode cX12_behindSum 183 = .ok (.goto 5, 3) ∧ ((183 : Nat) : Int) + (5) = ((188 : Nat) : Int) := ⟨by decide +kernel, by decide⟩
set_option maxRecDepth 20000 in
theorem dX12_behindSum_186 : decode cX12_behindSum 186 = .ok (.bipush 26, 2) ∧ 186 + 2 = 188 := ⟨by decide +kernel, rfl⟩
set_option maxRecDepth 20000 in
theorem dX12_behindSum_188 : decode cX12_behindSum 188 = .ok (.istore_n 2, 1) ∧ 188 + 1 = 189 := ⟨by decide +kernel, rfl⟩
set_option maxRecDepth 20000 in
theorem dX12_behindSum_189 : decode cX12_behindSum 189 = .ok (.aload_n 0, 1) ∧ 189 + 1 = 190 := ⟨by decide +kernel, rfl⟩
set_option maxRecDepth 20000 in
theorem dX12_behindSum_190 : decode cX12_behindSum 190 = .ok (.iload_n 2, 1) ∧ 190 + 1 = 191 := ⟨by decide +kernel, rfl⟩
set_option maxRecDepth 20000 in
theorem dX12_behindSum_191 : decode cX12_behindSum 191 = .ok (.bipush 26, 2) ∧ 191 + 2 = 193 := ⟨by decide +kernel, rfl⟩
set_option maxRecDepth 20000 in
theorem dX12_behindSum_193 : decode cX12_behindSum 193 = .ok (.if_icmp .ne 12, 3) ∧ 193 + 3 = 196 ∧ ((193 : Nat) : Int) + (12) = ((205 : Nat) : Int) := ⟨by decide +kernel, rfl, by decide⟩
set_option maxRecDepth 20000 in
theorem dX12_behindSum_196 : decode cX12_behindSum 196 = .ok (.aload_n 0, 1) ∧ 196 + 1 = 197 := ⟨by decide +kernel, rfl⟩
set_option maxRecDepth 20000 in
theorem dX12_behindSum_197 : decode cX12_behindSum 197 = .ok (.bipush 61, 2) ∧ 197 + 2 = 199 := ⟨by decide +kernel, rfl⟩
set_option maxRecDepth 20000 in
theorem dX12_behindSum_199 : decode cX12_behindSum 199 = .ok (.invokevirtual 265, 3) ∧ 199 + 3 = 202 := ⟨by decide +kernel, rfl⟩
set_option maxRecDepth 20000 in
theorem dX12_behindSum_202 : decode cX12_behindSum 202 = .ok (.ifCond .eq 7, 3) ∧ 202 + 3 = 205 ∧ ((202 : Nat) : Int) + (7) = ((209 : Nat) : Int) := ⟨by decide +kernel, rfl, by decide⟩
set_option maxRecDepth 20000 in
theorem dX12_behindSum_205 : decode cX12_behindSum 205 = .ok (.iconst 1, 1) ∧ 205 + 1 = 206 := ⟨by decide +kernel, rfl⟩
set_option maxRecDepth 20000 in
theorem dX12_behindSum_206 : decode cX12_behindSum 206 = .ok (.goto 4, 3) ∧ ((206 : Nat) : Int) + (4) = ((210 : Nat) : Int) := ⟨by decide +kernel, by decide⟩
set_option maxRecDepth 20000 in
theorem dX12_behindSum_209 : decode cX12_behindSum 209 = .ok (.iconst 0, 1) ∧ 209 + 1 = 210 := ⟨by decide +kernel, rfl⟩
set_option maxRecDepth 20000 in
theorem dX12_behindSum_210 : decode cX12_behindSum 210 = .ok (.invokevirtual 229, 3) ∧ 210 + 3 = 213 := ⟨by decide +kernel, rfl⟩
set_option maxRecDepth 20000 in
theorem dX12_behindSum_213 : decode cX12_behindSum 213 = .ok (.aload_n 0, 1) ∧ 213 + 1 = 214 := ⟨by decide +kernel, rfl⟩
set_option maxRecDepth 20000 in
theorem dX12_behindSum_214 : decode cX12_behindSum 214 = .ok (.getfield 194, 3) ∧ 214 + 3 = 217 := ⟨by decide +kernel, rfl⟩
set_option maxRecDepth 20000 in
theorem dX12_behindSum_217 : decode cX12_behindSum 217 = .ok (.ifCond .ne 14, 3) ∧ 217 + 3 = 220 ∧ ((217 : Nat) : Int) + (14) = ((231 : Nat) : Int) := ⟨by decide +kernel, rfl, by decide⟩
set_option maxRecDepth 20000 in
theorem dX12_behindSum_220 : decode cX12_behindSum 220 = .ok (.aload_n 0, 1) ∧ 220 + 1 = 221 := ⟨by decide +kernel, rfl⟩
set_option maxRecDepth 20000 in
theorem dX12_behindSum_221 : decode cX12_behindSum 221 = .ok (.iconst 5, 1) ∧ 221 + 1 = 222 := ⟨by decide +kernel, rfl⟩
set_option maxRecDepth 20000 in
theorem dX12_behindSum_222 : decode cX12_behindSum 222 = .ok (.invokevirtual 286, 3) ∧ 222 + 3 = 225 := ⟨by decide +kernel, rfl⟩
set_option maxRecDepth 20000 in
theorem dX12_behindSum_225 : decode cX12_behindSum 225 = .ok (.aload_n 0, 1) ∧ 225 + 1 = 226 := ⟨by decide +kernel, rfl⟩
set_option maxRecDepth 20000 in
theorem dX12_behindSum_226 : decode cX12_behindSum 226 = .ok (.iload_n 2, 1) ∧ 226 + 1 = 227 := ⟨by decide +kernel, rfl⟩
set_option maxRecDepth 20000 in
theorem dX12_behindSum_227 : decode cX12_behindSum 227 = .ok (.iconst 0, 1) ∧ 227 + 1 = 228 := ⟨by decide +kernel, rfl⟩
set_option maxRecDepth 20000 in
theorem dX12_behindSum_228 : decode cX12_behindSum 228 = .ok (.invokevirtual 259, 3) ∧ 228 + 3 = 231 := ⟨by decide +kernel, rfl⟩
set_option maxRecDepth 20000 in
theorem dX12_behindSum_231 : decode cX12_behindSum 231 = .ok (.iconst 1, 1) ∧ 231 + 1 = 232 := ⟨by decide +kernel, rfl⟩
set_option maxRecDepth 20000 in
theorem dX12_behindSum_232 : decode cX12_behindSum 232 = .ok (.ireturn, 1) := by decide +kernel
set_option maxRecDepth 20000 in
theorem dX12_behindTest_0 : decode cX12_behindTest 0 = .ok (.aload_n 0, 1) ∧ 0 + 1 = 1 := ⟨by decide +kernel, rfl⟩
set_option maxRecDepth 20000 in
theorem dX12_behindTest_1 : decode cX12_behindTest 1 = .ok (.ldc2_w 296, 3) ∧ 1 + 3 = 4 := ⟨by decide +kernel, rfl⟩
set_option maxRecDepth 20000 in
theorem dX12_behindTest_4 : decode cX12_behindTest 4 = .ok (.invokevirtual 252, 3) ∧ 4 + 3 = 7 := ⟨by decide +kernel, rfl⟩
set_option maxRecDepth 20000 in
theorem dX12_behindTest_7 : decode cX12_behindTest 7 = .ok (.istore_n 1, 1) ∧ 7 + 1 = 8 := ⟨by decide +kernel, rfl⟩
set_option maxRecDepth 20000 in
theorem dX12_behindTest_8 : decode cX12_behindTest 8 = .ok (.iload_n 1, 1) ∧ 8 + 1 = 9 := ⟨by decide +kernel, rfl⟩
set_option maxRecDepth 20000 in
theorem dX12_behindTest_9 : decode cX12_behindTest 9 = .ok (.ifCond .ne 13, 3) ∧ 9 + 3 = 12 ∧ ((9 : Nat) : Int) + (13) = ((22 : Nat) : Int) := ⟨by decide +kernel, rfl, by decide⟩
set_option maxRecDepth 20000 in
theorem dX12_behindTest_12 : decode cX12_behindTest 12 = .ok (.aload_n 0, 1) ∧ 12 + 1 = 13 := ⟨by decide +kernel, rfl⟩
set_option maxRecDepth 20000 in
theorem dX12_behindTest_13 : decode cX12_behindTest 13 = .ok (.ldc2_w 298, 3) ∧ 13 + 3 = 16 := ⟨by decide +kernel, rfl⟩
set_option maxRecDepth 20000 in
theorem dX12_behindTest_16 : decode cX12_behindTest 16 = .ok (.invokevirtual 252, 3) ∧ 16 + 3 = 19 := ⟨by decide +kernel, rfl⟩
set_option maxRecDepth 20000 in
theorem dX12_behindTest_19 : decode cX12_behindTest 19 = .ok (.ifCond .eq 57, 3) ∧ 19 + 3 = 22 ∧ ((19 : Nat) : Int) + (57) = ((76 : Nat) : Int) := ⟨by decide +kernel, rfl, by decide⟩
set_option maxRecDepth 20000 in
theorem dX12_behindTest_22 : decode cX12_behindTest 22 = .ok (.aload_n 0, 1) ∧ 22 + 1 = 23 := ⟨by decide +kernel, rfl⟩
set_option maxRecDepth 20000 in
theorem dX12_behindTest_23 : decode cX12_behindTest 23 = .ok (.iload_n 1, 1) ∧ 23 + 1 = 24 := ⟨by decide +kernel, rfl⟩
set_option maxRecDepth 20000 in
theorem dX12_behindTest_24 : decode cX12_behindTest 24 = .ok (.ifCond .eq 7, 3) ∧ 24 + 3 = 27 ∧ ((24 : Nat) : Int) + (7) = ((31 : Nat) : Int) := ⟨by decide +kernel, rfl, by decide⟩
set_option maxRecDepth 20000 in
theorem dX12_behindTest_27 : decode cX12_behindTest 27 = .ok (.iconst 2, 1) ∧ 27 + 1 = 28 := ⟨by decide +kernel, rfl⟩
set_option maxRecDepth 20000 in
theorem dX12_behindTest_28 : decode cX12_behindTest 28 = .ok (.goto 4, 3) ∧ ((28 : Nat) : Int) + (4) = ((32 : Nat) : Int) := ⟨by decide +kernel, by decide⟩
set_option maxRecDepth 20000 in
theorem dX12_behindTest_31 : decode cX12_behindTest 31 = .ok (.iconst 1, 1) ∧ 31 + 1 = 32 := ⟨by decide +kernel, rfl⟩
set_option maxRecDepth 20000 in
theorem dX12_behindTest_32 : decode cX12_behindTest 32 = .ok (.invokevirtual 286, 3) ∧ 32 + 3 = 35 := ⟨by decide +kernel, rfl⟩
set_option maxRecDepth 20000 in
theorem dX12_behindTest_35 : decode cX12_behindTest 35 = .ok (.aload_n 0, 1) ∧ 35 + 1 = 36 := ⟨by decide +kernel, rfl⟩
set_option maxRecDepth 20000 in
theorem dX12_behindTest_36 : decode cX12_behindTest 36 = .ok (.iload_n 1, 1) ∧ 36 + 1 = 37 := ⟨by decide +kernel, rfl⟩
set_option maxRecDepth 20000 in
theorem dX12_behindTest_37 : decode cX12_behindTest 37 = .ok (.ifCond .eq 8, 3) ∧ 37 + 3 = 40 ∧ ((37 : Nat) : Int) + (8) = ((45 : Nat) : Int) := ⟨by decide +kernel, rfl, by decide⟩
set_option maxRecDepth 20000 in
theorem dX12_behindTest_40 : decode cX12_behindTest 40 = .ok (.bipush 28, 2) ∧ 40 + 2 = 42 := ⟨by decide +kernel, rfl⟩
set_option maxRecDepth 20000 in
theorem dX12_behindTest_42 : decode cX12_behindTest 42 = .ok (.goto 5, 3) ∧ ((42 : Nat) : Int) + (5) = ((47 : Nat) : Int) := ⟨by decide +kernel, by decide⟩
set_option maxRecDepth 20000 in
theorem dX12_behindTest_45 : decode cX12_behindTest 45 = .ok (.bipush 29, 2) ∧ 45 + 2 = 47 := ⟨by decide +kernel, rfl⟩
set_option maxRecDepth 20000 in
theorem dX12_behindTest_47 : decode cX12_behindTest 47 = .ok (.aload_n 0, 1) ∧ 47 + 1 = 48 := ⟨by decide +kernel, rfl⟩
set_option maxRecDepth 20000 in
theorem dX12_behindTest_48 : decode cX12_behindTest 48 = .ok (.getfield 233, 3) ∧ 48 + 3 = 51 := ⟨by decide +kernel, rfl⟩
set_option maxRecDepth 20000 in
theorem dX12_behindTest_51 : decode cX12_behindTest 51 = .ok (.invokevirtual 259, 3) ∧ 51 + 3 = 54 := ⟨by decide +kernel, rfl⟩
set_option maxRecDepth 20000 in
theorem dX12_behindTest_54 : decode cX12_behindTest 54 = .ok (.aload_n 0, 1) ∧ 54 + 1 = 55 := ⟨by decide +kernel, rfl⟩
set_option maxRecDepth 20000 in
theorem dX12_behindTest_55 : decode cX12_behindTest 55 = .ok (.iload_n 1, 1) ∧ 55 + 1 = 56 := ⟨by decide +kernel, rfl⟩
set_option maxRecDepth 20000 in
theorem dX12_behindTest_56 : decode cX12_behindTest 56 = .ok (.ifCond .eq 8, 3) ∧ 56 + 3 = 59 ∧ ((56 : Nat) : Int) + (8) = ((64 : Nat) : Int) := ⟨by decide +kernel, rfl, by decide⟩
set_option maxRecDepth 20000 in
theorem dX12_behindTest_59 : decode cX12_behindTest 59 = .ok (.bipush 28, 2) ∧ 59 + 2 = 61 := ⟨by decide +kernel, rfl⟩
set_option maxRecDepth 20000 in
theorem dX12_behindTest_61 : decode cX12_behindTest 61 = .ok (.goto 5, 3) ∧ ((61 : Nat) : Int) + (5) = ((66 : Nat) : Int) := ⟨by decide +kernel, by decide⟩
set_option maxRecDepth 20000 in
theorem dX12_behindTest_64 : decode cX12_behindTest 64 = .ok (.bipush 29, 2) ∧ 64 + 2 = 66 := ⟨by decide +kernel, rfl⟩
set_option maxRecDepth 20000 in
theorem dX12_behindTest_66 : decode cX12_behindTest 66 = .ok (.iconst 0, 1) ∧ 66 + 1 = 67 := ⟨by decide +kernel, rfl⟩
set_option maxRecDepth 20000 in
theorem dX12_behindTest_67 : decode cX12_behindTest 67 = .ok (.invokevirtual 242, 3) ∧ 67 + 3 = 70 := ⟨by decide +kernel, rfl⟩
set_option maxRecDepth 20000 in
theorem dX12_behindTest_70 : decode cX12_behindTest 70 = .ok (.aload_n 0, 1) ∧ 70 + 1 = 71 := ⟨by decide +kernel, rfl⟩
set_option maxRecDepth 20000 in
theorem dX12_behindTest_71 : decode cX12_behindTest 71 = .ok (.invokevirtual 198, 3) ∧ 71 + 3 = 74 := ⟨by decide +kernel, rfl⟩
set_option maxRecDepth 20000 in
theorem dX12_behindTest_74 : decode cX12_behindTest 74 = .ok (.iconst 0, 1) ∧ 74 + 1 = 75 := ⟨by decide +kernel, rfl⟩
set_option maxRecDepth 20000 in
theorem dX12_behindTest_75 : decode cX12_behindTest 75 = .ok (.ireturn, 1) := by decide +kernel
set_option maxRecDepth 20000 in
theorem dX12_behindTest_76 : decode cX12_behindTest 76 = .ok (.aload_n 0, 1) ∧ 76 + 1 = 77 := ⟨by decide +kernel, rfl⟩
set_option maxRecDepth 20000 in
theorem dX12_behindTest_77 : decode cX12_behindTest 77 = .ok (.invokevirtual 289, 3) ∧ 77 + 3 = 80 := ⟨by decide +kernel, rfl⟩
set_option maxRecDepth 20000 in
theorem dX12_behindTest_80 : decode cX12_behindTest 80 = .ok (.iconst (-1), 1) ∧ 80 + 1 = 81 := ⟨by decide +kernel, rfl⟩
set_option maxRecDepth 20000 in
theorem dX12_behindTest_81 : decode cX12_behindTest 81 = .ok (.if_icmp .ne 5, 3) ∧ 81 + 3 = 84 ∧ ((81 : Nat) : Int) + (5) = ((86 : Nat) : Int) := ⟨by decide +kernel, rfl, by decide⟩
set_option maxRecDepth 20000 in
theorem dX12_behindTest_84 : decode cX12_behindTest 84 = .ok (.iconst 4, 1) ∧ 84 + 1 = 85 := ⟨by decide +kernel, rfl⟩
set_option maxRecDepth 20000 in
theorem dX12_behindTest_85 : decode cX12_behindTest 85 = .ok (.ireturn, 1) := by decide +kernel
set_option maxRecDepth 20000 in
theorem dX12_behindTest_86 : decode cX12_behindTest 86 = .ok (.aload_n 0, 1) ∧ 86 + 1 = 87 := ⟨by decide +kernel, rfl⟩
set_option maxRecDepth 20000 in
theorem dX12_behindTest_87 : decode cX12_behindTest 87 = .ok (.aload_n 0, 1) ∧ 87 + 1 = 88 := ⟨by decide +kernel, rfl⟩
set_option maxRecDepth 20000 in
theorem dX12_behindTest_88 : decode cX12_behindTest 88 = .ok (.bipush 41, 2) ∧ 88 + 2 = 90 := ⟨by decide +kernel, rfl⟩
set_option maxRecDepth 20000 in
theorem dX12_behindTest_90 : decode cX12_behindTest 90 = .ok (.invokevirtual 265, 3) ∧ 90 + 3 = 93 := ⟨by decide +kernel, rfl⟩
set_option maxRecDepth 20000 in
theorem dX12_behindTest_93 : decode cX12_behindTest 93 = .ok (.invokevirtual 229, 3) ∧ 93 + 3 = 96 := ⟨by decide +kernel, rfl⟩
set_option maxRecDepth 20000 in
theorem dX12_behindTest_96 : decode cX12_behindTest 96 = .ok (.aload_n 0, 1) ∧ 96 + 1 = 97 := ⟨by decide +kernel, rfl⟩
set_option maxRecDepth 20000 in
theorem dX12_behindTest_97 : decode cX12_behindTest 97 = .ok (.getfield 194, 3) ∧ 97 + 3 = 100 := ⟨by decide +kernel, rfl⟩
set_option maxRecDepth 20000 in
theorem dX12_behindTest_100 : decode cX12_behindTest 100 = .ok (.ifCond .ne 28, 3) ∧ 100 + 3 = 103 ∧ ((100 : Nat) : Int) + (28) = ((128 : Nat) : Int) := ⟨by decide +kernel, rfl, by decide⟩
set_option maxRecDepth 20000 in
theorem dX12_behindTest_103 : decode cX12_behindTest 103 = .ok (.aload_n 0, 1) ∧ 103 + 1 = 104 := ⟨by decide +kernel, rfl⟩
set_option maxRecDepth 20000 in
theorem dX12_behindTest_104 : decode cX12_behindTest 104 = .ok (.iconst 1, 1) ∧ 104 + 1 = 105 := ⟨by decide +kernel, rfl⟩
set_option maxRecDepth 20000 in
theorem dX12_behindTest_105 : decode cX12_behindTest 105 = .ok (.invokevirtual 286, 3) ∧ 105 + 3 = 108 := ⟨by decide +kernel, rfl⟩
set_option maxRecDepth 20000 in
theorem dX12_behindTest_108 : decode cX12_behindTest 108 = .ok (.aload_n 0, 1) ∧ 108 + 1 = 109 := ⟨by decide +kernel, rfl⟩
set_option maxRecDepth 20000 in
theorem dX12_behindTest_109 : decode cX12_behindTest 109 = .ok (.dup, 1) ∧ 109 + 1 = 110 := ⟨by decide +kernel, rfl⟩
set_option maxRecDepth 20000 in
theorem dX12_behindTest_110 : decode cX12_behindTest 110 = .ok (.getfield 236, 3) ∧ 110 + 3 = 113 := ⟨by decide +kernel, rfl⟩
set_option maxRecDepth 20000 in
theorem dX12_behindTest_113 : decode cX12_behindTest 113 = .ok (.iconst 1, 1) ∧ 113 + 1 = 114 := ⟨by decide +kernel, rfl⟩
set_option maxRecDepth 20000 in
theorem dX12_behindTest_114 : decode cX12_behindTest 114 = .ok (.isub, 1) ∧ 114 + 1 = 115 := ⟨by decide +kernel, rfl⟩
set_option maxRecDepth 20000 in
theorem dX12_behindTest_115 : decode cX12_behindTest 115 = .ok (.putfield 236, 3) ∧ 115 + 3 = 118 := ⟨by decide +kernel, rfl⟩
set_option maxRecDepth 20000 in
theorem dX12_behindTest_118 : decode cX12_behindTest 118 = .ok (.aload_n 0, 1) ∧ 118 + 1 = 119 := ⟨by decide +kernel, rfl⟩
set_option maxRecDepth 20000 in
theorem dX12_behindTest_119 : decode cX12_behindTest 119 = .ok (.dup, 1) ∧ 119 + 1 = 120 := ⟨by decide +kernel, rfl⟩
set_option maxRecDepth 20000 in
theorem dX12_behindTest_120 : decode cX12_behindTest 120 = .ok (.getfield 256, 3) ∧ 120 + 3 = 123 := ⟨by decide +kernel, rfl⟩
set_option maxRecDepth 20000 in
theorem dX12_behindTest_123 : decode cX12_behindTest 123 = .ok (.iconst 1, 1) ∧ 123 + 1 = 124 := ⟨by decide +kernel, rfl⟩
set_option maxRecDepth 20000 in
theorem dX12_behindTest_124 : decode cX12_behindTest 124 = .ok (.isub, 1) ∧ 124 + 1 = 125 := ⟨by decide +kernel, rfl⟩
set_option maxRecDepth 20000 in
theorem dX12_behindTest_125 : decode cX12_behindTest 125 = .ok (.putfield 256, 3) ∧ 125 + 3 = 128 := ⟨by decide +kernel, rfl⟩
set_option maxRecDepth 20000 in
theorem dX12_behindTest_128 : decode cX12_behindTest 128 = .ok (.iconst 2, 1) ∧ 128 + 1 = 129 := ⟨by decide +kernel, rfl⟩
set_option maxRecDepth 20000 in
theorem dX12_behindTest_129 : decode cX12_behindTest 129 = .ok (.ireturn, 1) := by decide +kernel
set_option maxRecDepth 20000 in
theorem dX12_readExpression_0 : decode cX12_readExpression 0 = .ok (.aload_n 0, 1) ∧ 0 + 1 = 1 := ⟨by decide +kernel, rfl⟩
set_option maxRecDepth 20000 in
theorem dX12_readExpression_1 : decode cX12_readExpression 1 = .ok (.iconst 0, 1) ∧ 1 + 1 = 2 := ⟨by decide +kernel, rfl⟩
set_option maxRecDepth 20000 in
theorem dX12_readExpression_2 : decode cX12_readExpression 2 = .ok (.putfield 236, 3) ∧ 2 + 3 = 5 := ⟨by decide +kernel, rfl⟩
set_option maxRecDepth 20000 in
theorem dX12_readExpression_5 : decode cX12_readExpression 5 = .ok (.aload_n 0, 1) ∧ 5 + 1 = 6 := ⟨by decide +kernel, rfl⟩
set_option maxRecDepth 20000 in
theorem dX12_readExpression_6 : decode cX12_readExpression 6 = .ok (.iconst 0, 1) ∧ 6 + 1 = 7 := ⟨by decide +kernel, rfl⟩
set_option maxRecDepth 20000 in
theorem dX12_readExpression_7 : decode cX12_readExpression 7 = .ok (.putfield 256, 3) ∧ 7 + 3 = 10 := ⟨by decide +kernel, rfl⟩
set_option maxRecDepth 20000 in
theorem dX12_readExpression_10 : decode cX12_readExpression 10 = .ok (.iload_n 1, 1) ∧ 10 + 1 = 11 := ⟨by decide +kernel, rfl⟩
set_option maxRecDepth 20000 in
theorem dX12_readExpression_11 : decode cX12_readExpression 11 = .ok (.ifCond .eq 7, 3) ∧ 11 + 3 = 14 ∧ ((11 : Nat) : Int) + (7) = ((18 : Nat) : Int) := ⟨by decide +kernel, rfl, by decide⟩
set_option maxRecDepth 20000 in
theorem dX12_readExpression_14 : decode cX12_readExpression 14 = .ok (.iconst 0, 1) ∧ 14 + 1 = 15 := ⟨by decide +kernel, rfl⟩
set_option maxRecDepth 20000 in
theorem dX12_readExpression_15 : decode cX12_readExpression 15 = .ok (.goto 4, 3) ∧ ((15 : Nat) : Int) + (4) = ((19 : Nat) : Int) := ⟨by decide +kernel, by decide⟩
set_option maxRecDepth 20000 in
theorem dX12_readExpression_18 : decode cX12_readExpression 18 = .ok (.iconst 1, 1) ∧ 18 + 1 = 19 := ⟨by decide +kernel, rfl⟩
set_option maxRecDepth 20000 in
theorem dX12_readExpression_19 : decode cX12_readExpression 19 = .ok (.istore_n 2, 1) ∧ 19 + 1 = 20 := ⟨by decide +kernel, rfl⟩
set_option maxRecDepth 20000 in
theorem dX12_readExpression_20 : decode cX12_readExpression 20 = .ok (.aload_n 0, 1) ∧ 20 + 1 = 21 := ⟨by decide +kernel, rfl⟩
set_option maxRecDepth 20000 in
theorem dX12_readExpression_21 : decode cX12_readExpression 21 = .ok (.getfield 194, 3) ∧ 21 + 3 = 24 := ⟨by decide +kernel, rfl⟩
set_option maxRecDepth 20000 in
theorem dX12_readExpression_24 : decode cX12_readExpression 24 = .ok (.ifCond .ne 52, 3) ∧ 24 + 3 = 27 ∧ ((24 : Nat) : Int) + (52) = ((76 : Nat) : Int) := ⟨by decide +kernel, rfl, by decide⟩
set_option maxRecDepth 20000 in
theorem dX12_readExpression_27 : decode cX12_readExpression 27 = .ok (.iload_n 2, 1) ∧ 27 + 1 = 28 := ⟨by decide +kernel, rfl⟩
set_option maxRecDepth 20000 in
theorem dX12_readExpression_28 : decode cX12_readExpression 28 = .ok (.iconst 4, 1) ∧ 28 + 1 = 29 := ⟨by decide +kernel, rfl⟩
set_option maxRecDepth 20000 in
theorem dX12_readExpression_29 : decode cX12_readExpression 29 = .ok (.if_icmp .eq 47, 3) ∧ 29 + 3 = 32 ∧ ((29 : Nat) : Int) + (47) = ((76 : Nat) : Int) := ⟨by decide +kernel, rfl, by decide⟩
set_option maxRecDepth 20000 in
theorem dX12_readExpression_32 : decode cX12_readExpression 32 = .ok (.iload_n 2, 1) ∧ 32 + 1 = 33 := ⟨by decide +kernel, rfl⟩
set_option maxRecDepth 20000 in
theorem dX12_readExpression_33 : decode cX12_readExpression 33 = .ok (.ifCond .ne 10, 3) ∧ 33 + 3 = 36 ∧ ((33 : Nat) : Int) + (10) = ((43 : Nat) : Int) := ⟨by decide +kernel, rfl, by decide⟩
set_option maxRecDepth 20000 in
theorem dX12_readExpression_36 : decode cX12_readExpression 36 = .ok (.aload_n 0, 1) ∧ 36 + 1 = 37 := ⟨by decide +kernel, rfl⟩
set_option maxRecDepth 20000 in
theorem dX12_readExpression_37 : decode cX12_readExpression 37 = .ok (.invokevirtual 300, 3) ∧ 37 + 3 = 40 := ⟨by decide +kernel, rfl⟩
set_option maxRecDepth 20000 in
theorem dX12_readExpression_40 : decode cX12_readExpression 40 = .ok (.goto 32, 3) ∧ ((40 : Nat) : Int) + (32) = ((72 : Nat) : Int) := ⟨by decide +kernel, by decide⟩
set_option maxRecDepth 20000 in
theorem dX12_readExpression_43 : decode cX12_readExpression 43 = .ok (.iload_n 2, 1) ∧ 43 + 1 = 44 := ⟨by decide +kernel, rfl⟩
set_option maxRecDepth 20000 in
theorem dX12_readExpression_44 : decode cX12_readExpression 44 = .ok (.iconst 1, 1) ∧ 44 + 1 = 45 := ⟨by decide +kernel, rfl⟩
set_option maxRecDepth 20000 in
theorem dX12_readExpression_45 : decode cX12_readExpression 45 = .ok (.if_icmp .ne 10, 3) ∧ 45 + 3 = 48 ∧ ((45 : Nat) : Int) + (10) = ((55 : Nat) : Int) := ⟨by decide +kernel, rfl, by decide⟩
set_option maxRecDepth 20000 in
theorem dX12_readExpression_48 : decode cX12_readExpression 48 = .ok (.aload_n 0, 1) ∧ 48 + 1 = 49 := ⟨by decide +kernel, rfl⟩
set_option maxRecDepth 20000 in
theorem dX12_readExpression_49 : decode cX12_readExpression 49 = .ok (.invokevirtual 283, 3) ∧ 49 + 3 = 52 := ⟨by decide +kernel, rfl⟩
set_option maxRecDepth 20000 in
theorem dX12_readExpression_52 : decode cX12_readExpression 52 = .ok (.goto 20, 3) ∧ ((52 : Nat) : Int) + (20) = ((72 : Nat) : Int) := ⟨by decide +kernel, by decide⟩
set_option maxRecDepth 20000 in
theorem dX12_readExpression_55 : decode cX12_readExpression 55 = .ok (.iload_n 2, 1) ∧ 55 + 1 = 56 := ⟨by decide +kernel, rfl⟩
set_option maxRecDepth 20000 in
theorem dX12_readExpression_56 : decode cX12_readExpression 56 = .ok (.iconst 3, 1) ∧ 56 + 1 = 57 := ⟨by decide +kernel, rfl⟩
set_option maxRecDepth 20000 in
theorem dX12_readExpression_57 : decode cX12_readExpression 57 = .ok (.if_icmp .ne 11, 3) ∧ 57 + 3 = 60 ∧ ((57 : Nat) : Int) + (11) = ((68 : Nat) : Int) := ⟨by decide +kernel, rfl, by decide⟩
set_option maxRecDepth 20000 in
theorem dX12_readExpression_60 : decode cX12_readExpression 60 = .ok (.aload_n 0, 1) ∧ 60 + 1 = 61 := ⟨by decide +kernel, rfl⟩
set_option maxRecDepth 20000 in
theorem dX12_readExpression_61 : decode cX12_readExpression 61 = .ok (.iload_n 1, 1) ∧ 61 + 1 = 62 := ⟨by decide +kernel, rfl⟩
set_option maxRecDepth 20000 in
theorem dX12_readExpression_62 : decode cX12_readExpression 62 = .ok (.invokevirtual 303, 3) ∧ 62 + 3 = 65 := ⟨by decide +kernel, rfl⟩
set_option maxRecDepth 20000 in
theorem dX12_readExpression_65 : decode cX12_readExpression 65 = .ok (.goto 7, 3) ∧ ((65 : Nat) : Int) + (7) = ((72 : Nat) : Int) := ⟨by decide +kernel, by decide⟩
set_option maxRecDepth 20000 in
theorem dX12_readExpression_68 : decode cX12_readExpression 68 = .ok (.aload_n 0, 1) ∧ 68 + 1 = 69 := ⟨by decide +kernel, rfl⟩
set_option maxRecDepth 20000 in
theorem dX12_readExpression_69 : decode cX12_readExpression 69 = .ok (.invokevirtual 307, 3) ∧ 69 + 3 = 72 := ⟨by decide +kernel, rfl⟩
set_option maxRecDepth 20000 in
theorem dX12_readExpression_72 : decode cX12_readExpression 72 = .ok (.istore_n 2, 1) ∧ 72 + 1 = 73 := ⟨by decide +kernel, rfl⟩
set_option maxRecDepth 20000 in
theorem dX12_readExpression_73 : decode cX12_readExpression 73 = .ok (.goto (-53), 3) ∧ ((73 : Nat) : Int) + (-53) = ((20 : Nat) : Int) := ⟨by decide +kernel, by decide⟩
set_option maxRecDepth 20000 in
theorem dX12_readExpression_76 : decode cX12_readExpression 76 = .ok (.aload_n 0, 1) ∧ 76 + 1 = 77 := ⟨by decide +kernel, rfl⟩
set_option maxRecDepth 20000 in
theorem dX12_readExpression_77 : decode cX12_readExpression 77 = .ok (.iconst 1, 1) ∧ 77 + 1 = 78 := ⟨by decide +kernel, rfl⟩
set_option maxRecDepth 20000 in
theorem dX12_readExpression_78 : decode cX12_readExpression 78 = .ok (.invokevirtual 286, 3) ∧ 78 + 3 = 81 := ⟨by decide +kernel, rfl⟩
set_option maxRecDepth 20000 in
theorem dX12_readExpression_81 : decode cX12_readExpression 81 = .ok (.return_, 1) := by decide +kernel
set_option maxRecDepth 20000 in
theorem dX12_readClause_0 : decode cX12_readClause 0 = .ok (.iconst (-1), 1) ∧ 0 + 1 = 1 := ⟨by decide +kernel, rfl⟩
set_option maxRecDepth 20000 in
theorem dX12_readClause_1 : decode cX12_readClause 1 = .ok (.istore_n 1, 1) ∧ 1 + 1 = 2 := ⟨by decide +kernel, rfl⟩
set_option maxRecDepth 20000 in
theorem dX12_readClause_2 : decode cX12_readClause 2 = .ok (.iconst 0, 1) ∧ 2 + 1 = 3 := ⟨by decide +kernel, rfl⟩
set_option maxRecDepth 20000 in
theorem dX12_readClause_3 : decode cX12_readClause 3 = .ok (.istore_n 2, 1) ∧ 3 + 1 = 4 := ⟨by decide +kernel, rfl⟩
set_option maxRecDepth 20000 in
theorem dX12_readClause_4 : decode cX12_readClause 4 = .ok (.iload_n 2, 1) ∧ 4 + 1 = 5 := ⟨by decide +kernel, rfl⟩
set_option maxRecDepth 20000 in
theorem dX12_readClause_5 : decode cX12_readClause 5 = .ok (.iconst 3, 1) ∧ 5 + 1 = 6 := ⟨by decide +kernel, rfl⟩
set_option maxRecDepth 20000 in
theorem dX12_readClause_6 : decode cX12_readClause 6 = .ok (.if_icmp .ge 28, 3) ∧ 6 + 3 = 9 ∧ ((6 : Nat) : Int) + (28) = ((34 : Nat) : Int) := ⟨by decide +kernel, rfl, by decide⟩
set_option maxRecDepth 20000 in
theorem dX12_readClause_9 : decode cX12_readClause 9 = .ok (.aload_n 0, 1) ∧ 9 + 1 = 10 := ⟨by decide +kernel, rfl⟩
set_option maxRecDepth 20000 in
theorem dX12_readClause_10 : decode cX12_readClause 10 = .ok (.aload_n 0, 1) ∧ 10 + 1 = 11 := ⟨by decide +kernel, rfl⟩
set_option maxRecDepth 20000 in
theorem dX12_readClause_11 : decode cX12_readClause 11 = .ok (.getfield 75, 3) ∧ 11 + 3 = 14 := ⟨by decide +kernel, rfl⟩
set_option maxRecDepth 20000 in
theorem dX12_readClause_14 : decode cX12_readClause 14 = .ok (.iload_n 2, 1) ∧ 14 + 1 = 15 := ⟨by decide +kernel, rfl⟩
set_option maxRecDepth 20000 in
theorem dX12_readClause_15 : decode cX12_readClause 15 = .ok (.laload, 1) ∧ 15 + 1 = 16 := ⟨by decide +kernel, rfl⟩
set_option maxRecDepth 20000 in
theorem dX12_readClause_16 : decode cX12_readClause 16 = .ok (.invokevirtual 252, 3) ∧ 16 + 3 = 19 := ⟨by decide +kernel, rfl⟩
set_option maxRecDepth 20000 in
theorem dX12_readClause_19 : decode cX12_readClause 19 = .ok (.ifCond .eq 7, 3) ∧ 19 + 3 = 22 ∧ ((19 : Nat) : Int) + (7) = ((26 : Nat) : Int) := ⟨by decide +kernel, rfl, by decide⟩
set_option maxRecDepth 20000 in
theorem dX12_readClause_22 : decode cX12_readClause 22 = .ok (.iload_n 2, 1) ∧ 22 + 1 = 23 := ⟨by decide +kernel, rfl⟩
set_option maxRecDepth 20000 in
theorem dX12_readClause_23 : decode cX12_readClause 23 = .ok (.goto 4, 3) ∧ ((23 : Nat) : Int) + (4) = ((27 : Nat) : Int) := ⟨by decide +kernel, by decide⟩
set_option maxRecDepth 20000 in
theorem dX12_readClause_26 : decode cX12_readClause 26 = .ok (.iload_n 1, 1) ∧ 26 + 1 = 27 := ⟨by decide +kernel, rfl⟩
set_option maxRecDepth 20000 in
theorem dX12_readClause_27 : decode cX12_readClause 27 = .ok (.istore_n 1, 1) ∧ 27 + 1 = 28 := ⟨by decide +kernel, rfl⟩
set_option maxRecDepth 20000 in
theorem dX12_readClause_28 : decode cX12_readClause 28 = .ok (.iinc 2 1, 3) ∧ 28 + 3 = 31 := ⟨by decide +kernel, rfl⟩
set_option maxRecDepth 20000 in
theorem dX12_readClause_31 : decode cX12_readClause 31 = .ok (.goto (-27), 3) ∧ ((31 : Nat) : Int) + (-27) = ((4 : Nat) : Int) := ⟨by decide +kernel, by decide⟩
set_option maxRecDepth 20000 in
theorem dX12_readClause_34 : decode cX12_readClause 34 = .ok (.aload_n 0, 1) ∧ 34 + 1 = 35 := ⟨by decide +kernel, rfl⟩
set_option maxRecDepth 20000 in
theorem dX12_readClause_35 : decode cX12_readClause 35 = .ok (.iload_n 1, 1) ∧ 35 + 1 = 36 := ⟨by decide +kernel, rfl⟩
set_option maxRecDepth 20000 in
theorem dX12_readClause_36 : decode cX12_readClause 36 = .ok (.iconst (-1), 1) ∧ 36 + 1 = 37 := ⟨by decide +kernel, rfl⟩
set_option maxRecDepth 20000 in
theorem dX12_readClause_37 : decode cX12_readClause 37 = .ok (.if_icmp .eq 16, 3) ∧ 37 + 3 = 40 ∧ ((37 : Nat) : Int) + (16) = ((53 : Nat) : Int) := ⟨by decide +kernel, rfl, by decide⟩
set_option maxRecDepth 20000 in
theorem dX12_readClause_40 : decode cX12_readClause 40 = .ok (.aload_n 0, 1) ∧ 40 + 1 = 41 := ⟨by decide +kernel, rfl⟩
set_option maxRecDepth 20000 in
theorem dX12_readClause_41 : decode cX12_readClause 41 = .ok (.getfield 310, 3) ∧ 41 + 3 = 44 := ⟨by decide +kernel, rfl⟩
set_option maxRecDepth 20000 in
theorem dX12_readClause_44 : decode cX12_readClause 44 = .ok (.bipush 12, 2) ∧ 44 + 2 = 46 := ⟨by decide +kernel, rfl⟩
set_option maxRecDepth 20000 in
theorem dX12_readClause_46 : decode cX12_readClause 46 = .ok (.if_icmp .ge 7, 3) ∧ 46 + 3 = 49 ∧ ((46 : Nat) : Int) + (7) = ((53 : Nat) : Int) := ⟨by decide +kernel, rfl, by decide⟩
set_option maxRecDepth 20000 in
theorem dX12_readClause_49 : decode cX12_readClause 49 = .ok (.iconst 1, 1) ∧ 49 + 1 = 50 := ⟨by decide +kernel, rfl⟩
set_option maxRecDepth 20000 in
theorem dX12_readClause_50 : decode cX12_readClause 50 = .ok (.goto 4, 3) ∧ ((50 : Nat) : Int) + (4) = ((54 : Nat) : Int) := ⟨by decide +kernel, by decide⟩
set_option maxRecDepth 20000 in
theorem dX12_readClause_53 : decode cX12_readClause 53 = .ok (.iconst 0, 1) ∧ 53 + 1 = 54 := ⟨by decide +kernel, rfl⟩
set_option maxRecDepth 20000 in
theorem dX12_readClause_54 : decode cX12_readClause 54 = .ok (.invokevirtual 229, 3) ∧ 54 + 3 = 57 := ⟨by decide +kernel, rfl⟩
set_option maxRecDepth 20000 in
theorem dX12_readClause_57 : decode cX12_readClause 57 = .ok (.aload_n 0, 1) ∧ 57 + 1 = 58 := ⟨by decide +kernel, rfl⟩
set_option maxRecDepth 20000 in
theorem dX12_readClause_58 : decode cX12_readClause 58 = .ok (.getfield 194, 3) ∧ 58 + 3 = 61 := ⟨by decide +kernel, rfl⟩
set_option maxRecDepth 20000 in
theorem dX12_readClause_61 : decode cX12_readClause 61 = .ok (.ifCond .eq 4, 3) ∧ 61 + 3 = 64 ∧ ((61 : Nat) : Int) + (4) = ((65 : Nat) : Int) := ⟨by decide +kernel, rfl, by decide⟩
set_option maxRecDepth 20000 in
theorem dX12_readClause_64 : decode cX12_readClause 64 = .ok (.return_, 1) := by decide +kernel
set_option maxRecDepth 20000 in
theorem dX12_readClause_65 : decode cX12_readClause 65 = .ok (.bipush 8, 2) ∧ 65 + 2 = 67 := ⟨by decide +kernel, rfl⟩
set_option maxRecDepth 20000 in
theorem dX12_readClause_67 : decode cX12_readClause 67 = .ok (.aload_n 0, 1) ∧ 67 + 1 = 68 := ⟨by decide +kernel, rfl⟩
set_option maxRecDepth 20000 in
theorem dX12_readClause_68 : decode cX12_readClause 68 = .ok (.getfield 310, 3) ∧ 68 + 3 = 71 := ⟨by decide +kernel, rfl⟩
set_option maxRecDepth 20000 in
theorem dX12_readClause_71 : decode cX12_readClause 71 = .ok (.imul, 1) ∧ 71 + 1 = 72 := ⟨by decide +kernel, rfl⟩
set_option maxRecDepth 20000 in
theorem dX12_readClause_72 : decode cX12_readClause 72 = .ok (.istore_n 2, 1) ∧ 72 + 1 = 73 := ⟨by decide +kernel, rfl⟩
set_option maxRecDepth 20000 in
theorem dX12_readClause_73 : decode cX12_readClause 73 = .ok (.iconst 0, 1) ∧ 73 + 1 = 74 := ⟨by decide +kernel, rfl⟩
set_option maxRecDepth 20000 in
theorem dX12_readClause_74 : decode cX12_readClause 74 = .ok (.istore_n 3, 1) ∧ 74 + 1 = 75 := ⟨by decide +kernel, rfl⟩
set_option maxRecDepth 20000 in
theorem dX12_readClause_75 : decode cX12_readClause 75 = .ok (.iload_n 3, 1) ∧ 75 + 1 = 76 := ⟨by decide +kernel, rfl⟩
set_option maxRecDepth 20000 in
theorem dX12_readClause_76 : decode cX12_readClause 76 = .ok (.bipush 8, 2) ∧ 76 + 2 = 78 := ⟨by decide +kernel, rfl⟩
set_option maxRecDepth 20000 in
theorem dX12_readClause_78 : decode cX12_readClause 78 = .ok (.if_icmp .ge 18, 3) ∧ 78 + 3 = 81 ∧ ((78 : Nat) : Int) + (18) = ((96 : Nat) : Int) := ⟨by decide +kernel, rfl, by decide⟩
set_option maxRecDepth 20000 in
theorem dX12_readClause_81 : decode cX12_readClause 81 = .ok (.aload_n 0, 1) ∧ 81 + 1 = 82 := ⟨by decide +kernel, rfl⟩
set_option maxRecDepth 20000 in
theorem dX12_readClause_82 : decode cX12_readClause 82 = .ok (.getfield 30, 3) ∧ 82 + 3 = 85 := ⟨by decide +kernel, rfl⟩
set_option maxRecDepth 20000 in
theorem dX12_readClause_85 : decode cX12_readClause 85 = .ok (.iload_n 2, 1) ∧ 85 + 1 = 86 := ⟨by decide +kernel, rfl⟩
set_option maxRecDepth 20000 in
theorem dX12_readClause_86 : decode cX12_readClause 86 = .ok (.iload_n 3, 1) ∧ 86 + 1 = 87 := ⟨by decide +kernel, rfl⟩
set_option maxRecDepth 20000 in
theorem dX12_readClause_87 : decode cX12_readClause 87 = .ok (.iadd, 1) ∧ 87 + 1 = 88 := ⟨by decide +kernel, rfl⟩
set_option maxRecDepth 20000 in
theorem dX12_readClause_88 : decode cX12_readClause 88 = .ok (.iconst 0, 1) ∧ 88 + 1 = 89 := ⟨by decide +kernel, rfl⟩
set_option maxRecDepth 20000 in
theorem dX12_readClause_89 : decode cX12_readClause 89 = .ok (.iastore, 1) ∧ 89 + 1 = 90 := ⟨by decide +kernel, rfl⟩
set_option maxRecDepth 20000 in
theorem dX12_readClause_90 : decode cX12_readClause 90 = .ok (.iinc 3 1, 3) ∧ 90 + 3 = 93 := ⟨by decide +kernel, rfl⟩
set_option maxRecDepth 20000 in
theorem dX12_readClause_93 : decode cX12_readClause 93 = .ok (.goto (-18), 3) ∧ ((93 : Nat) : Int) + (-18) = ((75 : Nat) : Int) := ⟨by decide +kernel, by decide⟩
set_option maxRecDepth 20000 in
theorem dX12_readClause_96 : decode cX12_readClause 96 = .ok (.aload_n 0, 1) ∧ 96 + 1 = 97 := ⟨by decide +kernel, rfl⟩
set_option maxRecDepth 20000 in
theorem dX12_readClause_97 : decode cX12_readClause 97 = .ok (.getfield 30, 3) ∧ 97 + 3 = 100 := ⟨by decide +kernel, rfl⟩
set_option maxRecDepth 20000 in
theorem dX12_readClause_100 : decode cX12_readClause 100 = .ok (.iload_n 2, 1) ∧ 100 + 1 = 101 := ⟨by decide +kernel, rfl⟩
set_option maxRecDepth 20000 in
theorem dX12_readClause_101 : decode cX12_readClause 101 = .ok (.iload_n 1, 1) ∧ 101 + 1 = 102 := ⟨by decide +kernel, rfl⟩
set_option maxRecDepth 20000 in
theorem dX12_readClause_102 : decode cX12_readClause 102 = .ok (.iastore, 1) ∧ 102 + 1 = 103 := ⟨by decide +kernel, rfl⟩
set_option maxRecDepth 20000 in
theorem dX12_readClause_103 : decode cX12_readClause 103 = .ok (.aload_n 0, 1) ∧ 103 + 1 = 104 := ⟨by decide +kernel, rfl⟩
set_option maxRecDepth 20000 in
theorem dX12_readClause_104 : decode cX12_readClause 104 = .ok (.dup, 1) ∧ 104 + 1 = 105 := ⟨by decide +kernel, rfl⟩
set_option maxRecDepth 20000 in
theorem dX12_readClause_105 : decode cX12_readClause 105 = .ok (.getfield 310, 3) ∧ 105 + 3 = 108 := ⟨by decide +kernel, rfl⟩
set_option maxRecDepth 20000 in
theorem dX12_readClause_108 : decode cX12_readClause 108 = .ok (.iconst 1, 1) ∧ 108 + 1 = 109 := ⟨by decide +kernel, rfl⟩
set_option maxRecDepth 20000 in
theorem dX12_readClause_109 : decode cX12_readClause 109 = .ok (.iadd, 1) ∧ 109 + 1 = 110 := ⟨by decide +kernel, rfl⟩
set_option maxRecDepth 20000 in
theorem dX12_readClause_110 : decode cX12_readClause 110 = .ok (.putfield 310, 3) ∧ 110 + 3 = 113 := ⟨by decide +kernel, rfl⟩
set_option maxRecDepth 20000 in
theorem dX12_readClause_113 : decode cX12_readClause 113 = .ok (.aload_n 0, 1) ∧ 113 + 1 = 114 := ⟨by decide +kernel, rfl⟩
set_option maxRecDepth 20000 in
theorem dX12_readClause_114 : decode cX12_readClause 114 = .ok (.getfield 30, 3) ∧ 114 + 3 = 117 := ⟨by decide +kernel, rfl⟩
set_option maxRecDepth 20000 in
theorem dX12_readClause_117 : decode cX12_readClause 117 = .ok (.iload_n 2, 1) ∧ 117 + 1 = 118 := ⟨by decide +kernel, rfl⟩
set_option maxRecDepth 20000 in
theorem dX12_readClause_118 : decode cX12_readClause 118 = .ok (.iconst 3, 1) ∧ 118 + 1 = 119 := ⟨by decide +kernel, rfl⟩
set_option maxRecDepth 20000 in
theorem dX12_readClause_119 : decode cX12_readClause 119 = .ok (.iadd, 1) ∧ 119 + 1 = 120 := ⟨by decide +kernel, rfl⟩
set_option maxRecDepth 20000 in
theorem dX12_readClause_120 : decode cX12_readClause 120 = .ok (.aload_n 0, 1) ∧ 120 + 1 = 121 := ⟨by decide +kernel, rfl⟩
set_option maxRecDepth 20000 in
theorem dX12_readClause_121 : decode cX12_readClause 121 = .ok (.getfield 233, 3) ∧ 121 + 3 = 124 := ⟨by decide +kernel, rfl⟩
set_option maxRecDepth 20000 in
theorem dX12_readClause_124 : decode cX12_readClause 124 = .ok (.iastore, 1) ∧ 124 + 1 = 125 := ⟨by decide +kernel, rfl⟩
set_option maxRecDepth 20000 in
theorem dX12_readClause_125 : decode cX12_readClause 125 = .ok (.aload_n 0, 1) ∧ 125 + 1 = 126 := ⟨by decide +kernel, rfl⟩
set_option maxRecDepth 20000 in
theorem dX12_readClause_126 : decode cX12_readClause 126 = .ok (.iconst 0, 1) ∧ 126 + 1 = 127 := ⟨by decide +kernel, rfl⟩
set_option maxRecDepth 20000 in
theorem dX12_readClause_127 : decode cX12_readClause 127 = .ok (.invokevirtual 313, 3) ∧ 127 + 3 = 130 := ⟨by decide +kernel, rfl⟩
set_option maxRecDepth 20000 in
theorem dX12_readClause_130 : decode cX12_readClause 130 = .ok (.aload_n 0, 1) ∧ 130 + 1 = 131 := ⟨by decide +kernel, rfl⟩
set_option maxRecDepth 20000 in
theorem dX12_readClause_131 : decode cX12_readClause 131 = .ok (.getfield 30, 3) ∧ 131 + 3 = 134 := ⟨by decide +kernel, rfl⟩
set_option maxRecDepth 20000 in
theorem dX12_readClause_134 : decode cX12_readClause 134 = .ok (.iload_n 2, 1) ∧ 134 + 1 = 135 := ⟨by decide +kernel, rfl⟩
set_option maxRecDepth 20000 in
theorem dX12_readClause_135 : decode cX12_readClause 135 = .ok (.iconst 4, 1) ∧ 135 + 1 = 136 := ⟨by decide +kernel, rfl⟩
set_option maxRecDepth 20000 in
theorem dX12_readClause_136 : decode cX12_readClause 136 = .ok (.iadd, 1) ∧ 136 + 1 = 137 := ⟨by decide +kernel, rfl⟩
set_option maxRecDepth 20000 in
theorem dX12_readClause_137 : decode cX12_readClause 137 = .ok (.aload_n 0, 1) ∧ 137 + 1 = 138 := ⟨by decide +kernel, rfl⟩
set_option maxRecDepth 20000 in
theorem dX12_readClause_138 : decode cX12_readClause 138 = .ok (.getfield 233, 3) ∧ 138 + 3 = 141 := ⟨by decide +kernel, rfl⟩
set_option maxRecDepth 20000 in
theorem dX12_readClause_141 : decode cX12_readClause 141 = .ok (.iastore, 1) ∧ 141 + 1 = 142 := ⟨by decide +kernel, rfl⟩
set_option maxRecDepth 20000 in
theorem dX12_readClause_142 : decode cX12_readClause 142 = .ok (.aload_n 0, 1) ∧ 142 + 1 = 143 := ⟨by decide +kernel, rfl⟩
set_option maxRecDepth 20000 in
theorem dX12_readClause_143 : decode cX12_readClause 143 = .ok (.getfield 30, 3) ∧ 143 + 3 = 146 := ⟨by decide +kernel, rfl⟩
set_option maxRecDepth 20000 in
theorem dX12_readClause_146 : decode cX12_readClause 146 = .ok (.iload_n 2, 1) ∧ 146 + 1 = 147 := ⟨by decide +kernel, rfl⟩
set_option maxRecDepth 20000 in
theorem dX12_readClause_147 : decode cX12_readClause 147 = .ok (.iconst 5, 1) ∧ 147 + 1 = 148 := ⟨by decide +kernel, rfl⟩
set_option maxRecDepth 20000 in
theorem dX12_readClause_148 : decode cX12_readClause 148 = .ok (.iadd, 1) ∧ 148 + 1 = 149 := ⟨by decide +kernel, rfl⟩
set_option maxRecDepth 20000 in
theorem dX12_readClause_149 : decode cX12_readClause 149 = .ok (.aload_n 0, 1) ∧ 149 + 1 = 150 := ⟨by decide +kernel, rfl⟩
set_option maxRecDepth 20000 in
theorem dX12_readClause_150 : decode cX12_readClause 150 = .ok (.getfield 233, 3) ∧ 150 + 3 = 153 := ⟨by decide +kernel, rfl⟩
set_option maxRecDepth 20000 in
theorem dX12_readClause_153 : decode cX12_readClause 153 = .ok (.iastore, 1) ∧ 153 + 1 = 154 := ⟨by decide +kernel, rfl⟩
set_option maxRecDepth 20000 in
theorem dX12_readClause_154 : decode cX12_readClause 154 = .ok (.aload_n 0, 1) ∧ 154 + 1 = 155 := ⟨by decide +kernel, rfl⟩
set_option maxRecDepth 20000 in
theorem dX12_readClause_155 : decode cX12_readClause 155 = .ok (.getfield 194, 3) ∧ 155 + 3 = 158 := ⟨by decide +kernel, rfl⟩
set_option maxRecDepth 20000 in
theorem dX12_readClause_158 : decode cX12_readClause 158 = .ok (.ifCond .ne 22, 3) ∧ 158 + 3 = 161 ∧ ((158 : Nat) : Int) + (22) = ((180 : Nat) : Int) := ⟨by decide +kernel, rfl, by decide⟩
set_option maxRecDepth 20000 in
theorem dX12_readClause_161 : decode cX12_readClause 161 = .ok (.aload_n 0, 1) ∧ 161 + 1 = 162 := ⟨by decide +kernel, rfl⟩
set_option maxRecDepth 20000 in
theorem dX12_readClause_162 : decode cX12_readClause 162 = .ok (.ldc2_w 316, 3) ∧ 162 + 3 = 165 := ⟨by decide +kernel, rfl⟩
set_option maxRecDepth 20000 in
theorem dX12_readClause_165 : decode cX12_readClause 165 = .ok (.invokevirtual 252, 3) ∧ 165 + 3 = 168 := ⟨by decide +kernel, rfl⟩
set_option maxRecDepth 20000 in
theorem dX12_readClause_168 : decode cX12_readClause 168 = .ok (.ifCond .eq 12, 3) ∧ 168 + 3 = 171 ∧ ((168 : Nat) : Int) + (12) = ((180 : Nat) : Int) := ⟨by decide +kernel, rfl, by decide⟩
set_option maxRecDepth 20000 in
theorem dX12_readClause_171 : decode cX12_readClause 171 = .ok (.aload_n 0, 1) ∧ 171 + 1 = 172 := ⟨by decide +kernel, rfl⟩
set_option maxRecDepth 20000 in
theorem dX12_readClause_172 : decode cX12_readClause 172 = .ok (.invokevirtual 198, 3) ∧ 172 + 3 = 175 := ⟨by decide +kernel, rfl⟩
set_option maxRecDepth 20000 in
theorem dX12_readClause_175 : decode cX12_readClause 175 = .ok (.aload_n 0, 1) ∧ 175 + 1 = 176 := ⟨by decide +kernel, rfl⟩
set_option maxRecDepth 20000 in
theorem dX12_readClause_176 : decode cX12_readClause 176 = .ok (.iconst 1, 1) ∧ 176 + 1 = 177 := ⟨by decide +kernel, rfl⟩
set_option maxRecDepth 20000 in
theorem dX12_readClause_177 : decode cX12_readClause 177 = .ok (.invokevirtual 313, 3) ∧ 177 + 3 = 180 := ⟨by decide +kernel, rfl⟩
set_option maxRecDepth 20000 in
theorem dX12_readClause_180 : decode cX12_readClause 180 = .ok (.aload_n 0, 1) ∧ 180 + 1 = 181 := ⟨by decide +kernel, rfl⟩
set_option maxRecDepth 20000 in
theorem dX12_readClause_181 : decode cX12_readClause 181 = .ok (.getfield 30, 3) ∧ 181 + 3 = 184 := ⟨by decide +kernel, rfl⟩
set_option maxRecDepth 20000 in
theorem dX12_readClause_184 : decode cX12_readClause 184 = .ok (.iload_n 2, 1) ∧ 184 + 1 = 185 := ⟨by decide +kernel, rfl⟩
set_option maxRecDepth 20000 in
theorem dX12_readClause_185 : decode cX12_readClause 185 = .ok (.bipush 6, 2) ∧ 185 + 2 = 187 := ⟨by decide +kernel, rfl⟩
set_option maxRecDepth 20000 in
theorem dX12_readClause_187 : decode cX12_readClause 187 = .ok (.iadd, 1) ∧ 187 + 1 = 188 := ⟨by decide +kernel, rfl⟩
set_option maxRecDepth 20000 in
theorem dX12_readClause_188 : decode cX12_readClause 188 = .ok (.aload_n 0, 1) ∧ 188 + 1 = 189 := ⟨by decide +kernel, rfl⟩
set_option maxRecDepth 20000 in
theorem dX12_readClause_189 : decode cX12_readClause 189 = .ok (.getfield 233, 3) ∧ 189 + 3 = 192 := ⟨by decide +kernel, rfl⟩
set_option maxRecDepth 20000 in
theorem dX12_readClause_192 : decode cX12_readClause 192 = .ok (.iastore, 1) ∧ 192 + 1 = 193 := ⟨by decide +kernel, rfl⟩
set_option maxRecDepth 20000 in
theorem dX12_readClause_193 : decode cX12_readClause 193 = .ok (.return_, 1) := by decide +kernel
set_option maxRecDepth 20000 in
theorem dX12_law_0 : decode cX12_law 0 = .ok (.aload_n 0, 1) ∧ 0 + 1 = 1 := ⟨by decide +kernel, rfl⟩
set_option maxRecDepth 20000 in
theorem dX12_law_1 : decode cX12_law 1 = .ok (.iconst 0, 1) ∧ 1 + 1 = 2 := ⟨by decide +kernel, rfl⟩
set_option maxRecDepth 20000 in
theorem dX12_law_2 : decode cX12_law 2 = .ok (.putfield 124, 3) ∧ 2 + 3 = 5 := ⟨by decide +kernel, rfl⟩
set_option maxRecDepth 20000 in
theorem dX12_law_5 : decode cX12_law 5 = .ok (.aload_n 0, 1) ∧ 5 + 1 = 6 := ⟨by decide +kernel, rfl⟩
set_option maxRecDepth 20000 in
theorem dX12_law_6 : decode cX12_law 6 = .ok (.getfield 13, 3) ∧ 6 + 3 = 9 := ⟨by decide +kernel, rfl⟩
set_option maxRecDepth 20000 in
theorem dX12_law_9 : decode cX12_law 9 = .ok (.iconst 2, 1) ∧ 9 + 1 = 10 := ⟨by decide +kernel, rfl⟩
set_option maxRecDepth 20000 in
theorem dX12_law_10 : decode cX12_law 10 = .ok (.iaload, 1) ∧ 10 + 1 = 11 := ⟨by decide +kernel, rfl⟩
set_option maxRecDepth 20000 in
theorem dX12_law_11 : decode cX12_law 11 = .ok (.bipush 6, 2) ∧ 11 + 2 = 13 := ⟨by decide +kernel, rfl⟩
set_option maxRecDepth 20000 in
theorem dX12_law_13 : decode cX12_law 13 = .ok (.if_icmp .ne 15, 3) ∧ 13 + 3 = 16 ∧ ((13 : Nat) : Int) + (15) = ((28 : Nat) : Int) := ⟨by decide +kernel, rfl, by decide⟩
set_option maxRecDepth 20000 in
theorem dX12_law_16 : decode cX12_law 16 = .ok (.aload_n 0, 1) ∧ 16 + 1 = 17 := ⟨by decide +kernel, rfl⟩
set_option maxRecDepth 20000 in
theorem dX12_law_17 : decode cX12_law 17 = .ok (.iconst 0, 1) ∧ 17 + 1 = 18 := ⟨by decide +kernel, rfl⟩
set_option maxRecDepth 20000 in
theorem dX12_law_18 : decode cX12_law 18 = .ok (.putfield 184, 3) ∧ 18 + 3 = 21 := ⟨by decide +kernel, rfl⟩
set_option maxRecDepth 20000 in
theorem dX12_law_21 : decode cX12_law 21 = .ok (.aload_n 0, 1) ∧ 21 + 1 = 22 := ⟨by decide +kernel, rfl⟩
set_option maxRecDepth 20000 in
theorem dX12_law_22 : decode cX12_law 22 = .ok (.bipush (-5), 2) ∧ 22 + 2 = 24 := ⟨by decide +kernel, rfl⟩
set_option maxRecDepth 20000 in
theorem dX12_law_24 : decode cX12_law 24 = .ok (.invokevirtual 138, 3) ∧ 24 + 3 = 27 := ⟨by decide +kernel, rfl⟩
set_option maxRecDepth 20000 in
theorem dX12_law_27 : decode cX12_law 27 = .ok (.ireturn, 1) := by decide +kernel
set_option maxRecDepth 20000 in
theorem dX12_law_28 : decode cX12_law 28 = .ok (.aload_n 0, 1) ∧ 28 + 1 = 29 := ⟨by decide +kernel, rfl⟩
set_option maxRecDepth 20000 in
theorem dX12_law_29 : decode cX12_law 29 = .ok (.invokevirtual 318, 3) ∧ 29 + 3 = 32 := ⟨by decide +kernel, rfl⟩
set_option maxRecDepth 20000 in
theorem dX12_law_32 : decode cX12_law 32 = .ok (.aload_n 0, 1) ∧ 32 + 1 = 33 := ⟨by decide +kernel, rfl⟩
set_option maxRecDepth 20000 in
theorem dX12_law_33 : decode cX12_law 33 = .ok (.iconst 0, 1) ∧ 33 + 1 = 34 := ⟨by decide +kernel, rfl⟩
set_option maxRecDepth 20000 in
theorem dX12_law_34 : decode cX12_law 34 = .ok (.putfield 310, 3) ∧ 34 + 3 = 37 := ⟨by decide +kernel, rfl⟩
set_option maxRecDepth 20000 in
theorem dX12_law_37 : decode cX12_law 37 = .ok (.aload_n 0, 1) ∧ 37 + 1 = 38 := ⟨by decide +kernel, rfl⟩
set_option maxRecDepth 20000 in
theorem dX12_law_38 : decode cX12_law 38 = .ok (.iconst 0, 1) ∧ 38 + 1 = 39 := ⟨by decide +kernel, rfl⟩
set_option maxRecDepth 20000 in
theorem dX12_law_39 : decode cX12_law 39 = .ok (.putfield 233, 3) ∧ 39 + 3 = 42 := ⟨by decide +kernel, rfl⟩
set_option maxRecDepth 20000 in
theorem dX12_law_42 : decode cX12_law 42 = .ok (.aload_n 0, 1) ∧ 42 + 1 = 43 := ⟨by decide +kernel, rfl⟩
set_option maxRecDepth 20000 in
theorem dX12_law_43 : decode cX12_law 43 = .ok (.iconst 0, 1) ∧ 43 + 1 = 44 := ⟨by decide +kernel, rfl⟩
set_option maxRecDepth 20000 in
theorem dX12_law_44 : decode cX12_law 44 = .ok (.putfield 262, 3) ∧ 44 + 3 = 47 := ⟨by decide +kernel, rfl⟩
set_option maxRecDepth 20000 in
theorem dX12_law_47 : decode cX12_law 47 = .ok (.aload_n 0, 1) ∧ 47 + 1 = 48 := ⟨by decide +kernel, rfl⟩
set_option maxRecDepth 20000 in
theorem dX12_law_48 : decode cX12_law 48 = .ok (.invokevirtual 321, 3) ∧ 48 + 3 = 51 := ⟨by decide +kernel, rfl⟩
set_option maxRecDepth 20000 in
theorem dX12_law_51 : decode cX12_law 51 = .ok (.aload_n 0, 1) ∧ 51 + 1 = 52 := ⟨by decide +kernel, rfl⟩
set_option maxRecDepth 20000 in
theorem dX12_law_52 : decode cX12_law 52 = .ok (.getfield 194, 3) ∧ 52 + 3 = 55 := ⟨by decide +kernel, rfl⟩
set_option maxRecDepth 20000 in
theorem dX12_law_55 : decode cX12_law 55 = .ok (.ifCond .ne 23, 3) ∧ 55 + 3 = 58 ∧ ((55 : Nat) : Int) + (23) = ((78 : Nat) : Int) := ⟨by decide +kernel, rfl, by decide⟩
set_option maxRecDepth 20000 in
theorem dX12_law_58 : decode cX12_law 58 = .ok (.aload_n 0, 1) ∧ 58 + 1 = 59 := ⟨by decide +kernel, rfl⟩
set_option maxRecDepth 20000 in
theorem dX12_law_59 : decode cX12_law 59 = .ok (.bipush 59, 2) ∧ 59 + 2 = 61 := ⟨by decide +kernel, rfl⟩
set_option maxRecDepth 20000 in
theorem dX12_law_61 : decode cX12_law 61 = .ok (.invokevirtual 265, 3) ∧ 61 + 3 = 64 := ⟨by decide +kernel, rfl⟩
set_option maxRecDepth 20000 in
theorem dX12_law_64 : decode cX12_law 64 = .ok (.ifCond .eq 14, 3) ∧ 64 + 3 = 67 ∧ ((64 : Nat) : Int) + (14) = ((78 : Nat) : Int) := ⟨by decide +kernel, rfl, by decide⟩
set_option maxRecDepth 20000 in
theorem dX12_law_67 : decode cX12_law 67 = .ok (.aload_n 0, 1) ∧ 67 + 1 = 68 := ⟨by decide +kernel, rfl⟩
set_option maxRecDepth 20000 in
theorem dX12_law_68 : decode cX12_law 68 = .ok (.invokevirtual 198, 3) ∧ 68 + 3 = 71 := ⟨by decide +kernel, rfl⟩
set_option maxRecDepth 20000 in
theorem dX12_law_71 : decode cX12_law 71 = .ok (.aload_n 0, 1) ∧ 71 + 1 = 72 := ⟨by decide +kernel, rfl⟩
set_option maxRecDepth 20000 in
theorem dX12_law_72 : decode cX12_law 72 = .ok (.invokevirtual 321, 3) ∧ 72 + 3 = 75 := ⟨by decide +kernel, rfl⟩
set_option maxRecDepth 20000 in
theorem dX12_law_75 : decode cX12_law 75 = .ok (.goto (-24), 3) ∧ ((75 : Nat) : Int) + (-24) = ((51 : Nat) : Int) := ⟨by decide +kernel, by decide⟩
set_option maxRecDepth 20000 in
theorem dX12_law_78 : decode cX12_law 78 = .ok (.aload_n 0, 1) ∧ 78 + 1 = 79 := ⟨by decide +kernel, rfl⟩
set_option maxRecDepth 20000 in
theorem dX12_law_79 : decode cX12_law 79 = .ok (.getfield 194, 3) ∧ 79 + 3 = 82 := ⟨by decide +kernel, rfl⟩
set_option maxRecDepth 20000 in
theorem dX12_law_82 : decode cX12_law 82 = .ok (.ifCond .ne 15, 3) ∧ 82 + 3 = 85 ∧ ((82 : Nat) : Int) + (15) = ((97 : Nat) : Int) := ⟨by decide +kernel, rfl, by decide⟩
set_option maxRecDepth 20000 in
theorem dX12_law_85 : decode cX12_law 85 = .ok (.aload_n 0, 1) ∧ 85 + 1 = 86 := ⟨by decide +kernel, rfl⟩
set_option maxRecDepth 20000 in
theorem dX12_law_86 : decode cX12_law 86 = .ok (.getfield 214, 3) ∧ 86 + 3 = 89 := ⟨by decide +kernel, rfl⟩
set_option maxRecDepth 20000 in
theorem dX12_law_89 : decode cX12_law 89 = .ok (.ifCond .eq 8, 3) ∧ 89 + 3 = 92 ∧ ((89 : Nat) : Int) + (8) = ((97 : Nat) : Int) := ⟨by decide +kernel, rfl, by decide⟩
set_option maxRecDepth 20000 in
theorem dX12_law_92 : decode cX12_law 92 = .ok (.aload_n 0, 1) ∧ 92 + 1 = 93 := ⟨by decide +kernel, rfl⟩
set_option maxRecDepth 20000 in
theorem dX12_law_93 : decode cX12_law 93 = .ok (.iconst 0, 1) ∧ 93 + 1 = 94 := ⟨by decide +kernel, rfl⟩
set_option maxRecDepth 20000 in
theorem dX12_law_94 : decode cX12_law 94 = .ok (.invokevirtual 229, 3) ∧ 94 + 3 = 97 := ⟨by decide +kernel, rfl⟩
set_option maxRecDepth 20000 in
theorem dX12_law_97 : decode cX12_law 97 = .ok (.aload_n 0, 1) ∧ 97 + 1 = 98 := ⟨by decide +kernel, rfl⟩
set_option maxRecDepth 20000 in
theorem dX12_law_98 : decode cX12_law 98 = .ok (.iconst 0, 1) ∧ 98 + 1 = 99 := ⟨by decide +kernel, rfl⟩
set_option maxRecDepth 20000 in
theorem dX12_law_99 : decode cX12_law 99 = .ok (.putfield 184, 3) ∧ 99 + 3 = 102 := ⟨by decide +kernel, rfl⟩
set_option maxRecDepth 20000 in
theorem dX12_law_102 : decode cX12_law 102 = .ok (.aload_n 0, 1) ∧ 102 + 1 = 103 := ⟨by decide +kernel, rfl⟩
set_option maxRecDepth 20000 in
theorem dX12_law_103 : decode cX12_law 103 = .ok (.getfield 194, 3) ∧ 103 + 3 = 106 := ⟨by decide +kernel, rfl⟩
set_option maxRecDepth 20000 in
theorem dX12_law_106 : decode cX12_law 106 = .ok (.ifCond .eq 10, 3) ∧ 106 + 3 = 109 ∧ ((106 : Nat) : Int) + (10) = ((116 : Nat) : Int) := ⟨by decide +kernel, rfl, by decide⟩
set_option maxRecDepth 20000 in
theorem dX12_law_109 : decode cX12_law 109 = .ok (.aload_n 0, 1) ∧ 109 + 1 = 110 := ⟨by decide +kernel, rfl⟩
set_option maxRecDepth 20000 in
theorem dX12_law_110 : decode cX12_law 110 = .ok (.bipush (-6), 2) ∧ 110 + 2 = 112 := ⟨by decide +kernel, rfl⟩
set_option maxRecDepth 20000 in
theorem dX12_law_112 : decode cX12_law 112 = .ok (.invokevirtual 138, 3) ∧ 112 + 3 = 115 := ⟨by decide +kernel, rfl⟩
set_option maxRecDepth 20000 in
theorem dX12_law_115 : decode cX12_law 115 = .ok (.ireturn, 1) := by decide +kernel
set_option maxRecDepth 20000 in
theorem dX12_law_116 : decode cX12_law 116 = .ok (.sipush 170, 3) ∧ 116 + 3 = 119 := ⟨by decide +kernel, rfl⟩
set_option maxRecDepth 20000 in
theorem dX12_law_119 : decode cX12_law 119 = .ok (.sipush 900, 3) ∧ 119 + 3 = 122 := ⟨by decide +kernel, rfl⟩
set_option maxRecDepth 20000 in
theorem dX12_law_122 : decode cX12_law 122 = .ok (.aload_n 0, 1) ∧ 122 + 1 = 123 := ⟨by decide +kernel, rfl⟩
set_option maxRecDepth 20000 in
theorem dX12_law_123 : decode cX12_law 123 = .ok (.getfield 13, 3) ∧ 123 + 3 = 126 := ⟨by decide +kernel, rfl⟩
set_option maxRecDepth 20000 in
theorem dX12_law_126 : decode cX12_law 126 = .ok (.iconst 2, 1) ∧ 126 + 1 = 127 := ⟨by decide +kernel, rfl⟩
set_option maxRecDepth 20000 in
theorem dX12_law_127 : decode cX12_law 127 = .ok (.iaload, 1) ∧ 127 + 1 = 128 := ⟨by decide +kernel, rfl⟩
set_option maxRecDepth 20000 in
theorem dX12_law_128 : decode cX12_law 128 = .ok (.imul, 1) ∧ 128 + 1 = 129 := ⟨by decide +kernel, rfl⟩
set_option maxRecDepth 20000 in
theorem dX12_law_129 : decode cX12_law 129 = .ok (.iadd, 1) ∧ 129 + 1 = 130 := ⟨by decide +kernel, rfl⟩
set_option maxRecDepth 20000 in
theorem dX12_law_130 : decode cX12_law 130 = .ok (.istore_n 1, 1) ∧ 130 + 1 = 131 := ⟨by decide +kernel, rfl⟩
set_option maxRecDepth 20000 in
theorem dX12_law_131 : decode cX12_law 131 = .ok (.aload_n 0, 1) ∧ 131 + 1 = 132 := ⟨by decide +kernel, rfl⟩
set_option maxRecDepth 20000 in
theorem dX12_law_132 : decode cX12_law 132 = .ok (.getfield 13, 3) ∧ 132 + 3 = 135 := ⟨by decide +kernel, rfl⟩
set_option maxRecDepth 20000 in
theorem dX12_law_135 : decode cX12_law 135 = .ok (.iload_n 1, 1) ∧ 135 + 1 = 136 := ⟨by decide +kernel, rfl⟩
set_option maxRecDepth 20000 in
theorem dX12_law_136 : decode cX12_law 136 = .ok (.iconst 1, 1) ∧ 136 + 1 = 137 := ⟨by decide +kernel, rfl⟩
set_option maxRecDepth 20000 in
theorem dX12_law_137 : decode cX12_law 137 = .ok (.iadd, 1) ∧ 137 + 1 = 138 := ⟨by decide +kernel, rfl⟩
set_option maxRecDepth 20000 in
theorem dX12_law_138 : decode cX12_law 138 = .ok (.aload_n 0, 1) ∧ 138 + 1 = 139 := ⟨by decide +kernel, rfl⟩
set_option maxRecDepth 20000 in
theorem dX12_law_139 : decode cX12_law 139 = .ok (.getfield 310, 3) ∧ 139 + 3 = 142 := ⟨by decide +kernel, rfl⟩
set_option maxRecDepth 20000 in
theorem dX12_law_142 : decode cX12_law 142 = .ok (.iastore, 1) ∧ 142 + 1 = 143 := ⟨by decide +kernel, rfl⟩
set_option maxRecDepth 20000 in
theorem dX12_law_143 : decode cX12_law 143 = .ok (.iconst 0, 1) ∧ 143 + 1 = 144 := ⟨by decide +kernel, rfl⟩
set_option maxRecDepth 20000 in
theorem dX12_law_144 : decode cX12_law 144 = .ok (.istore_n 2, 1) ∧ 144 + 1 = 145 := ⟨by decide +kernel, rfl⟩
set_option maxRecDepth 20000 in
theorem dX12_law_145 : decode cX12_law 145 = .ok (.iload_n 2, 1) ∧ 145 + 1 = 146 := ⟨by decide +kernel, rfl⟩
set_option maxRecDepth 20000 in
theorem dX12_law_146 : decode cX12_law 146 = .ok (.bipush 8, 2) ∧ 146 + 2 = 148 := ⟨by decide +kernel, rfl⟩
set_option maxRecDepth 20000 in
theorem dX12_law_148 : decode cX12_law 148 = .ok (.aload_n 0, 1) ∧ 148 + 1 = 149 := ⟨by decide +kernel, rfl⟩
set_option maxRecDepth 20000 in
theorem dX12_law_149 : decode cX12_law 149 = .ok (.getfield 310, 3) ∧ 149 + 3 = 152 := ⟨by decide +kernel, rfl⟩
set_option maxRecDepth 20000 in
theorem dX12_law_152 : decode cX12_law 152 = .ok (.imul, 1) ∧ 152 + 1 = 153 := ⟨by decide +kernel, rfl⟩
set_option maxRecDepth 20000 in
theorem dX12_law_153 : decode cX12_law 153 = .ok (.if_icmp .ge 25, 3) ∧ 153 + 3 = 156 ∧ ((153 : Nat) : Int) + (25) = ((178 : Nat) : Int) := ⟨by decide +kernel, rfl, by decide⟩
set_option maxRecDepth 20000 in
theorem dX12_law_156 : decode cX12_law 156 = .ok (.aload_n 0, 1) ∧ 156 + 1 = 157 := ⟨by decide +kernel, rfl⟩
set_option maxRecDepth 20000 in
theorem dX12_law_157 : decode cX12_law 157 = .ok (.getfield 13, 3) ∧ 157 + 3 = 160 := ⟨by decide +kernel, rfl⟩
set_option maxRecDepth 20000 in
theorem dX12_law_160 : decode cX12_law 160 = .ok (.iload_n 1, 1) ∧ 160 + 1 = 161 := ⟨by decide +kernel, rfl⟩
set_option maxRecDepth 20000 in
theorem dX12_law_161 : decode cX12_law 161 = .ok (.iconst 2, 1) ∧ 161 + 1 = 162 := ⟨by decide +kernel, rfl⟩
set_option maxRecDepth 20000 in
theorem dX12_law_162 : decode cX12_law 162 = .ok (.iadd, 1) ∧ 162 + 1 = 163 := ⟨by decide +kernel, rfl⟩
set_option maxRecDepth 20000 in
theorem dX12_law_163 : decode cX12_law 163 = .ok (.iload_n 2, 1) ∧ 163 + 1 = 164 := ⟨by decide +kernel, rfl⟩
set_option maxRecDepth 20000 in
theorem dX12_law_164 : decode cX12_law 164 = .ok (.iadd, 1) ∧ 164 + 1 = 165 := ⟨by decide +kernel, rfl⟩
set_option maxRecDepth 20000 in
theorem dX12_law_165 : decode cX12_law 165 = .ok (.aload_n 0, 1) ∧ 165 + 1 = 166 := ⟨by decide +kernel, rfl⟩
set_option maxRecDepth 20000 in
theorem dX12_law_166 : decode cX12_law 166 = .ok (.getfield 30, 3) ∧ 166 + 3 = 169 := ⟨by decide +kernel, rfl⟩
set_option maxRecDepth 20000 in
theorem dX12_law_169 : decode cX12_law 169 = .ok (.iload_n 2, 1) ∧ 169 + 1 = 170 := ⟨by decide +kernel, rfl⟩
set_option maxRecDepth 20000 in
theorem dX12_law_170 : decode cX12_law 170 = .ok (.iaload, 1) ∧ 170 + 1 = 171 := ⟨by decide +kernel, rfl⟩
set_option maxRecDepth 20000 in
theorem dX12_law_171 : decode cX12_law 171 = .ok (.iastore, 1) ∧ 171 + 1 = 172 := ⟨by decide +kernel, rfl⟩
set_option maxRecDepth 20000 in
theorem dX12_law_172 : decode cX12_law 172 = .ok (.iinc 2 1, 3) ∧ 172 + 3 = 175 := ⟨by decide +kernel, rfl⟩
set_option maxRecDepth 20000 in
theorem dX12_law_175 : decode cX12_law 175 = .ok (.goto (-30), 3) ∧ ((175 : Nat) : Int) + (-30) = ((145 : Nat) : Int) := ⟨by decide +kernel, by decide⟩
set_option maxRecDepth 20000 in
theorem dX12_law_178 : decode cX12_law 178 = .ok (.iconst 0, 1) ∧ 178 + 1 = 179 := ⟨by decide +kernel, rfl⟩
set_option maxRecDepth 20000 in
theorem dX12_law_179 : decode cX12_law 179 = .ok (.istore_n 2, 1) ∧ 179 + 1 = 180 := ⟨by decide +kernel, rfl⟩
set_option maxRecDepth 20000 in
theorem dX12_law_180 : decode cX12_law 180 = .ok (.iload_n 2, 1) ∧ 180 + 1 = 181 := ⟨by decide +kernel, rfl⟩
set_option maxRecDepth 20000 in
theorem dX12_law_181 : decode cX12_law 181 = .ok (.aload_n 0, 1) ∧ 181 + 1 = 182 := ⟨by decide +kernel, rfl⟩
set_option maxRecDepth 20000 in
theorem dX12_law_182 : decode cX12_law 182 = .ok (.getfield 233, 3) ∧ 182 + 3 = 185 := ⟨by decide +kernel, rfl⟩
set_option maxRecDepth 20000 in
theorem dX12_law_185 : decode cX12_law 185 = .ok (.if_icmp .ge 49, 3) ∧ 185 + 3 = 188 ∧ ((185 : Nat) : Int) + (49) = ((234 : Nat) : Int) := ⟨by decide +kernel, rfl, by decide⟩
set_option maxRecDepth 20000 in
theorem dX12_law_188 : decode cX12_law 188 = .ok (.aload_n 0, 1) ∧ 188 + 1 = 189 := ⟨by decide +kernel, rfl⟩
set_option maxRecDepth 20000 in
theorem dX12_law_189 : decode cX12_law 189 = .ok (.getfield 13, 3) ∧ 189 + 3 = 192 := ⟨by decide +kernel, rfl⟩
set_option maxRecDepth 20000 in
theorem dX12_law_192 : decode cX12_law 192 = .ok (.iload_n 1, 1) ∧ 192 + 1 = 193 := ⟨by decide +kernel, rfl⟩
set_option maxRecDepth 20000 in
theorem dX12_law_193 : decode cX12_law 193 = .ok (.bipush 98, 2) ∧ 193 + 2 = 195 := ⟨by decide +kernel, rfl⟩
set_option maxRecDepth 20000 in
theorem dX12_law_195 : decode cX12_law 195 = .ok (.iadd, 1) ∧ 195 + 1 = 196 := ⟨by decide +kernel, rfl⟩
set_option maxRecDepth 20000 in
theorem dX12_law_196 : decode cX12_law 196 = .ok (.iconst 2, 1) ∧ 196 + 1 = 197 := ⟨by decide +kernel, rfl⟩
set_option maxRecDepth 20000 in
theorem dX12_law_197 : decode cX12_law 197 = .ok (.iload_n 2, 1) ∧ 197 + 1 = 198 := ⟨by decide +kernel, rfl⟩
set_option maxRecDepth 20000 in
theorem dX12_law_198 : decode cX12_law 198 = .ok (.imul, 1) ∧ 198 + 1 = 199 := ⟨by decide +kernel, rfl⟩
set_option maxRecDepth 20000 in
theorem dX12_law_199 : decode cX12_law 199 = .ok (.iadd, 1) ∧ 199 + 1 = 200 := ⟨by decide +kernel, rfl⟩
set_option maxRecDepth 20000 in
theorem dX12_law_200 : decode cX12_law 200 = .ok (.aload_n 0, 1) ∧ 200 + 1 = 201 := ⟨by decide +kernel, rfl⟩
set_option maxRecDepth 20000 in
theorem dX12_law_201 : decode cX12_law 201 = .ok (.getfield 33, 3) ∧ 201 + 3 = 204 := ⟨by decide +kernel, rfl⟩
set_option maxRecDepth 20000 in
theorem dX12_law_204 : decode cX12_law 204 = .ok (.iload_n 2, 1) ∧ 204 + 1 = 205 := ⟨by decide +kernel, rfl⟩
set_option maxRecDepth 20000 in
theorem dX12_law_205 : decode cX12_law 205 = .ok (.iaload, 1) ∧ 205 + 1 = 206 := ⟨by decide +kernel, rfl⟩
set_option maxRecDepth 20000 in
theorem dX12_law_206 : decode cX12_law 206 = .ok (.iastore, 1) ∧ 206 + 1 = 207 := ⟨by decide +kernel, rfl⟩
set_option maxRecDepth 20000 in
theorem dX12_law_207 : decode cX12_law 207 = .ok (.aload_n 0, 1) ∧ 207 + 1 = 208 := ⟨by decide +kernel, rfl⟩
set_option maxRecDepth 20000 in
theorem dX12_law_208 : decode cX12_law 208 = .ok (.getfield 13, 3) ∧ 208 + 3 = 211 := ⟨by decide +kernel, rfl⟩
set_option maxRecDepth 20000 in
theorem dX12_law_211 : decode cX12_law 211 = .ok (.iload_n 1, 1) ∧ 211 + 1 = 212 := ⟨by decide +kernel, rfl⟩
set_option maxRecDepth 20000 in
theorem dX12_law_212 : decode cX12_law 212 = .ok (.bipush 98, 2) ∧ 212 + 2 = 214 := ⟨by decide +kernel, rfl⟩
set_option maxRecDepth 20000 in
theorem dX12_law_214 : decode cX12_law 214 = .ok (.iadd, 1) ∧ 214 + 1 = 215 := ⟨by decide +kernel, rfl⟩
set_option maxRecDepth 20000 in
theorem dX12_law_215 : decode cX12_law 215 = .ok (.iconst 2, 1) ∧ 215 + 1 = 216 := ⟨by decide +kernel, rfl⟩
set_option maxRecDepth 20000 in
theorem dX12_law_216 : decode cX12_law 216 = .ok (.iload_n 2, 1) ∧ 216 + 1 = 217 := ⟨by decide +kernel, rfl⟩
set_option maxRecDepth 20000 in
theorem dX12_law_217 : decode cX12_law 217 = .ok (.imul, 1) ∧ 217 + 1 = 218 := ⟨by decide +kernel, rfl⟩
set_option maxRecDepth 20000 in
theorem dX12_law_218 : decode cX12_law 218 = .ok (.iadd, 1) ∧ 218 + 1 = 219 := ⟨by decide +kernel, rfl⟩
set_option maxRecDepth 20000 in
theorem dX12_law_219 : decode cX12_law 219 = .ok (.iconst 1, 1) ∧ 219 + 1 = 220 := ⟨by decide +kernel, rfl⟩
set_option maxRecDepth 20000 in
theorem dX12_law_220 : decode cX12_law 220 = .ok (.iadd, 1) ∧ 220 + 1 = 221 := ⟨by decide +kernel, rfl⟩
set_option maxRecDepth 20000 in
theorem dX12_law_221 : decode cX12_law 221 = .ok (.aload_n 0, 1) ∧ 221 + 1 = 222 := ⟨by decide +kernel, rfl⟩
set_option maxRecDepth 20000 in
theorem dX12_law_222 : decode cX12_law 222 = .ok (.getfield 36, 3) ∧ 222 + 3 = 225 := ⟨by decide +kernel, rfl⟩
set_option maxRecDepth 20000 in
theorem dX12_law_225 : decode cX12_law 225 = .ok (.iload_n 2, 1) ∧ 225 + 1 = 226 := ⟨by decide +kernel, rfl⟩
set_option maxRecDepth 20000 in
theorem dX12_law_226 : decode cX12_law 226 = .ok (.iaload, 1) ∧ 226 + 1 = 227 := ⟨by decide +kernel, rfl⟩
set_option maxRecDepth 20000 in
theorem dX12_law_227 : decode cX12_law 227 = .ok (.iastore, 1) ∧ 227 + 1 = 228 := ⟨by decide +kernel, rfl⟩
set_option maxRecDepth 20000 in
theorem dX12_law_228 : decode cX12_law 228 = .ok (.iinc 2 1, 3) ∧ 228 + 3 = 231 := ⟨by decide +kernel, rfl⟩
set_option maxRecDepth 20000 in
theorem dX12_law_231 : decode cX12_law 231 = .ok (.goto (-51), 3) ∧ ((231 : Nat) : Int) + (-51) = ((180 : Nat) : Int) := ⟨by decide +kernel, by decide⟩
set_option maxRecDepth 20000 in
theorem dX12_law_234 : decode cX12_law 234 = .ok (.aload_n 0, 1) ∧ 234 + 1 = 235 := ⟨by decide +kernel, rfl⟩
set_option maxRecDepth 20000 in
theorem dX12_law_235 : decode cX12_law 235 = .ok (.getfield 13, 3) ∧ 235 + 3 = 238 := ⟨by decide +kernel, rfl⟩
set_option maxRecDepth 20000 in
theorem dX12_law_238 : decode cX12_law 238 = .ok (.iconst 2, 1) ∧ 238 + 1 = 239 := ⟨by decide +kernel, rfl⟩
set_option maxRecDepth 20000 in
theorem dX12_law_239 : decode cX12_law 239 = .ok (.dup2, 1) ∧ 239 + 1 = 240 := ⟨by decide +kernel, rfl⟩
set_option maxRecDepth 20000 in
theorem dX12_law_240 : decode cX12_law 240 = .ok (.iaload, 1) ∧ 240 + 1 = 241 := ⟨by decide +kernel, rfl⟩
set_option maxRecDepth 20000 in
theorem dX12_law_241 : decode cX12_law 241 = .ok (.iconst 1, 1) ∧ 241 + 1 = 242 := ⟨by decide +kernel, rfl⟩
set_option maxRecDepth 20000 in
theorem dX12_law_242 : decode cX12_law 242 = .ok (.iadd, 1) ∧ 242 + 1 = 243 := ⟨by decide +kernel, rfl⟩
set_option maxRecDepth 20000 in
theorem dX12_law_243 : decode cX12_law 243 = .ok (.iastore, 1) ∧ 243 + 1 = 244 := ⟨by decide +kernel, rfl⟩
set_option maxRecDepth 20000 in
theorem dX12_law_244 : decode cX12_law 244 = .ok (.aload_n 0, 1) ∧ 244 + 1 = 245 := ⟨by decide +kernel, rfl⟩
set_option maxRecDepth 20000 in
theorem dX12_law_245 : decode cX12_law 245 = .ok (.aload_n 0, 1) ∧ 245 + 1 = 246 := ⟨by decide +kernel, rfl⟩
set_option maxRecDepth 20000 in
theorem dX12_law_246 : decode cX12_law 246 = .ok (.getfield 13, 3) ∧ 246 + 3 = 249 := ⟨by decide +kernel, rfl⟩
set_option maxRecDepth 20000 in
theorem dX12_law_249 : decode cX12_law 249 = .ok (.iconst 2, 1) ∧ 249 + 1 = 250 := ⟨by decide +kernel, rfl⟩
set_option maxRecDepth 20000 in
theorem dX12_law_250 : decode cX12_law 250 = .ok (.iaload, 1) ∧ 250 + 1 = 251 := ⟨by decide +kernel, rfl⟩
set_option maxRecDepth 20000 in
theorem dX12_law_251 : decode cX12_law 251 = .ok (.iconst 1, 1) ∧ 251 + 1 = 252 := ⟨by decide +kernel, rfl⟩
set_option maxRecDepth 20000 in
theorem dX12_law_252 : decode cX12_law 252 = .ok (.isub, 1) ∧ 252 + 1 = 253 := ⟨by decide +kernel, rfl⟩
set_option maxRecDepth 20000 in
theorem dX12_law_253 : decode cX12_law 253 = .ok (.invokevirtual 138, 3) ∧ 253 + 3 = 256 := ⟨by decide +kernel, rfl⟩
set_option maxRecDepth 20000 in
theorem dX12_law_256 : decode cX12_law 256 = .ok (.ireturn, 1) := by decide +kernel
set_option maxRecDepth 20000 in
theorem dX12_force_0 : decode cX12_force 0 = .ok (.aload_n 0, 1) ∧ 0 + 1 = 1 := ⟨by decide +kernel, rfl⟩
set_option maxRecDepth 20000 in
theorem dX12_force_1 : decode cX12_force 1 = .ok (.iconst 0, 1) ∧ 1 + 1 = 2 := ⟨by decide +kernel, rfl⟩
set_option maxRecDepth 20000 in
theorem dX12_force_2 : decode cX12_force 2 = .ok (.putfield 124, 3) ∧ 2 + 3 = 5 := ⟨by decide +kernel, rfl⟩
set_option maxRecDepth 20000 in
theorem dX12_force_5 : decode cX12_force 5 = .ok (.iload_n 1, 1) ∧ 5 + 1 = 6 := ⟨by decide +kernel, rfl⟩
set_option maxRecDepth 20000 in
theorem dX12_force_6 : decode cX12_force 6 = .ok (.iconst (-1), 1) ∧ 6 + 1 = 7 := ⟨by decide +kernel, rfl⟩
set_option maxRecDepth 20000 in
theorem dX12_force_7 : decode cX12_force 7 = .ok (.if_icmp .eq 21, 3) ∧ 7 + 3 = 10 ∧ ((7 : Nat) : Int) + (21) = ((28 : Nat) : Int) := ⟨by decide +kernel, rfl, by decide⟩
set_option maxRecDepth 20000 in
theorem dX12_force_10 : decode cX12_force 10 = .ok (.iload_n 1, 1) ∧ 10 + 1 = 11 := ⟨by decide +kernel, rfl⟩
set_option maxRecDepth 20000 in
theorem dX12_force_11 : decode cX12_force 11 = .ok (.i2l, 1) ∧ 11 + 1 = 12 := ⟨by decide +kernel, rfl⟩
set_option maxRecDepth 20000 in
theorem dX12_force_12 : decode cX12_force 12 = .ok (.lconst 0, 1) ∧ 12 + 1 = 13 := ⟨by decide +kernel, rfl⟩
set_option maxRecDepth 20000 in
theorem dX12_force_13 : decode cX12_force 13 = .ok (.aload_n 0, 1) ∧ 13 + 1 = 14 := ⟨by decide +kernel, rfl⟩
set_option maxRecDepth 20000 in
theorem dX12_force_14 : decode cX12_force 14 = .ok (.getfield 13, 3) ∧ 14 + 3 = 17 := ⟨by decide +kernel, rfl⟩
set_option maxRecDepth 20000 in
theorem dX12_force_17 : decode cX12_force 17 = .ok (.iconst 2, 1) ∧ 17 + 1 = 18 := ⟨by decide +kernel, rfl⟩
set_option maxRecDepth 20000 in
theorem dX12_force_18 : decode cX12_force 18 = .ok (.iaload, 1) ∧ 18 + 1 = 19 := ⟨by decide +kernel, rfl⟩
set_option maxRecDepth 20000 in
theorem dX12_force_19 : decode cX12_force 19 = .ok (.i2l, 1) ∧ 19 + 1 = 20 := ⟨by decide +kernel, rfl⟩
set_option maxRecDepth 20000 in
theorem dX12_force_20 : decode cX12_force 20 = .ok (.lconst 1, 1) ∧ 20 + 1 = 21 := ⟨by decide +kernel, rfl⟩
set_option maxRecDepth 20000 in
theorem dX12_force_21 : decode cX12_force 21 = .ok (.lsub, 1) ∧ 21 + 1 = 22 := ⟨by decide +kernel, rfl⟩
set_option maxRecDepth 20000 in
theorem dX12_force_22 : decode cX12_force 22 = .ok (.invokestatic 134, 3) ∧ 22 + 3 = 25 := ⟨by decide +kernel, rfl⟩
set_option maxRecDepth 20000 in
theorem dX12_force_25 : decode cX12_force 25 = .ok (.ifCond .eq 12, 3) ∧ 25 + 3 = 28 ∧ ((25 : Nat) : Int) + (12) = ((37 : Nat) : Int) := ⟨by decide +kernel, rfl, by decide⟩
set_option maxRecDepth 20000 in
theorem dX12_force_28 : decode cX12_force 28 = .ok (.aload_n 0, 1) ∧ 28 + 1 = 29 := ⟨by decide +kernel, rfl⟩
set_option maxRecDepth 20000 in
theorem dX12_force_29 : decode cX12_force 29 = .ok (.iconst 3, 1) ∧ 29 + 1 = 30 := ⟨by decide +kernel, rfl⟩
set_option maxRecDepth 20000 in
theorem dX12_force_30 : decode cX12_force 30 = .ok (.iload_n 1, 1) ∧ 30 + 1 = 31 := ⟨by decide +kernel, rfl⟩
set_option maxRecDepth 20000 in
theorem dX12_force_31 : decode cX12_force 31 = .ok (.invokevirtual 157, 3) ∧ 31 + 3 = 34 := ⟨by decide +kernel, rfl⟩
set_option maxRecDepth 20000 in
theorem dX12_force_34 : decode cX12_force 34 = .ok (.goto 9, 3) ∧ ((34 : Nat) : Int) + (9) = ((43 : Nat) : Int) := ⟨by decide +kernel, by decide⟩
set_option maxRecDepth 20000 in
theorem dX12_force_37 : decode cX12_force 37 = .ok (.aload_n 0, 1) ∧ 37 + 1 = 38 := ⟨by decide +kernel, rfl⟩
set_option maxRecDepth 20000 in
theorem dX12_force_38 : decode cX12_force 38 = .ok (.bipush (-2), 2) ∧ 38 + 2 = 40 := ⟨by decide +kernel, rfl⟩
set_option maxRecDepth 20000 in
theorem dX12_force_40 : decode cX12_force 40 = .ok (.invokevirtual 138, 3) ∧ 40 + 3 = 43 := ⟨by decide +kernel, rfl⟩
set_option maxRecDepth 20000 in
theorem dX12_force_43 : decode cX12_force 43 = .ok (.ireturn, 1) := by decide +kernel
set_option maxRecDepth 20000 in
theorem dX12_reckon_0 : decode cX12_reckon 0 = .ok (.iload_n 1, 1) ∧ 0 + 1 = 1 := ⟨by decide +kernel, rfl⟩
set_option maxRecDepth 20000 in
theorem dX12_reckon_1 : decode cX12_reckon 1 = .ok (.tableswitch 112 20 25 #[39, 44, 49, 54, 86, 99], 39) := by decide +kernel
set_option maxRecDepth 20000 in
theorem dX12_reckon_40 : decode cX12_reckon 40 = .ok (.lload_n 2, 1) ∧ 40 + 1 = 41 := ⟨by decide +kernel, rfl⟩
set_option maxRecDepth 20000 in
theorem dX12_reckon_41 : decode cX12_reckon 41 = .ok (.lload 4, 2) ∧ 41 + 2 = 43 := ⟨by decide +kernel, rfl⟩
set_option maxRecDepth 20000 in
theorem dX12_reckon_43 : decode cX12_reckon 43 = .ok (.ladd, 1) ∧ 43 + 1 = 44 := ⟨by decide +kernel, rfl⟩
set_option maxRecDepth 20000 in
theorem dX12_reckon_44 : decode cX12_reckon 44 = .ok (.lreturn, 1) := by decide +kernel
set_option maxRecDepth 20000 in
theorem dX12_reckon_45 : decode cX12_reckon 45 = .ok (.lload_n 2, 1) ∧ 45 + 1 = 46 := ⟨by decide +kernel, rfl⟩
set_option maxRecDepth 20000 in
theorem dX12_reckon_46 : decode cX12_reckon 46 = .ok (.lload 4, 2) ∧ 46 + 2 = 48 := ⟨by decide +kernel, rfl⟩
set_option maxRecDepth 20000 in
theorem dX12_reckon_48 : decode cX12_reckon 48 = .ok (.lsub, 1) ∧ 48 + 1 = 49 := ⟨by decide +kernel, rfl⟩
set_option maxRecDepth 20000 in
theorem dX12_reckon_49 : decode cX12_reckon 49 = .ok (.lreturn, 1) := by decide +kernel
set_option maxRecDepth 20000 in
theorem dX12_reckon_50 : decode cX12_reckon 50 = .ok (.lload_n 2, 1) ∧ 50 + 1 = 51 := ⟨by decide +kernel, rfl⟩
set_option maxRecDepth 20000 in
theorem dX12_reckon_51 : decode cX12_reckon 51 = .ok (.lload 4, 2) ∧ 51 + 2 = 53 := ⟨by decide +kernel, rfl⟩
set_option maxRecDepth 20000 in
theorem dX12_reckon_53 : decode cX12_reckon 53 = .ok (.lmul, 1) ∧ 53 + 1 = 54 := ⟨by decide +kernel, rfl⟩
set_option maxRecDepth 20000 in
theorem dX12_reckon_54 : decode cX12_reckon 54 = .ok (.lreturn, 1) := by decide +kernel
set_option maxRecDepth 20000 in
theorem dX12_reckon_55 : decode cX12_reckon 55 = .ok (.aload_n 0, 1) ∧ 55 + 1 = 56 := ⟨by decide +kernel, rfl⟩
set_option maxRecDepth 20000 in
theorem dX12_reckon_56 : decode cX12_reckon 56 = .ok (.lload 4, 2) ∧ 56 + 2 = 58 := ⟨by decide +kernel, rfl⟩
set_option maxRecDepth 20000 in
theorem dX12_reckon_58 : decode cX12_reckon 58 = .ok (.lconst 0, 1) ∧ 58 + 1 = 59 := ⟨by decide +kernel, rfl⟩
set_option maxRecDepth 20000 in
theorem dX12_reckon_59 : decode cX12_reckon 59 = .ok (.lcmp, 1) ∧ 59 + 1 = 60 := ⟨by decide +kernel, rfl⟩
set_option maxRecDepth 20000 in
theorem dX12_reckon_60 : decode cX12_reckon 60 = .ok (.ifCond .ne 7, 3) ∧ 60 + 3 = 63 ∧ ((60 : Nat) : Int) + (7) = ((67 : Nat) : Int) := ⟨by decide +kernel, rfl, by decide⟩
set_option maxRecDepth 20000 in
theorem dX12_reckon_63 : decode cX12_reckon 63 = .ok (.iconst 1, 1) ∧ 63 + 1 = 64 := ⟨by decide +kernel, rfl⟩
set_option maxRecDepth 20000 in
theorem dX12_reckon_64 : decode cX12_reckon 64 = .ok (.goto 4, 3) ∧ ((64 : Nat) : Int) + (4) = ((68 : Nat) : Int) := ⟨by decide +kernel, by decide⟩
set_option maxRecDepth 20000 in
theorem dX12_reckon_67 : decode cX12_reckon 67 = .ok (.iconst 0, 1) ∧ 67 + 1 = 68 := ⟨by decide +kernel, rfl⟩
set_option maxRecDepth 20000 in
theorem dX12_reckon_68 : decode cX12_reckon 68 = .ok (.putfield 324, 3) ∧ 68 + 3 = 71 := ⟨by decide +kernel, rfl⟩
set_option maxRecDepth 20000 in
theorem dX12_reckon_71 : decode cX12_reckon 71 = .ok (.aload_n 0, 1) ∧ 71 + 1 = 72 := ⟨by decide +kernel, rfl⟩
set_option maxRecDepth 20000 in
theorem dX12_reckon_72 : decode cX12_reckon 72 = .ok (.getfield 324, 3) ∧ 72 + 3 = 75 := ⟨by decide +kernel, rfl⟩
set_option maxRecDepth 20000 in
theorem dX12_reckon_75 : decode cX12_reckon 75 = .ok (.ifCond .eq 7, 3) ∧ 75 + 3 = 78 ∧ ((75 : Nat) : Int) + (7) = ((82 : Nat) : Int) := ⟨by decide +kernel, rfl, by decide⟩
set_option maxRecDepth 20000 in
theorem dX12_reckon_78 : decode cX12_reckon 78 = .ok (.lconst 0, 1) ∧ 78 + 1 = 79 := ⟨by decide +kernel, rfl⟩
set_option maxRecDepth 20000 in
theorem dX12_reckon_79 : decode cX12_reckon 79 = .ok (.goto 7, 3) ∧ ((79 : Nat) : Int) + (7) = ((86 : Nat) : Int) := ⟨by decide +kernel, by decide⟩
set_option maxRecDepth 20000 in
theorem dX12_reckon_82 : decode cX12_reckon 82 = .ok (.lload_n 2, 1) ∧ 82 + 1 = 83 := ⟨by decide +kernel, rfl⟩
set_option maxRecDepth 20000 in
theorem dX12_reckon_83 : decode cX12_reckon 83 = .ok (.lload 4, 2) ∧ 83 + 2 = 85 := ⟨by decide +kernel, rfl⟩
set_option maxRecDepth 20000 in
theorem dX12_reckon_85 : decode cX12_reckon 85 = .ok (.ldiv, 1) ∧ 85 + 1 = 86 := ⟨by decide +kernel, rfl⟩
set_option maxRecDepth 20000 in
theorem dX12_reckon_86 : decode cX12_reckon 86 = .ok (.lreturn, 1) := by decide +kernel
set_option maxRecDepth 20000 in
theorem dX12_reckon_87 : decode cX12_reckon 87 = .ok (.lload_n 2, 1) ∧ 87 + 1 = 88 := ⟨by decide +kernel, rfl⟩
set_option maxRecDepth 20000 in
theorem dX12_reckon_88 : decode cX12_reckon 88 = .ok (.lload 4, 2) ∧ 88 + 2 = 90 := ⟨by decide +kernel, rfl⟩
set_option maxRecDepth 20000 in
theorem dX12_reckon_90 : decode cX12_reckon 90 = .ok (.lcmp, 1) ∧ 90 + 1 = 91 := ⟨by decide +kernel, rfl⟩
set_option maxRecDepth 20000 in
theorem dX12_reckon_91 : decode cX12_reckon 91 = .ok (.ifCond .ge 7, 3) ∧ 91 + 3 = 94 ∧ ((91 : Nat) : Int) + (7) = ((98 : Nat) : Int) := ⟨by decide +kernel, rfl, by decide⟩
set_option maxRecDepth 20000 in
theorem dX12_reckon_94 : decode cX12_reckon 94 = .ok (.lconst 1, 1) ∧ 94 + 1 = 95 := ⟨by decide +kernel, rfl⟩
set_option maxRecDepth 20000 in
theorem dX12_reckon_95 : decode cX12_reckon 95 = .ok (.goto 4, 3) ∧ ((95 : Nat) : Int) + (4) = ((99 : Nat) : Int) := ⟨by decide +kernel, by decide⟩
set_option maxRecDepth 20000 in
theorem dX12_reckon_98 : decode cX12_reckon 98 = .ok (.lconst 0, 1) ∧ 98 + 1 = 99 := ⟨by decide +kernel, rfl⟩
set_option maxRecDepth 20000 in
theorem dX12_reckon_99 : decode cX12_reckon 99 = .ok (.lreturn, 1) := by decide +kernel
set_option maxRecDepth 20000 in
theorem dX12_reckon_100 : decode cX12_reckon 100 = .ok (.lload_n 2, 1) ∧ 100 + 1 = 101 := ⟨by decide +kernel, rfl⟩
set_option maxRecDepth 20000 in
theorem dX12_reckon_101 : decode cX12_reckon 101 = .ok (.lload 4, 2) ∧ 101 + 2 = 103 := ⟨by decide +kernel, rfl⟩
set_option maxRecDepth 20000 in
theorem dX12_reckon_103 : decode cX12_reckon 103 = .ok (.lcmp, 1) ∧ 103 + 1 = 104 := ⟨by decide +kernel, rfl⟩
set_option maxRecDepth 20000 in
theorem dX12_reckon_104 : decode cX12_reckon 104 = .ok (.ifCond .le 7, 3) ∧ 104 + 3 = 107 ∧ ((104 : Nat) : Int) + (7) = ((111 : Nat) : Int) := ⟨by decide +kernel, rfl, by decide⟩
set_option maxRecDepth 20000 in
theorem dX12_reckon_107 : decode cX12_reckon 107 = .ok (.lconst 1, 1) ∧ 107 + 1 = 108 := ⟨by decide +kernel, rfl⟩
set_option maxRecDepth 20000 in
theorem dX12_reckon_108 : decode cX12_reckon 108 = .ok (.goto 4, 3) ∧ ((108 : Nat) : Int) + (4) = ((112 : Nat) : Int) := ⟨by decide +kernel, by decide⟩
set_option maxRecDepth 20000 in
theorem dX12_reckon_111 : decode cX12_reckon 111 = .ok (.lconst 0, 1) ∧ 111 + 1 = 112 := ⟨by decide +kernel, rfl⟩
set_option maxRecDepth 20000 in
theorem dX12_reckon_112 : decode cX12_reckon 112 = .ok (.lreturn, 1) := by decide +kernel
set_option maxRecDepth 20000 in
theorem dX12_reckon_113 : decode cX12_reckon 113 = .ok (.lload_n 2, 1) ∧ 113 + 1 = 114 := ⟨by decide +kernel, rfl⟩
set_option maxRecDepth 20000 in
theorem dX12_reckon_114 : decode cX12_reckon 114 = .ok (.lload 4, 2) ∧ 114 + 2 = 116 := ⟨by decide +kernel, rfl⟩
set_option maxRecDepth 20000 in
theorem dX12_reckon_116 : decode cX12_reckon 116 = .ok (.lcmp, 1) ∧ 116 + 1 = 117 := ⟨by decide +kernel, rfl⟩
set_option maxRecDepth 20000 in
theorem dX12_reckon_117 : decode cX12_reckon 117 = .ok (.ifCond .ne 7, 3) ∧ 117 + 3 = 120 ∧ ((117 : Nat) : Int) + (7) = ((124 : Nat) : Int) := ⟨by decide +kernel, rfl, by decide⟩
set_option maxRecDepth 20000 in
theorem dX12_reckon_120 : decode cX12_reckon 120 = .ok (.lconst 1, 1) ∧ 120 + 1 = 121 := ⟨by decide +kernel, rfl⟩
set_option maxRecDepth 20000 in
theorem dX12_reckon_121 : decode cX12_reckon 121 = .ok (.goto 4, 3) ∧ ((121 : Nat) : Int) + (4) = ((125 : Nat) : Int) := ⟨by decide +kernel, by decide⟩
set_option maxRecDepth 20000 in
theorem dX12_reckon_124 : decode cX12_reckon 124 = .ok (.lconst 0, 1) ∧ 124 + 1 = 125 := ⟨by decide +kernel, rfl⟩
set_option maxRecDepth 20000 in
theorem dX12_reckon_125 : decode cX12_reckon 125 = .ok (.lreturn, 1) := by decide +kernel
set_option maxRecDepth 20000 in
theorem dX12_reckonAll_0 : decode cX12_reckonAll 0 = .ok (.aload_n 0, 1) ∧ 0 + 1 = 1 := ⟨by decide +kernel, rfl⟩
set_option maxRecDepth 20000 in
theorem dX12_reckonAll_1 : decode cX12_reckonAll 1 = .ok (.iconst 0, 1) ∧ 1 + 1 = 2 := ⟨by decide +kernel, rfl⟩
set_option maxRecDepth 20000 in
theorem dX12_reckonAll_2 : decode cX12_reckonAll 2 = .ok (.putfield 324, 3) ∧ 2 + 3 = 5 := ⟨by decide +kernel, rfl⟩
set_option maxRecDepth 20000 in
theorem dX12_reckonAll_5 : decode cX12_reckonAll 5 = .ok (.iconst 0, 1) ∧ 5 + 1 = 6 := ⟨by decide +kernel, rfl⟩
set_option maxRecDepth 20000 in
theorem dX12_reckonAll_6 : decode cX12_reckonAll 6 = .ok (.istore_n 3, 1) ∧ 6 + 1 = 7 := ⟨by decide +kernel, rfl⟩
set_option maxRecDepth 20000 in
theorem dX12_reckonAll_7 : decode cX12_reckonAll 7 = .ok (.iload_n 1, 1) ∧ 7 + 1 = 8 := ⟨by decide +kernel, rfl⟩
set_option maxRecDepth 20000 in
theorem dX12_reckonAll_8 : decode cX12_reckonAll 8 = .ok (.istore 4, 2) ∧ 8 + 2 = 10 := ⟨by decide +kernel, rfl⟩
set_option maxRecDepth 20000 in
theorem dX12_reckonAll_10 : decode cX12_reckonAll 10 = .ok (.iload 4, 2) ∧ 10 + 2 = 12 := ⟨by decide +kernel, rfl⟩
set_option maxRecDepth 20000 in
theorem dX12_reckonAll_12 : decode cX12_reckonAll 12 = .ok (.iload_n 2, 1) ∧ 12 + 1 = 13 := ⟨by decide +kernel, rfl⟩
set_option maxRecDepth 20000 in
theorem dX12_reckonAll_13 : decode cX12_reckonAll 13 = .ok (.if_icmp .ge 232, 3) ∧ 13 + 3 = 16 ∧ ((13 : Nat) : Int) + (232) = ((245 : Nat) : Int) := ⟨by decide +kernel, rfl, by decide⟩
set_option maxRecDepth 20000 in
theorem dX12_reckonAll_16 : decode cX12_reckonAll 16 = .ok (.aload_n 0, 1) ∧ 16 + 1 = 17 := ⟨by decide +kernel, rfl⟩
set_option maxRecDepth 20000 in
theorem dX12_reckonAll_17 : decode cX12_reckonAll 17 = .ok (.getfield 324, 3) ∧ 17 + 3 = 20 := ⟨by decide +kernel, rfl⟩
set_option maxRecDepth 20000 in
theorem dX12_reckonAll_20 : decode cX12_reckonAll 20 = .ok (.ifCond .ne 225, 3) ∧ 20 + 3 = 23 ∧ ((20 : Nat) : Int) + (225) = ((245 : Nat) : Int) := ⟨by decide +kernel, rfl, by decide⟩
set_option maxRecDepth 20000 in
theorem dX12_reckonAll_23 : decode cX12_reckonAll 23 = .ok (.aload_n 0, 1) ∧ 23 + 1 = 24 := ⟨by decide +kernel, rfl⟩
set_option maxRecDepth 20000 in
theorem dX12_reckonAll_24 : decode cX12_reckonAll 24 = .ok (.getfield 13, 3) ∧ 24 + 3 = 27 := ⟨by decide +kernel, rfl⟩
set_option maxRecDepth 20000 in
theorem dX12_reckonAll_27 : decode cX12_reckonAll 27 = .ok (.aload_n 0, 1) ∧ 27 + 1 = 28 := ⟨by decide +kernel, rfl⟩
set_option maxRecDepth 20000 in
theorem dX12_reckonAll_28 : decode cX12_reckonAll 28 = .ok (.getfield 327, 3) ∧ 28 + 3 = 31 := ⟨by decide +kernel, rfl⟩
set_option maxRecDepth 20000 in
theorem dX12_reckonAll_31 : decode cX12_reckonAll 31 = .ok (.bipush 98, 2) ∧ 31 + 2 = 33 := ⟨by decide +kernel, rfl⟩
set_option maxRecDepth 20000 in
theorem dX12_reckonAll_33 : decode cX12_reckonAll 33 = .ok (.iadd, 1) ∧ 33 + 1 = 34 := ⟨by decide +kernel, rfl⟩
set_option maxRecDepth 20000 in
theorem dX12_reckonAll_34 : decode cX12_reckonAll 34 = .ok (.iconst 2, 1) ∧ 34 + 1 = 35 := ⟨by decide +kernel, rfl⟩
set_option maxRecDepth 20000 in
theorem dX12_reckonAll_35 : decode cX12_reckonAll 35 = .ok (.iload 4, 2) ∧ 35 + 2 = 37 := ⟨by decide +kernel, rfl⟩
set_option maxRecDepth 20000 in
theorem dX12_reckonAll_37 : decode cX12_reckonAll 37 = .ok (.imul, 1) ∧ 37 + 1 = 38 := ⟨by decide +kernel, rfl⟩
set_option maxRecDepth 20000 in
theorem dX12_reckonAll_38 : decode cX12_reckonAll 38 = .ok (.iadd, 1) ∧ 38 + 1 = 39 := ⟨by decide +kernel, rfl⟩
set_option maxRecDepth 20000 in
theorem dX12_reckonAll_39 : decode cX12_reckonAll 39 = .ok (.iaload, 1) ∧ 39 + 1 = 40 := ⟨by decide +kernel, rfl⟩
set_option maxRecDepth 20000 in
theorem dX12_reckonAll_40 : decode cX12_reckonAll 40 = .ok (.istore 5, 2) ∧ 40 + 2 = 42 := ⟨by decide +kernel, rfl⟩
set_option maxRecDepth 20000 in
theorem dX12_reckonAll_42 : decode cX12_reckonAll 42 = .ok (.aload_n 0, 1) ∧ 42 + 1 = 43 := ⟨by decide +kernel, rfl⟩
set_option maxRecDepth 20000 in
theorem dX12_reckonAll_43 : decode cX12_reckonAll 43 = .ok (.getfield 13, 3) ∧ 43 + 3 = 46 := ⟨by decide +kernel, rfl⟩
set_option maxRecDepth 20000 in
theorem dX12_reckonAll_46 : decode cX12_reckonAll 46 = .ok (.aload_n 0, 1) ∧ 46 + 1 = 47 := ⟨by decide +kernel, rfl⟩
set_option maxRecDepth 20000 in
theorem dX12_reckonAll_47 : decode cX12_reckonAll 47 = .ok (.getfield 327, 3) ∧ 47 + 3 = 50 := ⟨by decide +kernel, rfl⟩
set_option maxRecDepth 20000 in
theorem dX12_reckonAll_50 : decode cX12_reckonAll 50 = .ok (.bipush 98, 2) ∧ 50 + 2 = 52 := ⟨by decide +kernel, rfl⟩
set_option maxRecDepth 20000 in
theorem dX12_reckonAll_52 : decode cX12_reckonAll 52 = .ok (.iadd, 1) ∧ 52 + 1 = 53 := ⟨by decide +kernel, rfl⟩
set_option maxRecDepth 20000 in
theorem dX12_reckonAll_53 : decode cX12_reckonAll 53 = .ok (.iconst 2, 1) ∧ 53 + 1 = 54 := ⟨by decide +kernel, rfl⟩
set_option maxRecDepth 20000 in
theorem dX12_reckonAll_54 : decode cX12_reckonAll 54 = .ok (.iload 4, 2) ∧ 54 + 2 = 56 := ⟨by decide +kernel, rfl⟩
set_option maxRecDepth 20000 in
theorem dX12_reckonAll_56 : decode cX12_reckonAll 56 = .ok (.imul, 1) ∧ 56 + 1 = 57 := ⟨by decide +kernel, rfl⟩
set_option maxRecDepth 20000 in
theorem dX12_reckonAll_57 : decode cX12_reckonAll 57 = .ok (.iadd, 1) ∧ 57 + 1 = 58 := ⟨by decide +kernel, rfl⟩
set_option maxRecDepth 20000 in
theorem dX12_reckonAll_58 : decode cX12_reckonAll 58 = .ok (.iconst 1, 1) ∧ 58 + 1 = 59 := ⟨by decide +kernel, rfl⟩
set_option maxRecDepth 20000 in
theorem dX12_reckonAll_59 : decode cX12_reckonAll 59 = .ok (.iadd, 1) ∧ 59 + 1 = 60 := ⟨by decide +kernel, rfl⟩
set_option maxRecDepth 20000 in
theorem dX12_reckonAll_60 : decode cX12_reckonAll 60 = .ok (.iaload, 1) ∧ 60 + 1 = 61 := ⟨by decide +kernel, rfl⟩
set_option maxRecDepth 20000 in
theorem dX12_reckonAll_61 : decode cX12_reckonAll 61 = .ok (.istore 6, 2) ∧ 61 + 2 = 63 := ⟨by decide +kernel, rfl⟩
set_option maxRecDepth 20000 in
theorem dX12_reckonAll_63 : decode cX12_reckonAll 63 = .ok (.iinc 4 1, 3) ∧ 63 + 3 = 66 := ⟨by decide +kernel, rfl⟩
set_option maxRecDepth 20000 in
theorem dX12_reckonAll_66 : decode cX12_reckonAll 66 = .ok (.iload 5, 2) ∧ 66 + 2 = 68 := ⟨by decide +kernel, rfl⟩
set_option maxRecDepth 20000 in
theorem dX12_reckonAll_68 : decode cX12_reckonAll 68 = .ok (.bipush 20, 2) ∧ 68 + 2 = 70 := ⟨by decide +kernel, rfl⟩
set_option maxRecDepth 20000 in
theorem dX12_reckonAll_70 : decode cX12_reckonAll 70 = .ok (.if_icmp .ge 33, 3) ∧ 70 + 3 = 73 ∧ ((70 : Nat) : Int) + (33) = ((103 : Nat) : Int) := ⟨by decide +kernel, rfl, by decide⟩
set_option maxRecDepth 20000 in
theorem dX12_reckonAll_73 : decode cX12_reckonAll 73 = .ok (.aload_n 0, 1) ∧ 73 + 1 = 74 := ⟨by decide +kernel, rfl⟩
set_option maxRecDepth 20000 in
theorem dX12_reckonAll_74 : decode cX12_reckonAll 74 = .ok (.getfield 81, 3) ∧ 74 + 3 = 77 := ⟨by decide +kernel, rfl⟩
set_option maxRecDepth 20000 in
theorem dX12_reckonAll_77 : decode cX12_reckonAll 77 = .ok (.iload_n 3, 1) ∧ 77 + 1 = 78 := ⟨by decide +kernel, rfl⟩
set_option maxRecDepth 20000 in
theorem dX12_reckonAll_78 : decode cX12_reckonAll 78 = .ok (.iload 5, 2) ∧ 78 + 2 = 80 := ⟨by decide +kernel, rfl⟩
set_option maxRecDepth 20000 in
theorem dX12_reckonAll_80 : decode cX12_reckonAll 80 = .ok (.ifCond .ne 9, 3) ∧ 80 + 3 = 83 ∧ ((80 : Nat) : Int) + (9) = ((89 : Nat) : Int) := ⟨by decide +kernel, rfl, by decide⟩
set_option maxRecDepth 20000 in
theorem dX12_reckonAll_83 : decode cX12_reckonAll 83 = .ok (.iload 6, 2) ∧ 83 + 2 = 85 := ⟨by decide +kernel, rfl⟩
set_option maxRecDepth 20000 in
theorem dX12_reckonAll_85 : decode cX12_reckonAll 85 = .ok (.i2l, 1) ∧ 85 + 1 = 86 := ⟨by decide +kernel, rfl⟩
set_option maxRecDepth 20000 in
theorem dX12_reckonAll_86 : decode cX12_reckonAll 86 = .ok (.goto 10, 3) ∧ ((86 : Nat) : Int) + (10) = ((96 : Nat) : Int) := ⟨by decide +kernel, by decide⟩
set_option maxRecDepth 20000 in
theorem dX12_reckonAll_89 : decode cX12_reckonAll 89 = .ok (.aload_n 0, 1) ∧ 89 + 1 = 90 := ⟨by decide +kernel, rfl⟩
set_option maxRecDepth 20000 in
theorem dX12_reckonAll_90 : decode cX12_reckonAll 90 = .ok (.getfield 78, 3) ∧ 90 + 3 = 93 := ⟨by decide +kernel, rfl⟩
set_option maxRecDepth 20000 in
theorem dX12_reckonAll_93 : decode cX12_reckonAll 93 = .ok (.iload 5, 2) ∧ 93 + 2 = 95 := ⟨by decide +kernel, rfl⟩
set_option maxRecDepth 20000 in
theorem dX12_reckonAll_95 : decode cX12_reckonAll 95 = .ok (.laload, 1) ∧ 95 + 1 = 96 := ⟨by decide +kernel, rfl⟩
set_option maxRecDepth 20000 in
theorem dX12_reckonAll_96 : decode cX12_reckonAll 96 = .ok (.lastore, 1) ∧ 96 + 1 = 97 := ⟨by decide +kernel, rfl⟩
set_option maxRecDepth 20000 in
theorem dX12_reckonAll_97 : decode cX12_reckonAll 97 = .ok (.iinc 3 1, 3) ∧ 97 + 3 = 100 := ⟨by decide +kernel, rfl⟩
set_option maxRecDepth 20000 in
theorem dX12_reckonAll_100 : decode cX12_reckonAll 100 = .ok (.goto 142, 3) ∧ ((100 : Nat) : Int) + (142) = ((242 : Nat) : Int) := ⟨by decide +kernel, by decide⟩
set_option maxRecDepth 20000 in
theorem dX12_reckonAll_103 : decode cX12_reckonAll 103 = .ok (.iload 5, 2) ∧ 103 + 2 = 105 := ⟨by decide +kernel, rfl⟩
set_option maxRecDepth 20000 in
theorem dX12_reckonAll_105 : decode cX12_reckonAll 105 = .ok (.bipush 27, 2) ∧ 105 + 2 = 107 := ⟨by decide +kernel, rfl⟩
set_option maxRecDepth 20000 in
theorem dX12_reckonAll_107 : decode cX12_reckonAll 107 = .ok (.if_icmp .ge 73, 3) ∧ 107 + 3 = 110 ∧ ((107 : Nat) : Int) + (73) = ((180 : Nat) : Int) := ⟨by decide +kernel, rfl, by decide⟩
set_option maxRecDepth 20000 in
theorem dX12_reckonAll_110 : decode cX12_reckonAll 110 = .ok (.iinc 3 (-1), 3) ∧ 110 + 3 = 113 := ⟨by decide +kernel, rfl⟩
set_option maxRecDepth 20000 in
theorem dX12_reckonAll_113 : decode cX12_reckonAll 113 = .ok (.aload_n 0, 1) ∧ 113 + 1 = 114 := ⟨by decide +kernel, rfl⟩
set_option maxRecDepth 20000 in
theorem dX12_reckonAll_114 : decode cX12_reckonAll 114 = .ok (.getfield 81, 3) ∧ 114 + 3 = 117 := ⟨by decide +kernel, rfl⟩
set_option maxRecDepth 20000 in
theorem dX12_reckonAll_117 : decode cX12_reckonAll 117 = .ok (.iload_n 3, 1) ∧ 117 + 1 = 118 := ⟨by decide +kernel, rfl⟩
set_option maxRecDepth 20000 in
theorem dX12_reckonAll_118 : decode cX12_reckonAll 118 = .ok (.iconst 1, 1) ∧ 118 + 1 = 119 := ⟨by decide +kernel, rfl⟩
set_option maxRecDepth 20000 in
theorem dX12_reckonAll_119 : decode cX12_reckonAll 119 = .ok (.isub, 1) ∧ 119 + 1 = 120 := ⟨by decide +kernel, rfl⟩
set_option maxRecDepth 20000 in
theorem dX12_reckonAll_120 : decode cX12_reckonAll 120 = .ok (.aload_n 0, 1) ∧ 120 + 1 = 121 := ⟨by decide +kernel, rfl⟩
set_option maxRecDepth 20000 in
theorem dX12_reckonAll_121 : decode cX12_reckonAll 121 = .ok (.iload 5, 2) ∧ 121 + 2 = 123 := ⟨by decide +kernel, rfl⟩
set_option maxRecDepth 20000 in
theorem dX12_reckonAll_123 : decode cX12_reckonAll 123 = .ok (.aload_n 0, 1) ∧ 123 + 1 = 124 := ⟨by decide +kernel, rfl⟩
set_option maxRecDepth 20000 in
theorem dX12_reckonAll_124 : decode cX12_reckonAll 124 = .ok (.getfield 81, 3) ∧ 124 + 3 = 127 := ⟨by decide +kernel, rfl⟩
set_option maxRecDepth 20000 in
theorem dX12_reckonAll_127 : decode cX12_reckonAll 127 = .ok (.iload_n 3, 1) ∧ 127 + 1 = 128 := ⟨by decide +kernel, rfl⟩
set_option maxRecDepth 20000 in
theorem dX12_reckonAll_128 : decode cX12_reckonAll 128 = .ok (.iconst 1, 1) ∧ 128 + 1 = 129 := ⟨by decide +kernel, rfl⟩
set_option maxRecDepth 20000 in
theorem dX12_reckonAll_129 : decode cX12_reckonAll 129 = .ok (.isub, 1) ∧ 129 + 1 = 130 := ⟨by decide +kernel, rfl⟩
set_option maxRecDepth 20000 in
theorem dX12_reckonAll_130 : decode cX12_reckonAll 130 = .ok (.laload, 1) ∧ 130 + 1 = 131 := ⟨by decide +kernel, rfl⟩
set_option maxRecDepth 20000 in
theorem dX12_reckonAll_131 : decode cX12_reckonAll 131 = .ok (.aload_n 0, 1) ∧ 131 + 1 = 132 := ⟨by decide +kernel, rfl⟩
set_option maxRecDepth 20000 in
theorem dX12_reckonAll_132 : decode cX12_reckonAll 132 = .ok (.getfield 81, 3) ∧ 132 + 3 = 135 := ⟨by decide +kernel, rfl⟩
set_option maxRecDepth 20000 in
theorem dX12_reckonAll_135 : decode cX12_reckonAll 135 = .ok (.iload_n 3, 1) ∧ 135 + 1 = 136 := ⟨by decide +kernel, rfl⟩
set_option maxRecDepth 20000 in
theorem dX12_reckonAll_136 : decode cX12_reckonAll 136 = .ok (.laload, 1) ∧ 136 + 1 = 137 := ⟨by decide +kernel, rfl⟩
set_option maxRecDepth 20000 in
theorem dX12_reckonAll_137 : decode cX12_reckonAll 137 = .ok (.invokevirtual 330, 3) ∧ 137 + 3 = 140 := ⟨by decide +kernel, rfl⟩
set_option maxRecDepth 20000 in
theorem dX12_reckonAll_140 : decode cX12_reckonAll 140 = .ok (.lastore, 1) ∧ 140 + 1 = 141 := ⟨by decide +kernel, rfl⟩
set_option maxRecDepth 20000 in
theorem dX12_reckonAll_141 : decode cX12_reckonAll 141 = .ok (.aload_n 0, 1) ∧ 141 + 1 = 142 := ⟨by decide +kernel, rfl⟩
set_option maxRecDepth 20000 in
theorem dX12_reckonAll_142 : decode cX12_reckonAll 142 = .ok (.aload_n 0, 1) ∧ 142 + 1 = 143 := ⟨by decide +kernel, rfl⟩
set_option maxRecDepth 20000 in
theorem dX12_reckonAll_143 : decode cX12_reckonAll 143 = .ok (.getfield 324, 3) ∧ 143 + 3 = 146 := ⟨by decide +kernel, rfl⟩
set_option maxRecDepth 20000 in
theorem dX12_reckonAll_146 : decode cX12_reckonAll 146 = .ok (.ifCond .ne 23, 3) ∧ 146 + 3 = 149 ∧ ((146 : Nat) : Int) + (23) = ((169 : Nat) : Int) := ⟨by decide +kernel, rfl, by decide⟩
set_option maxRecDepth 20000 in
theorem dX12_reckonAll_149 : decode cX12_reckonAll 149 = .ok (.aload_n 0, 1) ∧ 149 + 1 = 150 := ⟨by decide +kernel, rfl⟩
set_option maxRecDepth 20000 in
theorem dX12_reckonAll_150 : decode cX12_reckonAll 150 = .ok (.getfield 81, 3) ∧ 150 + 3 = 153 := ⟨by decide +kernel, rfl⟩
set_option maxRecDepth 20000 in
theorem dX12_reckonAll_153 : decode cX12_reckonAll 153 = .ok (.iload_n 3, 1) ∧ 153 + 1 = 154 := ⟨by decide +kernel, rfl⟩
set_option maxRecDepth 20000 in
theorem dX12_reckonAll_154 : decode cX12_reckonAll 154 = .ok (.iconst 1, 1) ∧ 154 + 1 = 155 := ⟨by decide +kernel, rfl⟩
set_option maxRecDepth 20000 in
theorem dX12_reckonAll_155 : decode cX12_reckonAll 155 = .ok (.isub, 1) ∧ 155 + 1 = 156 := ⟨by decide +kernel, rfl⟩
set_option maxRecDepth 20000 in
theorem dX12_reckonAll_156 : decode cX12_reckonAll 156 = .ok (.laload, 1) ∧ 156 + 1 = 157 := ⟨by decide +kernel, rfl⟩
set_option maxRecDepth 20000 in
theorem dX12_reckonAll_157 : decode cX12_reckonAll 157 = .ok (.ldc2_w 334, 3) ∧ 157 + 3 = 160 := ⟨by decide +kernel, rfl⟩
set_option maxRecDepth 20000 in
theorem dX12_reckonAll_160 : decode cX12_reckonAll 160 = .ok (.ldc2_w 336, 3) ∧ 160 + 3 = 163 := ⟨by decide +kernel, rfl⟩
set_option maxRecDepth 20000 in
theorem dX12_reckonAll_163 : decode cX12_reckonAll 163 = .ok (.invokestatic 134, 3) ∧ 163 + 3 = 166 := ⟨by decide +kernel, rfl⟩
set_option maxRecDepth 20000 in
theorem dX12_reckonAll_166 : decode cX12_reckonAll 166 = .ok (.ifCond .ne 7, 3) ∧ 166 + 3 = 169 ∧ ((166 : Nat) : Int) + (7) = ((173 : Nat) : Int) := ⟨by decide +kernel, rfl, by decide⟩
set_option maxRecDepth 20000 in
theorem dX12_reckonAll_169 : decode cX12_reckonAll 169 = .ok (.iconst 1, 1) ∧ 169 + 1 = 170 := ⟨by decide +kernel, rfl⟩
set_option maxRecDepth 20000 in
theorem dX12_reckonAll_170 : decode cX12_reckonAll 170 = .ok (.goto 4, 3) ∧ ((170 : Nat) : Int) + (4) = ((174 : Nat) : Int) := ⟨by decide +kernel, by decide⟩
set_option maxRecDepth 20000 in
theorem dX12_reckonAll_173 : decode cX12_reckonAll 173 = .ok (.iconst 0, 1) ∧ 173 + 1 = 174 := ⟨by decide +kernel, rfl⟩
set_option maxRecDepth 20000 in
theorem dX12_reckonAll_174 : decode cX12_reckonAll 174 = .ok (.putfield 324, 3) ∧ 174 + 3 = 177 := ⟨by decide +kernel, rfl⟩
set_option maxRecDepth 20000 in
theorem dX12_reckonAll_177 : decode cX12_reckonAll 177 = .ok (.goto 65, 3) ∧ ((177 : Nat) : Int) + (65) = ((242 : Nat) : Int) := ⟨by decide +kernel, by decide⟩
set_option maxRecDepth 20000 in
theorem dX12_reckonAll_180 : decode cX12_reckonAll 180 = .ok (.iload 5, 2) ∧ 180 + 2 = 182 := ⟨by decide +kernel, rfl⟩
set_option maxRecDepth 20000 in
theorem dX12_reckonAll_182 : decode cX12_reckonAll 182 = .ok (.bipush 27, 2) ∧ 182 + 2 = 184 := ⟨by decide +kernel, rfl⟩
set_option maxRecDepth 20000 in
theorem dX12_reckonAll_184 : decode cX12_reckonAll 184 = .ok (.if_icmp .ne 24, 3) ∧ 184 + 3 = 187 ∧ ((184 : Nat) : Int) + (24) = ((208 : Nat) : Int) := ⟨by decide +kernel, rfl, by decide⟩
set_option maxRecDepth 20000 in
theorem dX12_reckonAll_187 : decode cX12_reckonAll 187 = .ok (.aload_n 0, 1) ∧ 187 + 1 = 188 := ⟨by decide +kernel, rfl⟩
set_option maxRecDepth 20000 in
theorem dX12_reckonAll_188 : decode cX12_reckonAll 188 = .ok (.getfield 81, 3) ∧ 188 + 3 = 191 := ⟨by decide +kernel, rfl⟩
set_option maxRecDepth 20000 in
theorem dX12_reckonAll_191 : decode cX12_reckonAll 191 = .ok (.iload_n 3, 1) ∧ 191 + 1 = 192 := ⟨by decide +kernel, rfl⟩
set_option maxRecDepth 20000 in
theorem dX12_reckonAll_192 : decode cX12_reckonAll 192 = .ok (.iconst 1, 1) ∧ 192 + 1 = 193 := ⟨by decide +kernel, rfl⟩
set_option maxRecDepth 20000 in
theorem dX12_reckonAll_193 : decode cX12_reckonAll 193 = .ok (.isub, 1) ∧ 193 + 1 = 194 := ⟨by decide +kernel, rfl⟩
set_option maxRecDepth 20000 in
theorem dX12_reckonAll_194 : decode cX12_reckonAll 194 = .ok (.lconst 1, 1) ∧ 194 + 1 = 195 := ⟨by decide +kernel, rfl⟩
set_option maxRecDepth 20000 in
theorem dX12_reckonAll_195 : decode cX12_reckonAll 195 = .ok (.aload_n 0, 1) ∧ 195 + 1 = 196 := ⟨by decide +kernel, rfl⟩
set_option maxRecDepth 20000 in
theorem dX12_reckonAll_196 : decode cX12_reckonAll 196 = .ok (.getfield 81, 3) ∧ 196 + 3 = 199 := ⟨by decide +kernel, rfl⟩
set_option maxRecDepth 20000 in
theorem dX12_reckonAll_199 : decode cX12_reckonAll 199 = .ok (.iload_n 3, 1) ∧ 199 + 1 = 200 := ⟨by decide +kernel, rfl⟩
set_option maxRecDepth 20000 in
theorem dX12_reckonAll_200 : decode cX12_reckonAll 200 = .ok (.iconst 1, 1) ∧ 200 + 1 = 201 := ⟨by decide +kernel, rfl⟩
set_option maxRecDepth 20000 in
theorem dX12_reckonAll_201 : decode cX12_reckonAll 201 = .ok (.isub, 1) ∧ 201 + 1 = 202 := ⟨by decide +kernel, rfl⟩
set_option maxRecDepth 20000 in
theorem dX12_reckonAll_202 : decode cX12_reckonAll 202 = .ok (.laload, 1) ∧ 202 + 1 = 203 := ⟨by decide +kernel, rfl⟩
set_option maxRecDepth 20000 in
theorem dX12_reckonAll_203 : decode cX12_reckonAll 203 = .ok (.lsub, 1) ∧ 203 + 1 = 204 := ⟨by decide +kernel, rfl⟩
set_option maxRecDepth 20000 in
theorem dX12_reckonAll_204 : decode cX12_reckonAll 204 = .ok (.lastore, 1) ∧ 204 + 1 = 205 := ⟨by decide +kernel, rfl⟩
set_option maxRecDepth 20000 in
theorem dX12_reckonAll_205 : decode cX12_reckonAll 205 = .ok (.goto 37, 3) ∧ ((205 : Nat) : Int) + (37) = ((242 : Nat) : Int) := ⟨by decide +kernel, by decide⟩
set_option maxRecDepth 20000 in
theorem dX12_reckonAll_208 : decode cX12_reckonAll 208 = .ok (.aload_n 0, 1) ∧ 208 + 1 = 209 := ⟨by decide +kernel, rfl⟩
set_option maxRecDepth 20000 in
theorem dX12_reckonAll_209 : decode cX12_reckonAll 209 = .ok (.getfield 81, 3) ∧ 209 + 3 = 212 := ⟨by decide +kernel, rfl⟩
set_option maxRecDepth 20000 in
theorem dX12_reckonAll_212 : decode cX12_reckonAll 212 = .ok (.iload_n 3, 1) ∧ 212 + 1 = 213 := ⟨by decide +kernel, rfl⟩
set_option maxRecDepth 20000 in
theorem dX12_reckonAll_213 : decode cX12_reckonAll 213 = .ok (.iconst 1, 1) ∧ 213 + 1 = 214 := ⟨by decide +kernel, rfl⟩
set_option maxRecDepth 20000 in
theorem dX12_reckonAll_214 : decode cX12_reckonAll 214 = .ok (.isub, 1) ∧ 214 + 1 = 215 := ⟨by decide +kernel, rfl⟩
set_option maxRecDepth 20000 in
theorem dX12_reckonAll_215 : decode cX12_reckonAll 215 = .ok (.laload, 1) ∧ 215 + 1 = 216 := ⟨by decide +kernel, rfl⟩
set_option maxRecDepth 20000 in
theorem dX12_reckonAll_216 : decode cX12_reckonAll 216 = .ok (.iload 5, 2) ∧ 216 + 2 = 218 := ⟨by decide +kernel, rfl⟩
set_option maxRecDepth 20000 in
theorem dX12_reckonAll_218 : decode cX12_reckonAll 218 = .ok (.bipush 28, 2) ∧ 218 + 2 = 220 := ⟨by decide +kernel, rfl⟩
set_option maxRecDepth 20000 in
theorem dX12_reckonAll_220 : decode cX12_reckonAll 220 = .ok (.if_icmp .ne 7, 3) ∧ 220 + 3 = 223 ∧ ((220 : Nat) : Int) + (7) = ((227 : Nat) : Int) := ⟨by decide +kernel, rfl, by decide⟩
set_option maxRecDepth 20000 in
theorem dX12_reckonAll_223 : decode cX12_reckonAll 223 = .ok (.lconst 0, 1) ∧ 223 + 1 = 224 := ⟨by decide +kernel, rfl⟩
set_option maxRecDepth 20000 in
theorem dX12_reckonAll_224 : decode cX12_reckonAll 224 = .ok (.goto 4, 3) ∧ ((224 : Nat) : Int) + (4) = ((228 : Nat) : Int) := ⟨by decide +kernel, by decide⟩
set_option maxRecDepth 20000 in
theorem dX12_reckonAll_227 : decode cX12_reckonAll 227 = .ok (.lconst 1, 1) ∧ 227 + 1 = 228 := ⟨by decide +kernel, rfl⟩
set_option maxRecDepth 20000 in
theorem dX12_reckonAll_228 : decode cX12_reckonAll 228 = .ok (.lcmp, 1) ∧ 228 + 1 = 229 := ⟨by decide +kernel, rfl⟩
set_option maxRecDepth 20000 in
theorem dX12_reckonAll_229 : decode cX12_reckonAll 229 = .ok (.ifCond .ne 10, 3) ∧ 229 + 3 = 232 ∧ ((229 : Nat) : Int) + (10) = ((239 : Nat) : Int) := ⟨by decide +kernel, rfl, by decide⟩
set_option maxRecDepth 20000 in
theorem dX12_reckonAll_232 : decode cX12_reckonAll 232 = .ok (.iload 6, 2) ∧ 232 + 2 = 234 := ⟨by decide +kernel, rfl⟩
set_option maxRecDepth 20000 in
theorem dX12_reckonAll_234 : decode cX12_reckonAll 234 = .ok (.istore 4, 2) ∧ 234 + 2 = 236 := ⟨by decide +kernel, rfl⟩
set_option maxRecDepth 20000 in
theorem dX12_reckonAll_236 : decode cX12_reckonAll 236 = .ok (.goto 6, 3) ∧ ((236 : Nat) : Int) + (6) = ((242 : Nat) : Int) := ⟨by decide +kernel, by decide⟩
set_option maxRecDepth 20000 in
theorem dX12_reckonAll_239 : decode cX12_reckonAll 239 = .ok (.iinc 3 (-1), 3) ∧ 239 + 3 = 242 := ⟨by decide +kernel, rfl⟩
set_option maxRecDepth 20000 in
theorem dX12_reckonAll_242 : decode cX12_reckonAll 242 = .ok (.goto (-232), 3) ∧ ((242 : Nat) : Int) + (-232) = ((10 : Nat) : Int) := ⟨by decide +kernel, by decide⟩
set_option maxRecDepth 20000 in
theorem dX12_reckonAll_245 : decode cX12_reckonAll 245 = .ok (.aload_n 0, 1) ∧ 245 + 1 = 246 := ⟨by decide +kernel, rfl⟩
set_option maxRecDepth 20000 in
theorem dX12_reckonAll_246 : decode cX12_reckonAll 246 = .ok (.iload_n 3, 1) ∧ 246 + 1 = 247 := ⟨by decide +kernel, rfl⟩
set_option maxRecDepth 20000 in
theorem dX12_reckonAll_247 : decode cX12_reckonAll 247 = .ok (.ifCond .le 12, 3) ∧ 247 + 3 = 250 ∧ ((247 : Nat) : Int) + (12) = ((259 : Nat) : Int) := ⟨by decide +kernel, rfl, by decide⟩
set_option maxRecDepth 20000 in
theorem dX12_reckonAll_250 : decode cX12_reckonAll 250 = .ok (.aload_n 0, 1) ∧ 250 + 1 = 251 := ⟨by decide +kernel, rfl⟩
set_option maxRecDepth 20000 in
theorem dX12_reckonAll_251 : decode cX12_reckonAll 251 = .ok (.getfield 81, 3) ∧ 251 + 3 = 254 := ⟨by decide +kernel, rfl⟩
set_option maxRecDepth 20000 in
theorem dX12_reckonAll_254 : decode cX12_reckonAll 254 = .ok (.iconst 0, 1) ∧ 254 + 1 = 255 := ⟨by decide +kernel, rfl⟩
set_option maxRecDepth 20000 in
theorem dX12_reckonAll_255 : decode cX12_reckonAll 255 = .ok (.laload, 1) ∧ 255 + 1 = 256 := ⟨by decide +kernel, rfl⟩
set_option maxRecDepth 20000 in
theorem dX12_reckonAll_256 : decode cX12_reckonAll 256 = .ok (.goto 4, 3) ∧ ((256 : Nat) : Int) + (4) = ((260 : Nat) : Int) := ⟨by decide +kernel, by decide⟩
set_option maxRecDepth 20000 in
theorem dX12_reckonAll_259 : decode cX12_reckonAll 259 = .ok (.lconst 0, 1) ∧ 259 + 1 = 260 := ⟨by decide +kernel, rfl⟩
set_option maxRecDepth 20000 in
theorem dX12_reckonAll_260 : decode cX12_reckonAll 260 = .ok (.putfield 338, 3) ∧ 260 + 3 = 263 := ⟨by decide +kernel, rfl⟩
set_option maxRecDepth 20000 in
theorem dX12_reckonAll_263 : decode cX12_reckonAll 263 = .ok (.return_, 1) := by decide +kernel
set_option maxRecDepth 20000 in
theorem dX12_isSo_0 : decode cX12_isSo 0 = .ok (.aload_n 0, 1) ∧ 0 + 1 = 1 := ⟨by decide +kernel, rfl⟩
set_option maxRecDepth 20000 in
theorem dX12_isSo_1 : decode cX12_isSo 1 = .ok (.getfield 13, 3) ∧ 1 + 3 = 4 := ⟨by decide +kernel, rfl⟩
set_option maxRecDepth 20000 in
theorem dX12_isSo_4 : decode cX12_isSo 4 = .ok (.iload_n 1, 1) ∧ 4 + 1 = 5 := ⟨by decide +kernel, rfl⟩
set_option maxRecDepth 20000 in
theorem dX12_isSo_5 : decode cX12_isSo 5 = .ok (.iconst 5, 1) ∧ 5 + 1 = 6 := ⟨by decide +kernel, rfl⟩
set_option maxRecDepth 20000 in
theorem dX12_isSo_6 : decode cX12_isSo 6 = .ok (.iadd, 1) ∧ 6 + 1 = 7 := ⟨by decide +kernel, rfl⟩
set_option maxRecDepth 20000 in
theorem dX12_isSo_7 : decode cX12_isSo 7 = .ok (.iaload, 1) ∧ 7 + 1 = 8 := ⟨by decide +kernel, rfl⟩
set_option maxRecDepth 20000 in
theorem dX12_isSo_8 : decode cX12_isSo 8 = .ok (.aload_n 0, 1) ∧ 8 + 1 = 9 := ⟨by decide +kernel, rfl⟩
set_option maxRecDepth 20000 in
theorem dX12_isSo_9 : decode cX12_isSo 9 = .ok (.getfield 13, 3) ∧ 9 + 3 = 12 := ⟨by decide +kernel, rfl⟩
set_option maxRecDepth 20000 in
theorem dX12_isSo_12 : decode cX12_isSo 12 = .ok (.iload_n 1, 1) ∧ 12 + 1 = 13 := ⟨by decide +kernel, rfl⟩
set_option maxRecDepth 20000 in
theorem dX12_isSo_13 : decode cX12_isSo 13 = .ok (.bipush 6, 2) ∧ 13 + 2 = 15 := ⟨by decide +kernel, rfl⟩
set_option maxRecDepth 20000 in
theorem dX12_isSo_15 : decode cX12_isSo 15 = .ok (.iadd, 1) ∧ 15 + 1 = 16 := ⟨by decide +kernel, rfl⟩
set_option maxRecDepth 20000 in
theorem dX12_isSo_16 : decode cX12_isSo 16 = .ok (.iaload, 1) ∧ 16 + 1 = 17 := ⟨by decide +kernel, rfl⟩
set_option maxRecDepth 20000 in
theorem dX12_isSo_17 : decode cX12_isSo 17 = .ok (.if_icmp .ge 42, 3) ∧ 17 + 3 = 20 ∧ ((17 : Nat) : Int) + (42) = ((59 : Nat) : Int) := ⟨by decide +kernel, rfl, by decide⟩
set_option maxRecDepth 20000 in
theorem dX12_isSo_20 : decode cX12_isSo 20 = .ok (.aload_n 0, 1) ∧ 20 + 1 = 21 := ⟨by decide +kernel, rfl⟩
set_option maxRecDepth 20000 in
theorem dX12_isSo_21 : decode cX12_isSo 21 = .ok (.aload_n 0, 1) ∧ 21 + 1 = 22 := ⟨by decide +kernel, rfl⟩
set_option maxRecDepth 20000 in
theorem dX12_isSo_22 : decode cX12_isSo 22 = .ok (.getfield 13, 3) ∧ 22 + 3 = 25 := ⟨by decide +kernel, rfl⟩
set_option maxRecDepth 20000 in
theorem dX12_isSo_25 : decode cX12_isSo 25 = .ok (.iload_n 1, 1) ∧ 25 + 1 = 26 := ⟨by decide +kernel, rfl⟩
set_option maxRecDepth 20000 in
theorem dX12_isSo_26 : decode cX12_isSo 26 = .ok (.iconst 5, 1) ∧ 26 + 1 = 27 := ⟨by decide +kernel, rfl⟩
set_option maxRecDepth 20000 in
theorem dX12_isSo_27 : decode cX12_isSo 27 = .ok (.iadd, 1) ∧ 27 + 1 = 28 := ⟨by decide +kernel, rfl⟩
set_option maxRecDepth 20000 in
theorem dX12_isSo_28 : decode cX12_isSo 28 = .ok (.iaload, 1) ∧ 28 + 1 = 29 := ⟨by decide +kernel, rfl⟩
set_option maxRecDepth 20000 in
theorem dX12_isSo_29 : decode cX12_isSo 29 = .ok (.aload_n 0, 1) ∧ 29 + 1 = 30 := ⟨by decide +kernel, rfl⟩
set_option maxRecDepth 20000 in
theorem dX12_isSo_30 : decode cX12_isSo 30 = .ok (.getfield 13, 3) ∧ 30 + 3 = 33 := ⟨by decide +kernel, rfl⟩
set_option maxRecDepth 20000 in
theorem dX12_isSo_33 : decode cX12_isSo 33 = .ok (.iload_n 1, 1) ∧ 33 + 1 = 34 := ⟨by decide +kernel, rfl⟩
set_option maxRecDepth 20000 in
theorem dX12_isSo_34 : decode cX12_isSo 34 = .ok (.bipush 6, 2) ∧ 34 + 2 = 36 := ⟨by decide +kernel, rfl⟩
set_option maxRecDepth 20000 in
theorem dX12_isSo_36 : decode cX12_isSo 36 = .ok (.iadd, 1) ∧ 36 + 1 = 37 := ⟨by decide +kernel, rfl⟩
set_option maxRecDepth 20000 in
theorem dX12_isSo_37 : decode cX12_isSo 37 = .ok (.iaload, 1) ∧ 37 + 1 = 38 := ⟨by decide +kernel, rfl⟩
set_option maxRecDepth 20000 in
theorem dX12_isSo_38 : decode cX12_isSo 38 = .ok (.invokevirtual 341, 3) ∧ 38 + 3 = 41 := ⟨by decide +kernel, rfl⟩
set_option maxRecDepth 20000 in
theorem dX12_isSo_41 : decode cX12_isSo 41 = .ok (.aload_n 0, 1) ∧ 41 + 1 = 42 := ⟨by decide +kernel, rfl⟩
set_option maxRecDepth 20000 in
theorem dX12_isSo_42 : decode cX12_isSo 42 = .ok (.getfield 324, 3) ∧ 42 + 3 = 45 := ⟨by decide +kernel, rfl⟩
set_option maxRecDepth 20000 in
theorem dX12_isSo_45 : decode cX12_isSo 45 = .ok (.ifCond .ne 12, 3) ∧ 45 + 3 = 48 ∧ ((45 : Nat) : Int) + (12) = ((57 : Nat) : Int) := ⟨by decide +kernel, rfl, by decide⟩
set_option maxRecDepth 20000 in
theorem dX12_isSo_48 : decode cX12_isSo 48 = .ok (.aload_n 0, 1) ∧ 48 + 1 = 49 := ⟨by decide +kernel, rfl⟩
set_option maxRecDepth 20000 in
theorem dX12_isSo_49 : decode cX12_isSo 49 = .ok (.getfield 338, 3) ∧ 49 + 3 = 52 := ⟨by decide +kernel, rfl⟩
set_option maxRecDepth 20000 in
theorem dX12_isSo_52 : decode cX12_isSo 52 = .ok (.lconst 0, 1) ∧ 52 + 1 = 53 := ⟨by decide +kernel, rfl⟩
set_option maxRecDepth 20000 in
theorem dX12_isSo_53 : decode cX12_isSo 53 = .ok (.lcmp, 1) ∧ 53 + 1 = 54 := ⟨by decide +kernel, rfl⟩
set_option maxRecDepth 20000 in
theorem dX12_isSo_54 : decode cX12_isSo 54 = .ok (.ifCond .ne 5, 3) ∧ 54 + 3 = 57 ∧ ((54 : Nat) : Int) + (5) = ((59 : Nat) : Int) := ⟨by decide +kernel, rfl, by decide⟩
set_option maxRecDepth 20000 in
theorem dX12_isSo_57 : decode cX12_isSo 57 = .ok (.iconst 0, 1) ∧ 57 + 1 = 58 := ⟨by decide +kernel, rfl⟩
set_option maxRecDepth 20000 in
theorem dX12_isSo_58 : decode cX12_isSo 58 = .ok (.ireturn, 1) := by decide +kernel
set_option maxRecDepth 20000 in
theorem dX12_isSo_59 : decode cX12_isSo 59 = .ok (.aload_n 0, 1) ∧ 59 + 1 = 60 := ⟨by decide +kernel, rfl⟩
set_option maxRecDepth 20000 in
theorem dX12_isSo_60 : decode cX12_isSo 60 = .ok (.aload_n 0, 1) ∧ 60 + 1 = 61 := ⟨by decide +kernel, rfl⟩
set_option maxRecDepth 20000 in
theorem dX12_isSo_61 : decode cX12_isSo 61 = .ok (.getfield 13, 3) ∧ 61 + 3 = 64 := ⟨by decide +kernel, rfl⟩
set_option maxRecDepth 20000 in
theorem dX12_isSo_64 : decode cX12_isSo 64 = .ok (.iload_n 1, 1) ∧ 64 + 1 = 65 := ⟨by decide +kernel, rfl⟩
set_option maxRecDepth 20000 in
theorem dX12_isSo_65 : decode cX12_isSo 65 = .ok (.iconst 3, 1) ∧ 65 + 1 = 66 := ⟨by decide +kernel, rfl⟩
set_option maxRecDepth 20000 in
theorem dX12_isSo_66 : decode cX12_isSo 66 = .ok (.iadd, 1) ∧ 66 + 1 = 67 := ⟨by decide +kernel, rfl⟩
set_option maxRecDepth 20000 in
theorem dX12_isSo_67 : decode cX12_isSo 67 = .ok (.iaload, 1) ∧ 67 + 1 = 68 := ⟨by decide +kernel, rfl⟩
set_option maxRecDepth 20000 in
theorem dX12_isSo_68 : decode cX12_isSo 68 = .ok (.aload_n 0, 1) ∧ 68 + 1 = 69 := ⟨by decide +kernel, rfl⟩
set_option maxRecDepth 20000 in
theorem dX12_isSo_69 : decode cX12_isSo 69 = .ok (.getfield 13, 3) ∧ 69 + 3 = 72 := ⟨by decide +kernel, rfl⟩
set_option maxRecDepth 20000 in
theorem dX12_isSo_72 : decode cX12_isSo 72 = .ok (.iload_n 1, 1) ∧ 72 + 1 = 73 := ⟨by decide +kernel, rfl⟩
set_option maxRecDepth 20000 in
theorem dX12_isSo_73 : decode cX12_isSo 73 = .ok (.iconst 4, 1) ∧ 73 + 1 = 74 := ⟨by decide +kernel, rfl⟩
set_option maxRecDepth 20000 in
theorem dX12_isSo_74 : decode cX12_isSo 74 = .ok (.iadd, 1) ∧ 74 + 1 = 75 := ⟨by decide +kernel, rfl⟩
set_option maxRecDepth 20000 in
theorem dX12_isSo_75 : decode cX12_isSo 75 = .ok (.iaload, 1) ∧ 75 + 1 = 76 := ⟨by decide +kernel, rfl⟩
set_option maxRecDepth 20000 in
theorem dX12_isSo_76 : decode cX12_isSo 76 = .ok (.invokevirtual 341, 3) ∧ 76 + 3 = 79 := ⟨by decide +kernel, rfl⟩
set_option maxRecDepth 20000 in
theorem dX12_isSo_79 : decode cX12_isSo 79 = .ok (.aload_n 0, 1) ∧ 79 + 1 = 80 := ⟨by decide +kernel, rfl⟩
set_option maxRecDepth 20000 in
theorem dX12_isSo_80 : decode cX12_isSo 80 = .ok (.aload_n 0, 1) ∧ 80 + 1 = 81 := ⟨by decide +kernel, rfl⟩
set_option maxRecDepth 20000 in
theorem dX12_isSo_81 : decode cX12_isSo 81 = .ok (.getfield 338, 3) ∧ 81 + 3 = 84 := ⟨by decide +kernel, rfl⟩
set_option maxRecDepth 20000 in
theorem dX12_isSo_84 : decode cX12_isSo 84 = .ok (.putfield 344, 3) ∧ 84 + 3 = 87 := ⟨by decide +kernel, rfl⟩
set_option maxRecDepth 20000 in
theorem dX12_isSo_87 : decode cX12_isSo 87 = .ok (.aload_n 0, 1) ∧ 87 + 1 = 88 := ⟨by decide +kernel, rfl⟩
set_option maxRecDepth 20000 in
theorem dX12_isSo_88 : decode cX12_isSo 88 = .ok (.getfield 324, 3) ∧ 88 + 3 = 91 := ⟨by decide +kernel, rfl⟩
set_option maxRecDepth 20000 in
theorem dX12_isSo_91 : decode cX12_isSo 91 = .ok (.ifCond .ne 7, 3) ∧ 91 + 3 = 94 ∧ ((91 : Nat) : Int) + (7) = ((98 : Nat) : Int) := ⟨by decide +kernel, rfl, by decide⟩
set_option maxRecDepth 20000 in
theorem dX12_isSo_94 : decode cX12_isSo 94 = .ok (.iconst 1, 1) ∧ 94 + 1 = 95 := ⟨by decide +kernel, rfl⟩
set_option maxRecDepth 20000 in
theorem dX12_isSo_95 : decode cX12_isSo 95 = .ok (.goto 4, 3) ∧ ((95 : Nat) : Int) + (4) = ((99 : Nat) : Int) := ⟨by decide +kernel, by decide⟩
set_option maxRecDepth 20000 in
theorem dX12_isSo_98 : decode cX12_isSo 98 = .ok (.iconst 0, 1) ∧ 98 + 1 = 99 := ⟨by decide +kernel, rfl⟩
set_option maxRecDepth 20000 in
theorem dX12_isSo_99 : decode cX12_isSo 99 = .ok (.ireturn, 1) := by decide +kernel
set_option maxRecDepth 20000 in
theorem dX12_tells_0 : decode cX12_tells 0 = .ok (.aload_n 0, 1) ∧ 0 + 1 = 1 := ⟨by decide +kernel, rfl⟩
set_option maxRecDepth 20000 in
theorem dX12_tells_1 : decode cX12_tells 1 = .ok (.getfield 13, 3) ∧ 1 + 3 = 4 := ⟨by decide +kernel, rfl⟩
set_option maxRecDepth 20000 in
theorem dX12_tells_4 : decode cX12_tells 4 = .ok (.iconst 3, 1) ∧ 4 + 1 = 5 := ⟨by decide +kernel, rfl⟩
set_option maxRecDepth 20000 in
theorem dX12_tells_5 : decode cX12_tells 5 = .ok (.iaload, 1) ∧ 5 + 1 = 6 := ⟨by decide +kernel, rfl⟩
set_option maxRecDepth 20000 in
theorem dX12_tells_6 : decode cX12_tells 6 = .ok (.iconst (-1), 1) ∧ 6 + 1 = 7 := ⟨by decide +kernel, rfl⟩
set_option maxRecDepth 20000 in
theorem dX12_tells_7 : decode cX12_tells 7 = .ok (.if_icmp .ne 6, 3) ∧ 7 + 3 = 10 ∧ ((7 : Nat) : Int) + (6) = ((13 : Nat) : Int) := ⟨by decide +kernel, rfl, by decide⟩
set_option maxRecDepth 20000 in
theorem dX12_tells_10 : decode cX12_tells 10 = .ok (.iload 7, 2) ∧ 10 + 2 = 12 := ⟨by decide +kernel, rfl⟩
set_option maxRecDepth 20000 in
theorem dX12_tells_12 : decode cX12_tells 12 = .ok (.ireturn, 1) := by decide +kernel
set_option maxRecDepth 20000 in
theorem dX12_tells_13 : decode cX12_tells 13 = .ok (.aload_n 0, 1) ∧ 13 + 1 = 14 := ⟨by decide +kernel, rfl⟩
set_option maxRecDepth 20000 in
theorem dX12_tells_14 : decode cX12_tells 14 = .ok (.sipush 170, 3) ∧ 14 + 3 = 17 := ⟨by decide +kernel, rfl⟩
set_option maxRecDepth 20000 in
theorem dX12_tells_17 : decode cX12_tells 17 = .ok (.sipush 900, 3) ∧ 17 + 3 = 20 := ⟨by decide +kernel, rfl⟩
set_option maxRecDepth 20000 in
theorem dX12_tells_20 : decode cX12_tells 20 = .ok (.aload_n 0, 1) ∧ 20 + 1 = 21 := ⟨by decide +kernel, rfl⟩
set_option maxRecDepth 20000 in
theorem dX12_tells_21 : decode cX12_tells 21 = .ok (.getfield 13, 3) ∧ 21 + 3 = 24 := ⟨by decide +kernel, rfl⟩
set_option maxRecDepth 20000 in
theorem dX12_tells_24 : decode cX12_tells 24 = .ok (.iconst 3, 1) ∧ 24 + 1 = 25 := ⟨by decide +kernel, rfl⟩
set_option maxRecDepth 20000 in
theorem dX12_tells_25 : decode cX12_tells 25 = .ok (.iaload, 1) ∧ 25 + 1 = 26 := ⟨by decide +kernel, rfl⟩
set_option maxRecDepth 20000 in
theorem dX12_tells_26 : decode cX12_tells 26 = .ok (.imul, 1) ∧ 26 + 1 = 27 := ⟨by decide +kernel, rfl⟩
set_option maxRecDepth 20000 in
theorem dX12_tells_27 : decode cX12_tells 27 = .ok (.iadd, 1) ∧ 27 + 1 = 28 := ⟨by decide +kernel, rfl⟩
set_option maxRecDepth 20000 in
theorem dX12_tells_28 : decode cX12_tells 28 = .ok (.putfield 327, 3) ∧ 28 + 3 = 31 := ⟨by decide +kernel, rfl⟩
set_option maxRecDepth 20000 in
theorem dX12_tells_31 : decode cX12_tells 31 = .ok (.aload_n 0, 1) ∧ 31 + 1 = 32 := ⟨by decide +kernel, rfl⟩
set_option maxRecDepth 20000 in
theorem dX12_tells_32 : decode cX12_tells 32 = .ok (.getfield 78, 3) ∧ 32 + 3 = 35 := ⟨by decide +kernel, rfl⟩
set_option maxRecDepth 20000 in
theorem dX12_tells_35 : decode cX12_tells 35 = .ok (.iconst 1, 1) ∧ 35 + 1 = 36 := ⟨by decide +kernel, rfl⟩
set_option maxRecDepth 20000 in
theorem dX12_tells_36 : decode cX12_tells 36 = .ok (.iload_n 2, 1) ∧ 36 + 1 = 37 := ⟨by decide +kernel, rfl⟩
set_option maxRecDepth 20000 in
theorem dX12_tells_37 : decode cX12_tells 37 = .ok (.i2l, 1) ∧ 37 + 1 = 38 := ⟨by decide +kernel, rfl⟩
set_option maxRecDepth 20000 in
theorem dX12_tells_38 : decode cX12_tells 38 = .ok (.lastore, 1) ∧ 38 + 1 = 39 := ⟨by decide +kernel, rfl⟩
set_option maxRecDepth 20000 in
theorem dX12_tells_39 : decode cX12_tells 39 = .ok (.aload_n 0, 1) ∧ 39 + 1 = 40 := ⟨by decide +kernel, rfl⟩
set_option maxRecDepth 20000 in
theorem dX12_tells_40 : decode cX12_tells 40 = .ok (.getfield 78, 3) ∧ 40 + 3 = 43 := ⟨by decide +kernel, rfl⟩
set_option maxRecDepth 20000 in
theorem dX12_tells_43 : decode cX12_tells 43 = .ok (.iconst 2, 1) ∧ 43 + 1 = 44 := ⟨by decide +kernel, rfl⟩
set_option maxRecDepth 20000 in
theorem dX12_tells_44 : decode cX12_tells 44 = .ok (.aload_n 0, 1) ∧ 44 + 1 = 45 := ⟨by decide +kernel, rfl⟩
set_option maxRecDepth 20000 in
theorem dX12_tells_45 : decode cX12_tells 45 = .ok (.iload_n 2, 1) ∧ 45 + 1 = 46 := ⟨by decide +kernel, rfl⟩
set_option maxRecDepth 20000 in
theorem dX12_tells_46 : decode cX12_tells 46 = .ok (.iconst 0, 1) ∧ 46 + 1 = 47 := ⟨by decide +kernel, rfl⟩
set_option maxRecDepth 20000 in
theorem dX12_tells_47 : decode cX12_tells 47 = .ok (.invokevirtual 163, 3) ∧ 47 + 3 = 50 := ⟨by decide +kernel, rfl⟩
set_option maxRecDepth 20000 in
theorem dX12_tells_50 : decode cX12_tells 50 = .ok (.i2l, 1) ∧ 50 + 1 = 51 := ⟨by decide +kernel, rfl⟩
set_option maxRecDepth 20000 in
theorem dX12_tells_51 : decode cX12_tells 51 = .ok (.lastore, 1) ∧ 51 + 1 = 52 := ⟨by decide +kernel, rfl⟩
set_option maxRecDepth 20000 in
theorem dX12_tells_52 : decode cX12_tells 52 = .ok (.aload_n 0, 1) ∧ 52 + 1 = 53 := ⟨by decide +kernel, rfl⟩
set_option maxRecDepth 20000 in
theorem dX12_tells_53 : decode cX12_tells 53 = .ok (.getfield 78, 3) ∧ 53 + 3 = 56 := ⟨by decide +kernel, rfl⟩
set_option maxRecDepth 20000 in
theorem dX12_tells_56 : decode cX12_tells 56 = .ok (.iconst 3, 1) ∧ 56 + 1 = 57 := ⟨by decide +kernel, rfl⟩
set_option maxRecDepth 20000 in
theorem dX12_tells_57 : decode cX12_tells 57 = .ok (.aload_n 0, 1) ∧ 57 + 1 = 58 := ⟨by decide +kernel, rfl⟩
set_option maxRecDepth 20000 in
theorem dX12_tells_58 : decode cX12_tells 58 = .ok (.iload_n 2, 1) ∧ 58 + 1 = 59 := ⟨by decide +kernel, rfl⟩
set_option maxRecDepth 20000 in
theorem dX12_tells_59 : decode cX12_tells 59 = .ok (.iload_n 3, 1) ∧ 59 + 1 = 60 := ⟨by decide +kernel, rfl⟩
set_option maxRecDepth 20000 in
theorem dX12_tells_60 : decode cX12_tells 60 = .ok (.invokevirtual 169, 3) ∧ 60 + 3 = 63 := ⟨by decide +kernel, rfl⟩
set_option maxRecDepth 20000 in
theorem dX12_tells_63 : decode cX12_tells 63 = .ok (.i2l, 1) ∧ 63 + 1 = 64 := ⟨by decide +kernel, rfl⟩
set_option maxRecDepth 20000 in
theorem dX12_tells_64 : decode cX12_tells 64 = .ok (.lastore, 1) ∧ 64 + 1 = 65 := ⟨by decide +kernel, rfl⟩
set_option maxRecDepth 20000 in
theorem dX12_tells_65 : decode cX12_tells 65 = .ok (.aload_n 0, 1) ∧ 65 + 1 = 66 := ⟨by decide +kernel, rfl⟩
set_option maxRecDepth 20000 in
theorem dX12_tells_66 : decode cX12_tells 66 = .ok (.getfield 78, 3) ∧ 66 + 3 = 69 := ⟨by decide +kernel, rfl⟩
set_option maxRecDepth 20000 in
theorem dX12_tells_69 : decode cX12_tells 69 = .ok (.iconst 4, 1) ∧ 69 + 1 = 70 := ⟨by decide +kernel, rfl⟩
set_option maxRecDepth 20000 in
theorem dX12_tells_70 : decode cX12_tells 70 = .ok (.aload_n 0, 1) ∧ 70 + 1 = 71 := ⟨by decide +kernel, rfl⟩
set_option maxRecDepth 20000 in
theorem dX12_tells_71 : decode cX12_tells 71 = .ok (.iload_n 2, 1) ∧ 71 + 1 = 72 := ⟨by decide +kernel, rfl⟩
set_option maxRecDepth 20000 in
theorem dX12_tells_72 : decode cX12_tells 72 = .ok (.iconst 3, 1) ∧ 72 + 1 = 73 := ⟨by decide +kernel, rfl⟩
set_option maxRecDepth 20000 in
theorem dX12_tells_73 : decode cX12_tells 73 = .ok (.invokevirtual 163, 3) ∧ 73 + 3 = 76 := ⟨by decide +kernel, rfl⟩
set_option maxRecDepth 20000 in
theorem dX12_tells_76 : decode cX12_tells 76 = .ok (.i2l, 1) ∧ 76 + 1 = 77 := ⟨by decide +kernel, rfl⟩
set_option maxRecDepth 20000 in
theorem dX12_tells_77 : decode cX12_tells 77 = .ok (.lastore, 1) ∧ 77 + 1 = 78 := ⟨by decide +kernel, rfl⟩
set_option maxRecDepth 20000 in
theorem dX12_tells_78 : decode cX12_tells 78 = .ok (.aload_n 0, 1) ∧ 78 + 1 = 79 := ⟨by decide +kernel, rfl⟩
set_option maxRecDepth 20000 in
theorem dX12_tells_79 : decode cX12_tells 79 = .ok (.getfield 78, 3) ∧ 79 + 3 = 82 := ⟨by decide +kernel, rfl⟩
set_option maxRecDepth 20000 in
theorem dX12_tells_82 : decode cX12_tells 82 = .ok (.iconst 5, 1) ∧ 82 + 1 = 83 := ⟨by decide +kernel, rfl⟩
set_option maxRecDepth 20000 in
theorem dX12_tells_83 : decode cX12_tells 83 = .ok (.aload_n 0, 1) ∧ 83 + 1 = 84 := ⟨by decide +kernel, rfl⟩
set_option maxRecDepth 20000 in
theorem dX12_tells_84 : decode cX12_tells 84 = .ok (.iload_n 2, 1) ∧ 84 + 1 = 85 := ⟨by decide +kernel, rfl⟩
set_option maxRecDepth 20000 in
theorem dX12_tells_85 : decode cX12_tells 85 = .ok (.iconst 4, 1) ∧ 85 + 1 = 86 := ⟨by decide +kernel, rfl⟩
set_option maxRecDepth 20000 in
theorem dX12_tells_86 : decode cX12_tells 86 = .ok (.invokevirtual 163, 3) ∧ 86 + 3 = 89 := ⟨by decide +kernel, rfl⟩
set_option maxRecDepth 20000 in
theorem dX12_tells_89 : decode cX12_tells 89 = .ok (.i2l, 1) ∧ 89 + 1 = 90 := ⟨by decide +kernel, rfl⟩
set_option maxRecDepth 20000 in
theorem dX12_tells_90 : decode cX12_tells 90 = .ok (.lastore, 1) ∧ 90 + 1 = 91 := ⟨by decide +kernel, rfl⟩
set_option maxRecDepth 20000 in
theorem dX12_tells_91 : decode cX12_tells 91 = .ok (.aload_n 0, 1) ∧ 91 + 1 = 92 := ⟨by decide +kernel, rfl⟩
set_option maxRecDepth 20000 in
theorem dX12_tells_92 : decode cX12_tells 92 = .ok (.getfield 78, 3) ∧ 92 + 3 = 95 := ⟨by decide +kernel, rfl⟩
set_option maxRecDepth 20000 in
theorem dX12_tells_95 : decode cX12_tells 95 = .ok (.bipush 6, 2) ∧ 95 + 2 = 97 := ⟨by decide +kernel, rfl⟩
set_option maxRecDepth 20000 in
theorem dX12_tells_97 : decode cX12_tells 97 = .ok (.iload 4, 2) ∧ 97 + 2 = 99 := ⟨by decide +kernel, rfl⟩
set_option maxRecDepth 20000 in
theorem dX12_tells_99 : decode cX12_tells 99 = .ok (.i2l, 1) ∧ 99 + 1 = 100 := ⟨by decide +kernel, rfl⟩
set_option maxRecDepth 20000 in
theorem dX12_tells_100 : decode cX12_tells 100 = .ok (.lastore, 1) ∧ 100 + 1 = 101 := ⟨by decide +kernel, rfl⟩
set_option maxRecDepth 20000 in
theorem dX12_tells_101 : decode cX12_tells 101 = .ok (.aload_n 0, 1) ∧ 101 + 1 = 102 := ⟨by decide +kernel, rfl⟩
set_option maxRecDepth 20000 in
theorem dX12_tells_102 : decode cX12_tells 102 = .ok (.getfield 78, 3) ∧ 102 + 3 = 105 := ⟨by decide +kernel, rfl⟩
set_option maxRecDepth 20000 in
theorem dX12_tells_105 : decode cX12_tells 105 = .ok (.bipush 7, 2) ∧ 105 + 2 = 107 := ⟨by decide +kernel, rfl⟩
set_option maxRecDepth 20000 in
theorem dX12_tells_107 : decode cX12_tells 107 = .ok (.iload_n 3, 1) ∧ 107 + 1 = 108 := ⟨by decide +kernel, rfl⟩
set_option maxRecDepth 20000 in
theorem dX12_tells_108 : decode cX12_tells 108 = .ok (.i2l, 1) ∧ 108 + 1 = 109 := ⟨by decide +kernel, rfl⟩
set_option maxRecDepth 20000 in
theorem dX12_tells_109 : decode cX12_tells 109 = .ok (.lastore, 1) ∧ 109 + 1 = 110 := ⟨by decide +kernel, rfl⟩
set_option maxRecDepth 20000 in
theorem dX12_tells_110 : decode cX12_tells 110 = .ok (.aload_n 0, 1) ∧ 110 + 1 = 111 := ⟨by decide +kernel, rfl⟩
set_option maxRecDepth 20000 in
theorem dX12_tells_111 : decode cX12_tells 111 = .ok (.getfield 78, 3) ∧ 111 + 3 = 114 := ⟨by decide +kernel, rfl⟩
set_option maxRecDepth 20000 in
theorem dX12_tells_114 : decode cX12_tells 114 = .ok (.bipush 8, 2) ∧ 114 + 2 = 116 := ⟨by decide +kernel, rfl⟩
set_option maxRecDepth 20000 in
theorem dX12_tells_116 : decode cX12_tells 116 = .ok (.aload_n 0, 1) ∧ 116 + 1 = 117 := ⟨by decide +kernel, rfl⟩
set_option maxRecDepth 20000 in
theorem dX12_tells_117 : decode cX12_tells 117 = .ok (.getfield 13, 3) ∧ 117 + 3 = 120 := ⟨by decide +kernel, rfl⟩
set_option maxRecDepth 20000 in
theorem dX12_tells_120 : decode cX12_tells 120 = .ok (.bipush 7, 2) ∧ 120 + 2 = 122 := ⟨by decide +kernel, rfl⟩
set_option maxRecDepth 20000 in
theorem dX12_tells_122 : decode cX12_tells 122 = .ok (.iaload, 1) ∧ 122 + 1 = 123 := ⟨by decide +kernel, rfl⟩
set_option maxRecDepth 20000 in
theorem dX12_tells_123 : decode cX12_tells 123 = .ok (.i2l, 1) ∧ 123 + 1 = 124 := ⟨by decide +kernel, rfl⟩
set_option maxRecDepth 20000 in
theorem dX12_tells_124 : decode cX12_tells 124 = .ok (.lastore, 1) ∧ 124 + 1 = 125 := ⟨by decide +kernel, rfl⟩
set_option maxRecDepth 20000 in
theorem dX12_tells_125 : decode cX12_tells 125 = .ok (.aload_n 0, 1) ∧ 125 + 1 = 126 := ⟨by decide +kernel, rfl⟩
set_option maxRecDepth 20000 in
theorem dX12_tells_126 : decode cX12_tells 126 = .ok (.getfield 78, 3) ∧ 126 + 3 = 129 := ⟨by decide +kernel, rfl⟩
set_option maxRecDepth 20000 in
theorem dX12_tells_129 : decode cX12_tells 129 = .ok (.bipush 9, 2) ∧ 129 + 2 = 131 := ⟨by decide +kernel, rfl⟩
set_option maxRecDepth 20000 in
theorem dX12_tells_131 : decode cX12_tells 131 = .ok (.iload 5, 2) ∧ 131 + 2 = 133 := ⟨by decide +kernel, rfl⟩
set_option maxRecDepth 20000 in
theorem dX12_tells_133 : decode cX12_tells 133 = .ok (.i2l, 1) ∧ 133 + 1 = 134 := ⟨by decide +kernel, rfl⟩
set_option maxRecDepth 20000 in
theorem dX12_tells_134 : decode cX12_tells 134 = .ok (.lastore, 1) ∧ 134 + 1 = 135 := ⟨by decide +kernel, rfl⟩
set_option maxRecDepth 20000 in
theorem dX12_tells_135 : decode cX12_tells 135 = .ok (.aload_n 0, 1) ∧ 135 + 1 = 136 := ⟨by decide +kernel, rfl⟩
set_option maxRecDepth 20000 in
theorem dX12_tells_136 : decode cX12_tells 136 = .ok (.getfield 78, 3) ∧ 136 + 3 = 139 := ⟨by decide +kernel, rfl⟩
set_option maxRecDepth 20000 in
theorem dX12_tells_139 : decode cX12_tells 139 = .ok (.bipush 10, 2) ∧ 139 + 2 = 141 := ⟨by decide +kernel, rfl⟩
set_option maxRecDepth 20000 in
theorem dX12_tells_141 : decode cX12_tells 141 = .ok (.iload 6, 2) ∧ 141 + 2 = 143 := ⟨by decide +kernel, rfl⟩
set_option maxRecDepth 20000 in
theorem dX12_tells_143 : decode cX12_tells 143 = .ok (.i2l, 1) ∧ 143 + 1 = 144 := ⟨by decide +kernel, rfl⟩
set_option maxRecDepth 20000 in
theorem dX12_tells_144 : decode cX12_tells 144 = .ok (.lastore, 1) ∧ 144 + 1 = 145 := ⟨by decide +kernel, rfl⟩
set_option maxRecDepth 20000 in
theorem dX12_tells_145 : decode cX12_tells 145 = .ok (.iload 7, 2) ∧ 145 + 2 = 147 := ⟨by decide +kernel, rfl⟩
set_option maxRecDepth 20000 in
theorem dX12_tells_147 : decode cX12_tells 147 = .ok (.i2l, 1) ∧ 147 + 1 = 148 := ⟨by decide +kernel, rfl⟩
set_option maxRecDepth 20000 in
theorem dX12_tells_148 : decode cX12_tells 148 = .ok (.lstore 9, 2) ∧ 148 + 2 = 150 := ⟨by decide +kernel, rfl⟩
set_option maxRecDepth 20000 in
theorem dX12_tells_150 : decode cX12_tells 150 = .ok (.iconst 0, 1) ∧ 150 + 1 = 151 := ⟨by decide +kernel, rfl⟩
set_option maxRecDepth 20000 in
theorem dX12_tells_151 : decode cX12_tells 151 = .ok (.istore 11, 2) ∧ 151 + 2 = 153 := ⟨by decide +kernel, rfl⟩
set_option maxRecDepth 20000 in
theorem dX12_tells_153 : decode cX12_tells 153 = .ok (.iload 11, 2) ∧ 153 + 2 = 155 := ⟨by decide +kernel, rfl⟩
set_option maxRecDepth 20000 in
theorem dX12_tells_155 : decode cX12_tells 155 = .ok (.aload_n 0, 1) ∧ 155 + 1 = 156 := ⟨by decide +kernel, rfl⟩
set_option maxRecDepth 20000 in
theorem dX12_tells_156 : decode cX12_tells 156 = .ok (.getfield 13, 3) ∧ 156 + 3 = 159 := ⟨by decide +kernel, rfl⟩
set_option maxRecDepth 20000 in
theorem dX12_tells_159 : decode cX12_tells 159 = .ok (.aload_n 0, 1) ∧ 159 + 1 = 160 := ⟨by decide +kernel, rfl⟩
set_option maxRecDepth 20000 in
theorem dX12_tells_160 : decode cX12_tells 160 = .ok (.getfield 327, 3) ∧ 160 + 3 = 163 := ⟨by decide +kernel, rfl⟩
set_option maxRecDepth 20000 in
theorem dX12_tells_163 : decode cX12_tells 163 = .ok (.iconst 1, 1) ∧ 163 + 1 = 164 := ⟨by decide +kernel, rfl⟩
set_option maxRecDepth 20000 in
theorem dX12_tells_164 : decode cX12_tells 164 = .ok (.iadd, 1) ∧ 164 + 1 = 165 := ⟨by decide +kernel, rfl⟩
set_option maxRecDepth 20000 in
theorem dX12_tells_165 : decode cX12_tells 165 = .ok (.iaload, 1) ∧ 165 + 1 = 166 := ⟨by decide +kernel, rfl⟩
set_option maxRecDepth 20000 in
theorem dX12_tells_166 : decode cX12_tells 166 = .ok (.if_icmp .ge 49, 3) ∧ 166 + 3 = 169 ∧ ((166 : Nat) : Int) + (49) = ((215 : Nat) : Int) := ⟨by decide +kernel, rfl, by decide⟩
set_option maxRecDepth 20000 in
theorem dX12_tells_169 : decode cX12_tells 169 = .ok (.aload_n 0, 1) ∧ 169 + 1 = 170 := ⟨by decide +kernel, rfl⟩
set_option maxRecDepth 20000 in
theorem dX12_tells_170 : decode cX12_tells 170 = .ok (.getfield 327, 3) ∧ 170 + 3 = 173 := ⟨by decide +kernel, rfl⟩
set_option maxRecDepth 20000 in
theorem dX12_tells_173 : decode cX12_tells 173 = .ok (.iconst 2, 1) ∧ 173 + 1 = 174 := ⟨by decide +kernel, rfl⟩
set_option maxRecDepth 20000 in
theorem dX12_tells_174 : decode cX12_tells 174 = .ok (.iadd, 1) ∧ 174 + 1 = 175 := ⟨by decide +kernel, rfl⟩
set_option maxRecDepth 20000 in
theorem dX12_tells_175 : decode cX12_tells 175 = .ok (.bipush 8, 2) ∧ 175 + 2 = 177 := ⟨by decide +kernel, rfl⟩
set_option maxRecDepth 20000 in
theorem dX12_tells_177 : decode cX12_tells 177 = .ok (.iload 11, 2) ∧ 177 + 2 = 179 := ⟨by decide +kernel, rfl⟩
set_option maxRecDepth 20000 in
theorem dX12_tells_179 : decode cX12_tells 179 = .ok (.imul, 1) ∧ 179 + 1 = 180 := ⟨by decide +kernel, rfl⟩
set_option maxRecDepth 20000 in
theorem dX12_tells_180 : decode cX12_tells 180 = .ok (.iadd, 1) ∧ 180 + 1 = 181 := ⟨by decide +kernel, rfl⟩
set_option maxRecDepth 20000 in
theorem dX12_tells_181 : decode cX12_tells 181 = .ok (.istore 12, 2) ∧ 181 + 2 = 183 := ⟨by decide +kernel, rfl⟩
set_option maxRecDepth 20000 in
theorem dX12_tells_183 : decode cX12_tells 183 = .ok (.aload_n 0, 1) ∧ 183 + 1 = 184 := ⟨by decide +kernel, rfl⟩
set_option maxRecDepth 20000 in
theorem dX12_tells_184 : decode cX12_tells 184 = .ok (.getfield 13, 3) ∧ 184 + 3 = 187 := ⟨by decide +kernel, rfl⟩
set_option maxRecDepth 20000 in
theorem dX12_tells_187 : decode cX12_tells 187 = .ok (.iload 12, 2) ∧ 187 + 2 = 189 := ⟨by decide +kernel, rfl⟩
set_option maxRecDepth 20000 in
theorem dX12_tells_189 : decode cX12_tells 189 = .ok (.iaload, 1) ∧ 189 + 1 = 190 := ⟨by decide +kernel, rfl⟩
set_option maxRecDepth 20000 in
theorem dX12_tells_190 : decode cX12_tells 190 = .ok (.iload_n 1, 1) ∧ 190 + 1 = 191 := ⟨by decide +kernel, rfl⟩
set_option maxRecDepth 20000 in
theorem dX12_tells_191 : decode cX12_tells 191 = .ok (.if_icmp .ne 18, 3) ∧ 191 + 3 = 194 ∧ ((191 : Nat) : Int) + (18) = ((209 : Nat) : Int) := ⟨by decide +kernel, rfl, by decide⟩
set_option maxRecDepth 20000 in
theorem dX12_tells_194 : decode cX12_tells 194 = .ok (.aload_n 0, 1) ∧ 194 + 1 = 195 := ⟨by decide +kernel, rfl⟩
set_option maxRecDepth 20000 in
theorem dX12_tells_195 : decode cX12_tells 195 = .ok (.iload 12, 2) ∧ 195 + 2 = 197 := ⟨by decide +kernel, rfl⟩
set_option maxRecDepth 20000 in
theorem dX12_tells_197 : decode cX12_tells 197 = .ok (.invokevirtual 347, 3) ∧ 197 + 3 = 200 := ⟨by decide +kernel, rfl⟩
set_option maxRecDepth 20000 in
theorem dX12_tells_200 : decode cX12_tells 200 = .ok (.ifCond .eq 9, 3) ∧ 200 + 3 = 203 ∧ ((200 : Nat) : Int) + (9) = ((209 : Nat) : Int) := ⟨by decide +kernel, rfl, by decide⟩
set_option maxRecDepth 20000 in
theorem dX12_tells_203 : decode cX12_tells 203 = .ok (.aload_n 0, 1) ∧ 203 + 1 = 204 := ⟨by decide +kernel, rfl⟩
set_option maxRecDepth 20000 in
theorem dX12_tells_204 : decode cX12_tells 204 = .ok (.getfield 344, 3) ∧ 204 + 3 = 207 := ⟨by decide +kernel, rfl⟩
set_option maxRecDepth 20000 in
theorem dX12_tells_207 : decode cX12_tells 207 = .ok (.lstore 9, 2) ∧ 207 + 2 = 209 := ⟨by decide +kernel, rfl⟩
set_option maxRecDepth 20000 in
theorem dX12_tells_209 : decode cX12_tells 209 = .ok (.iinc 11 1, 3) ∧ 209 + 3 = 212 := ⟨by decide +kernel, rfl⟩
set_option maxRecDepth 20000 in
theorem dX12_tells_212 : decode cX12_tells 212 = .ok (.goto (-59), 3) ∧ ((212 : Nat) : Int) + (-59) = ((153 : Nat) : Int) := ⟨by decide +kernel, by decide⟩
set_option maxRecDepth 20000 in
theorem dX12_tells_215 : decode cX12_tells 215 = .ok (.lload 9, 2) ∧ 215 + 2 = 217 := ⟨by decide +kernel, rfl⟩
set_option maxRecDepth 20000 in
theorem dX12_tells_217 : decode cX12_tells 217 = .ok (.lconst 0, 1) ∧ 217 + 1 = 218 := ⟨by decide +kernel, rfl⟩
set_option maxRecDepth 20000 in
theorem dX12_tells_218 : decode cX12_tells 218 = .ok (.lcmp, 1) ∧ 218 + 1 = 219 := ⟨by decide +kernel, rfl⟩
set_option maxRecDepth 20000 in
theorem dX12_tells_219 : decode cX12_tells 219 = .ok (.ifCond .ge 7, 3) ∧ 219 + 3 = 222 ∧ ((219 : Nat) : Int) + (7) = ((226 : Nat) : Int) := ⟨by decide +kernel, rfl, by decide⟩
set_option maxRecDepth 20000 in
theorem dX12_tells_222 : decode cX12_tells 222 = .ok (.iconst 0, 1) ∧ 222 + 1 = 223 := ⟨by decide +kernel, rfl⟩
set_option maxRecDepth 20000 in
theorem dX12_tells_223 : decode cX12_tells 223 = .ok (.goto 20, 3) ∧ ((223 : Nat) : Int) + (20) = ((243 : Nat) : Int) := ⟨by decide +kernel, by decide⟩
set_option maxRecDepth 20000 in
theorem dX12_tells_226 : decode cX12_tells 226 = .ok (.lload 9, 2) ∧ 226 + 2 = 228 := ⟨by decide +kernel, rfl⟩
set_option maxRecDepth 20000 in
theorem dX12_tells_228 : decode cX12_tells 228 = .ok (.iload 8, 2) ∧ 228 + 2 = 230 := ⟨by decide +kernel, rfl⟩
set_option maxRecDepth 20000 in
theorem dX12_tells_230 : decode cX12_tells 230 = .ok (.i2l, 1) ∧ 230 + 1 = 231 := ⟨by decide +kernel, rfl⟩
set_option maxRecDepth 20000 in
theorem dX12_tells_231 : decode cX12_tells 231 = .ok (.lcmp, 1) ∧ 231 + 1 = 232 := ⟨by decide +kernel, rfl⟩
set_option maxRecDepth 20000 in
theorem dX12_tells_232 : decode cX12_tells 232 = .ok (.ifCond .le 8, 3) ∧ 232 + 3 = 235 ∧ ((232 : Nat) : Int) + (8) = ((240 : Nat) : Int) := ⟨by decide +kernel, rfl, by decide⟩
set_option maxRecDepth 20000 in
theorem dX12_tells_235 : decode cX12_tells 235 = .ok (.iload 8, 2) ∧ 235 + 2 = 237 := ⟨by decide +kernel, rfl⟩
set_option maxRecDepth 20000 in
theorem dX12_tells_237 : decode cX12_tells 237 = .ok (.goto 6, 3) ∧ ((237 : Nat) : Int) + (6) = ((243 : Nat) : Int) := ⟨by decide +kernel, by decide⟩
set_option maxRecDepth 20000 in
theorem dX12_tells_240 : decode cX12_tells 240 = .ok (.lload 9, 2) ∧ 240 + 2 = 242 := ⟨by decide +kernel, rfl⟩
set_option maxRecDepth 20000 in
theorem dX12_tells_242 : decode cX12_tells 242 = .ok (.l2i, 1) ∧ 242 + 1 = 243 := ⟨by decide +kernel, rfl⟩
set_option maxRecDepth 20000 in
theorem dX12_tells_243 : decode cX12_tells 243 = .ok (.ireturn, 1) := by decide +kernel
set_option maxRecDepth 20000 in
theorem dX12_chanceOf_0 : decode cX12_chanceOf 0 = .ok (.aload_n 0, 1) ∧ 0 + 1 = 1 := ⟨by decide +kernel, rfl⟩
set_option maxRecDepth 20000 in
theorem dX12_chanceOf_1 : decode cX12_chanceOf 1 = .ok (.iconst 0, 1) ∧ 1 + 1 = 2 := ⟨by decide +kernel, rfl⟩
set_option maxRecDepth 20000 in
theorem dX12_chanceOf_2 : decode cX12_chanceOf 2 = .ok (.iload_n 1, 1) ∧ 2 + 1 = 3 := ⟨by decide +kernel, rfl⟩
set_option maxRecDepth 20000 in
theorem dX12_chanceOf_3 : decode cX12_chanceOf 3 = .ok (.iload_n 2, 1) ∧ 3 + 1 = 4 := ⟨by decide +kernel, rfl⟩
set_option maxRecDepth 20000 in
theorem dX12_chanceOf_4 : decode cX12_chanceOf 4 = .ok (.iload_n 3, 1) ∧ 4 + 1 = 5 := ⟨by decide +kernel, rfl⟩
set_option maxRecDepth 20000 in
theorem dX12_chanceOf_5 : decode cX12_chanceOf 5 = .ok (.iconst (-1), 1) ∧ 5 + 1 = 6 := ⟨by decide +kernel, rfl⟩
set_option maxRecDepth 20000 in
theorem dX12_chanceOf_6 : decode cX12_chanceOf 6 = .ok (.iload 4, 2) ∧ 6 + 2 = 8 := ⟨by decide +kernel, rfl⟩
set_option maxRecDepth 20000 in
theorem dX12_chanceOf_8 : decode cX12_chanceOf 8 = .ok (.bipush 50, 2) ∧ 8 + 2 = 10 := ⟨by decide +kernel, rfl⟩
set_option maxRecDepth 20000 in
theorem dX12_chanceOf_10 : decode cX12_chanceOf 10 = .ok (.bipush 100, 2) ∧ 10 + 2 = 12 := ⟨by decide +kernel, rfl⟩
set_option maxRecDepth 20000 in
theorem dX12_chanceOf_12 : decode cX12_chanceOf 12 = .ok (.invokevirtual 350, 3) ∧ 12 + 3 = 15 := ⟨by decide +kernel, rfl⟩
set_option maxRecDepth 20000 in
theorem dX12_chanceOf_15 : decode cX12_chanceOf 15 = .ok (.ireturn, 1) := by decide +kernel
set_option maxRecDepth 20000 in
theorem dX12_chance_0 : decode cX12_chance 0 = .ok (.aload_n 0, 1) ∧ 0 + 1 = 1 := ⟨by decide +kernel, rfl⟩
set_option maxRecDepth 20000 in
theorem dX12_chance_1 : decode cX12_chance 1 = .ok (.iconst 0, 1) ∧ 1 + 1 = 2 := ⟨by decide +kernel, rfl⟩
set_option maxRecDepth 20000 in
theorem dX12_chance_2 : decode cX12_chance 2 = .ok (.putfield 124, 3) ∧ 2 + 3 = 5 := ⟨by decide +kernel, rfl⟩
set_option maxRecDepth 20000 in
theorem dX12_chance_5 : decode cX12_chance 5 = .ok (.aload_n 0, 1) ∧ 5 + 1 = 6 := ⟨by decide +kernel, rfl⟩
set_option maxRecDepth 20000 in
theorem dX12_chance_6 : decode cX12_chance 6 = .ok (.iload_n 1, 1) ∧ 6 + 1 = 7 := ⟨by decide +kernel, rfl⟩
set_option maxRecDepth 20000 in
theorem dX12_chance_7 : decode cX12_chance 7 = .ok (.invokevirtual 153, 3) ∧ 7 + 3 = 10 := ⟨by decide +kernel, rfl⟩
set_option maxRecDepth 20000 in
theorem dX12_chance_10 : decode cX12_chance 10 = .ok (.ifCond .eq 33, 3) ∧ 10 + 3 = 13 ∧ ((10 : Nat) : Int) + (33) = ((43 : Nat) : Int) := ⟨by decide +kernel, rfl, by decide⟩
set_option maxRecDepth 20000 in
theorem dX12_chance_13 : decode cX12_chance 13 = .ok (.iload_n 2, 1) ∧ 13 + 1 = 14 := ⟨by decide +kernel, rfl⟩
set_option maxRecDepth 20000 in
theorem dX12_chance_14 : decode cX12_chance 14 = .ok (.invokestatic 166, 3) ∧ 14 + 3 = 17 := ⟨by decide +kernel, rfl⟩
set_option maxRecDepth 20000 in
theorem dX12_chance_17 : decode cX12_chance 17 = .ok (.ifCond .eq 26, 3) ∧ 17 + 3 = 20 ∧ ((17 : Nat) : Int) + (26) = ((43 : Nat) : Int) := ⟨by decide +kernel, rfl, by decide⟩
set_option maxRecDepth 20000 in
theorem dX12_chance_20 : decode cX12_chance 20 = .ok (.iload_n 3, 1) ∧ 20 + 1 = 21 := ⟨by decide +kernel, rfl⟩
set_option maxRecDepth 20000 in
theorem dX12_chance_21 : decode cX12_chance 21 = .ok (.i2l, 1) ∧ 21 + 1 = 22 := ⟨by decide +kernel, rfl⟩
set_option maxRecDepth 20000 in
theorem dX12_chance_22 : decode cX12_chance 22 = .ok (.lconst 0, 1) ∧ 22 + 1 = 23 := ⟨by decide +kernel, rfl⟩
set_option maxRecDepth 20000 in
theorem dX12_chance_23 : decode cX12_chance 23 = .ok (.ldc2_w 147, 3) ∧ 23 + 3 = 26 := ⟨by decide +kernel, rfl⟩
set_option maxRecDepth 20000 in
theorem dX12_chance_26 : decode cX12_chance 26 = .ok (.invokestatic 134, 3) ∧ 26 + 3 = 29 := ⟨by decide +kernel, rfl⟩
set_option maxRecDepth 20000 in
theorem dX12_chance_29 : decode cX12_chance 29 = .ok (.ifCond .eq 14, 3) ∧ 29 + 3 = 32 ∧ ((29 : Nat) : Int) + (14) = ((43 : Nat) : Int) := ⟨by decide +kernel, rfl, by decide⟩
set_option maxRecDepth 20000 in
theorem dX12_chance_32 : decode cX12_chance 32 = .ok (.aload_n 0, 1) ∧ 32 + 1 = 33 := ⟨by decide +kernel, rfl⟩
set_option maxRecDepth 20000 in
theorem dX12_chance_33 : decode cX12_chance 33 = .ok (.iload_n 1, 1) ∧ 33 + 1 = 34 := ⟨by decide +kernel, rfl⟩
set_option maxRecDepth 20000 in
theorem dX12_chance_34 : decode cX12_chance 34 = .ok (.iload_n 2, 1) ∧ 34 + 1 = 35 := ⟨by decide +kernel, rfl⟩
set_option maxRecDepth 20000 in
theorem dX12_chance_35 : decode cX12_chance 35 = .ok (.iload_n 3, 1) ∧ 35 + 1 = 36 := ⟨by decide +kernel, rfl⟩
set_option maxRecDepth 20000 in
theorem dX12_chance_36 : decode cX12_chance 36 = .ok (.iconst 0, 1) ∧ 36 + 1 = 37 := ⟨by decide +kernel, rfl⟩
set_option maxRecDepth 20000 in
theorem dX12_chance_37 : decode cX12_chance 37 = .ok (.invokevirtual 354, 3) ∧ 37 + 3 = 40 := ⟨by decide +kernel, rfl⟩
set_option maxRecDepth 20000 in
theorem dX12_chance_40 : decode cX12_chance 40 = .ok (.goto 4, 3) ∧ ((40 : Nat) : Int) + (4) = ((44 : Nat) : Int) := ⟨by decide +kernel, by decide⟩
set_option maxRecDepth 20000 in
theorem dX12_chance_43 : decode cX12_chance 43 = .ok (.iconst (-1), 1) ∧ 43 + 1 = 44 := ⟨by decide +kernel, rfl⟩
set_option maxRecDepth 20000 in
theorem dX12_chance_44 : decode cX12_chance 44 = .ok (.ireturn, 1) := by decide +kernel
set_option maxRecDepth 20000 in
theorem dX12_priceOf_0 : decode cX12_priceOf 0 = .ok (.aload_n 0, 1) ∧ 0 + 1 = 1 := ⟨by decide +kernel, rfl⟩
set_option maxRecDepth 20000 in
theorem dX12_priceOf_1 : decode cX12_priceOf 1 = .ok (.iconst 2, 1) ∧ 1 + 1 = 2 := ⟨by decide +kernel, rfl⟩
set_option maxRecDepth 20000 in
theorem dX12_priceOf_2 : decode cX12_priceOf 2 = .ok (.iload_n 1, 1) ∧ 2 + 1 = 3 := ⟨by decide +kernel, rfl⟩
set_option maxRecDepth 20000 in
theorem dX12_priceOf_3 : decode cX12_priceOf 3 = .ok (.aload_n 0, 1) ∧ 3 + 1 = 4 := ⟨by decide +kernel, rfl⟩
set_option maxRecDepth 20000 in
theorem dX12_priceOf_4 : decode cX12_priceOf 4 = .ok (.getfield 13, 3) ∧ 4 + 3 = 7 := ⟨by decide +kernel, rfl⟩
set_option maxRecDepth 20000 in
theorem dX12_priceOf_7 : decode cX12_priceOf 7 = .ok (.bipush 6, 2) ∧ 7 + 2 = 9 := ⟨by decide +kernel, rfl⟩
set_option maxRecDepth 20000 in
theorem dX12_priceOf_9 : decode cX12_priceOf 9 = .ok (.iaload, 1) ∧ 9 + 1 = 10 := ⟨by decide +kernel, rfl⟩
set_option maxRecDepth 20000 in
theorem dX12_priceOf_10 : decode cX12_priceOf 10 = .ok (.aload_n 0, 1) ∧ 10 + 1 = 11 := ⟨by decide +kernel, rfl⟩
set_option maxRecDepth 20000 in
theorem dX12_priceOf_11 : decode cX12_priceOf 11 = .ok (.iload_n 1, 1) ∧ 11 + 1 = 12 := ⟨by decide +kernel, rfl⟩
set_option maxRecDepth 20000 in
theorem dX12_priceOf_12 : decode cX12_priceOf 12 = .ok (.iconst 5, 1) ∧ 12 + 1 = 13 := ⟨by decide +kernel, rfl⟩
set_option maxRecDepth 20000 in
theorem dX12_priceOf_13 : decode cX12_priceOf 13 = .ok (.invokevirtual 163, 3) ∧ 13 + 3 = 16 := ⟨by decide +kernel, rfl⟩
set_option maxRecDepth 20000 in
theorem dX12_priceOf_16 : decode cX12_priceOf 16 = .ok (.iload_n 2, 1) ∧ 16 + 1 = 17 := ⟨by decide +kernel, rfl⟩
set_option maxRecDepth 20000 in
theorem dX12_priceOf_17 : decode cX12_priceOf 17 = .ok (.iconst 0, 1) ∧ 17 + 1 = 18 := ⟨by decide +kernel, rfl⟩
set_option maxRecDepth 20000 in
theorem dX12_priceOf_18 : decode cX12_priceOf 18 = .ok (.bipush 10, 2) ∧ 18 + 2 = 20 := ⟨by decide +kernel, rfl⟩
set_option maxRecDepth 20000 in
theorem dX12_priceOf_20 : decode cX12_priceOf 20 = .ok (.sipush 999, 3) ∧ 20 + 3 = 23 := ⟨by decide +kernel, rfl⟩
set_option maxRecDepth 20000 in
theorem dX12_priceOf_23 : decode cX12_priceOf 23 = .ok (.invokevirtual 350, 3) ∧ 23 + 3 = 26 := ⟨by decide +kernel, rfl⟩
set_option maxRecDepth 20000 in
theorem dX12_priceOf_26 : decode cX12_priceOf 26 = .ok (.ireturn, 1) := by decide +kernel
set_option maxRecDepth 20000 in
theorem dX12_price_0 : decode cX12_price 0 = .ok (.aload_n 0, 1) ∧ 0 + 1 = 1 := ⟨by decide +kernel, rfl⟩
set_option maxRecDepth 20000 in
theorem dX12_price_1 : decode cX12_price 1 = .ok (.iconst 0, 1) ∧ 1 + 1 = 2 := ⟨by decide +kernel, rfl⟩
set_option maxRecDepth 20000 in
theorem dX12_price_2 : decode cX12_price 2 = .ok (.putfield 124, 3) ∧ 2 + 3 = 5 := ⟨by decide +kernel, rfl⟩
set_option maxRecDepth 20000 in
theorem dX12_price_5 : decode cX12_price 5 = .ok (.aload_n 0, 1) ∧ 5 + 1 = 6 := ⟨by decide +kernel, rfl⟩
set_option maxRecDepth 20000 in
theorem dX12_price_6 : decode cX12_price 6 = .ok (.iload_n 1, 1) ∧ 6 + 1 = 7 := ⟨by decide +kernel, rfl⟩
set_option maxRecDepth 20000 in
theorem dX12_price_7 : decode cX12_price 7 = .ok (.invokevirtual 153, 3) ∧ 7 + 3 = 10 := ⟨by decide +kernel, rfl⟩
set_option maxRecDepth 20000 in
theorem dX12_price_10 : decode cX12_price 10 = .ok (.ifCond .eq 19, 3) ∧ 10 + 3 = 13 ∧ ((10 : Nat) : Int) + (19) = ((29 : Nat) : Int) := ⟨by decide +kernel, rfl, by decide⟩
set_option maxRecDepth 20000 in
theorem dX12_price_13 : decode cX12_price 13 = .ok (.iload_n 2, 1) ∧ 13 + 1 = 14 := ⟨by decide +kernel, rfl⟩
set_option maxRecDepth 20000 in
theorem dX12_price_14 : decode cX12_price 14 = .ok (.invokestatic 358, 3) ∧ 14 + 3 = 17 := ⟨by decide +kernel, rfl⟩
set_option maxRecDepth 20000 in
theorem dX12_price_17 : decode cX12_price 17 = .ok (.ifCond .eq 12, 3) ∧ 17 + 3 = 20 ∧ ((17 : Nat) : Int) + (12) = ((29 : Nat) : Int) := ⟨by decide +kernel, rfl, by decide⟩
set_option maxRecDepth 20000 in
theorem dX12_price_20 : decode cX12_price 20 = .ok (.aload_n 0, 1) ∧ 20 + 1 = 21 := ⟨by decide +kernel, rfl⟩
set_option maxRecDepth 20000 in
theorem dX12_price_21 : decode cX12_price 21 = .ok (.iload_n 1, 1) ∧ 21 + 1 = 22 := ⟨by decide +kernel, rfl⟩
set_option maxRecDepth 20000 in
theorem dX12_price_22 : decode cX12_price 22 = .ok (.iload_n 2, 1) ∧ 22 + 1 = 23 := ⟨by decide +kernel, rfl⟩
set_option maxRecDepth 20000 in
theorem dX12_price_23 : decode cX12_price 23 = .ok (.invokevirtual 361, 3) ∧ 23 + 3 = 26 := ⟨by decide +kernel, rfl⟩
set_option maxRecDepth 20000 in
theorem dX12_price_26 : decode cX12_price 26 = .ok (.goto 4, 3) ∧ ((26 : Nat) : Int) + (4) = ((30 : Nat) : Int) := ⟨by decide +kernel, by decide⟩
set_option maxRecDepth 20000 in
theorem dX12_price_29 : decode cX12_price 29 = .ok (.iconst (-1), 1) ∧ 29 + 1 = 30 := ⟨by decide +kernel, rfl⟩
set_option maxRecDepth 20000 in
theorem dX12_price_30 : decode cX12_price 30 = .ok (.ireturn, 1) := by decide +kernel
set_option maxRecDepth 20000 in
theorem dX12_layChances_0 : decode cX12_layChances 0 = .ok (.iconst 0, 1) ∧ 0 + 1 = 1 := ⟨by decide +kernel, rfl⟩
set_option maxRecDepth 20000 in
theorem dX12_layChances_1 : decode cX12_layChances 1 = .ok (.istore_n 2, 1) ∧ 1 + 1 = 2 := ⟨by decide +kernel, rfl⟩
set_option maxRecDepth 20000 in
theorem dX12_layChances_2 : decode cX12_layChances 2 = .ok (.iload_n 2, 1) ∧ 2 + 1 = 3 := ⟨by decide +kernel, rfl⟩
set_option maxRecDepth 20000 in
theorem dX12_layChances_3 : decode cX12_layChances 3 = .ok (.aload_n 0, 1) ∧ 3 + 1 = 4 := ⟨by decide +kernel, rfl⟩
set_option maxRecDepth 20000 in
theorem dX12_layChances_4 : decode cX12_layChances 4 = .ok (.getfield 13, 3) ∧ 4 + 3 = 7 := ⟨by decide +kernel, rfl⟩
set_option maxRecDepth 20000 in
theorem dX12_layChances_7 : decode cX12_layChances 7 = .ok (.iconst 0, 1) ∧ 7 + 1 = 8 := ⟨by decide +kernel, rfl⟩
set_option maxRecDepth 20000 in
theorem dX12_layChances_8 : decode cX12_layChances 8 = .ok (.iaload, 1) ∧ 8 + 1 = 9 := ⟨by decide +kernel, rfl⟩
set_option maxRecDepth 20000 in
theorem dX12_layChances_9 : decode cX12_layChances 9 = .ok (.if_icmp .ge 40, 3) ∧ 9 + 3 = 12 ∧ ((9 : Nat) : Int) + (40) = ((49 : Nat) : Int) := ⟨by decide +kernel, rfl, by decide⟩
set_option maxRecDepth 20000 in
theorem dX12_layChances_12 : decode cX12_layChances 12 = .ok (.iconst 0, 1) ∧ 12 + 1 = 13 := ⟨by decide +kernel, rfl⟩
set_option maxRecDepth 20000 in
theorem dX12_layChances_13 : decode cX12_layChances 13 = .ok (.istore_n 3, 1) ∧ 13 + 1 = 14 := ⟨by decide +kernel, rfl⟩
set_option maxRecDepth 20000 in
theorem dX12_layChances_14 : decode cX12_layChances 14 = .ok (.iload_n 3, 1) ∧ 14 + 1 = 15 := ⟨by decide +kernel, rfl⟩
set_option maxRecDepth 20000 in
theorem dX12_layChances_15 : decode cX12_layChances 15 = .ok (.iconst 4, 1) ∧ 15 + 1 = 16 := ⟨by decide +kernel, rfl⟩
set_option maxRecDepth 20000 in
theorem dX12_layChances_16 : decode cX12_layChances 16 = .ok (.if_icmp .ge 27, 3) ∧ 16 + 3 = 19 ∧ ((16 : Nat) : Int) + (27) = ((43 : Nat) : Int) := ⟨by decide +kernel, rfl, by decide⟩
set_option maxRecDepth 20000 in
theorem dX12_layChances_19 : decode cX12_layChances 19 = .ok (.aload_n 0, 1) ∧ 19 + 1 = 20 := ⟨by decide +kernel, rfl⟩
set_option maxRecDepth 20000 in
theorem dX12_layChances_20 : decode cX12_layChances 20 = .ok (.getfield 84, 3) ∧ 20 + 3 = 23 := ⟨by decide +kernel, rfl⟩
set_option maxRecDepth 20000 in
theorem dX12_layChances_23 : decode cX12_layChances 23 = .ok (.iconst 4, 1) ∧ 23 + 1 = 24 := ⟨by decide +kernel, rfl⟩
set_option maxRecDepth 20000 in
theorem dX12_layChances_24 : decode cX12_layChances 24 = .ok (.iload_n 2, 1) ∧ 24 + 1 = 25 := ⟨by decide +kernel, rfl⟩
set_option maxRecDepth 20000 in
theorem dX12_layChances_25 : decode cX12_layChances 25 = .ok (.imul, 1) ∧ 25 + 1 = 26 := ⟨by decide +kernel, rfl⟩
set_option maxRecDepth 20000 in
theorem dX12_layChances_26 : decode cX12_layChances 26 = .ok (.iload_n 3, 1) ∧ 26 + 1 = 27 := ⟨by decide +kernel, rfl⟩
set_option maxRecDepth 20000 in
theorem dX12_layChances_27 : decode cX12_layChances 27 = .ok (.iadd, 1) ∧ 27 + 1 = 28 := ⟨by decide +kernel, rfl⟩
set_option maxRecDepth 20000 in
theorem dX12_layChances_28 : decode cX12_layChances 28 = .ok (.aload_n 0, 1) ∧ 28 + 1 = 29 := ⟨by decide +kernel, rfl⟩
set_option maxRecDepth 20000 in
theorem dX12_layChances_29 : decode cX12_layChances 29 = .ok (.iload_n 2, 1) ∧ 29 + 1 = 30 := ⟨by decide +kernel, rfl⟩
set_option maxRecDepth 20000 in
theorem dX12_layChances_30 : decode cX12_layChances 30 = .ok (.iload_n 1, 1) ∧ 30 + 1 = 31 := ⟨by decide +kernel, rfl⟩
set_option maxRecDepth 20000 in
theorem dX12_layChances_31 : decode cX12_layChances 31 = .ok (.iload_n 3, 1) ∧ 31 + 1 = 32 := ⟨by decide +kernel, rfl⟩
set_option maxRecDepth 20000 in
theorem dX12_layChances_32 : decode cX12_layChances 32 = .ok (.iconst 0, 1) ∧ 32 + 1 = 33 := ⟨by decide +kernel, rfl⟩
set_option maxRecDepth 20000 in
theorem dX12_layChances_33 : decode cX12_layChances 33 = .ok (.invokevirtual 354, 3) ∧ 33 + 3 = 36 := ⟨by decide +kernel, rfl⟩
set_option maxRecDepth 20000 in
theorem dX12_layChances_36 : decode cX12_layChances 36 = .ok (.iastore, 1) ∧ 36 + 1 = 37 := ⟨by decide +kernel, rfl⟩
set_option maxRecDepth 20000 in
theorem dX12_layChances_37 : decode cX12_layChances 37 = .ok (.iinc 3 1, 3) ∧ 37 + 3 = 40 := ⟨by decide +kernel, rfl⟩
set_option maxRecDepth 20000 in
theorem dX12_layChances_40 : decode cX12_layChances 40 = .ok (.goto (-26), 3) ∧ ((40 : Nat) : Int) + (-26) = ((14 : Nat) : Int) := ⟨by decide +kernel, by decide⟩
set_option maxRecDepth 20000 in
theorem dX12_layChances_43 : decode cX12_layChances 43 = .ok (.iinc 2 1, 3) ∧ 43 + 3 = 46 := ⟨by decide +kernel, rfl⟩
set_option maxRecDepth 20000 in
theorem dX12_layChances_46 : decode cX12_layChances 46 = .ok (.goto (-44), 3) ∧ ((46 : Nat) : Int) + (-44) = ((2 : Nat) : Int) := ⟨by decide +kernel, by decide⟩
set_option maxRecDepth 20000 in
theorem dX12_layChances_49 : decode cX12_layChances 49 = .ok (.return_, 1) := by decide +kernel
set_option maxRecDepth 20000 in
theorem dX12_power_0 : decode cX12_power 0 = .ok (.lconst 1, 1) ∧ 0 + 1 = 1 := ⟨by decide +kernel, rfl⟩
set_option maxRecDepth 20000 in
theorem dX12_power_1 : decode cX12_power 1 = .ok (.lstore_n 1, 1) ∧ 1 + 1 = 2 := ⟨by decide +kernel, rfl⟩
set_option maxRecDepth 20000 in
theorem dX12_power_2 : decode cX12_power 2 = .ok (.iconst 0, 1) ∧ 2 + 1 = 3 := ⟨by decide +kernel, rfl⟩
set_option maxRecDepth 20000 in
theorem dX12_power_3 : decode cX12_power 3 = .ok (.istore_n 3, 1) ∧ 3 + 1 = 4 := ⟨by decide +kernel, rfl⟩
set_option maxRecDepth 20000 in
theorem dX12_power_4 : decode cX12_power 4 = .ok (.iload_n 3, 1) ∧ 4 + 1 = 5 := ⟨by decide +kernel, rfl⟩
set_option maxRecDepth 20000 in
theorem dX12_power_5 : decode cX12_power 5 = .ok (.iload_n 0, 1) ∧ 5 + 1 = 6 := ⟨by decide +kernel, rfl⟩
set_option maxRecDepth 20000 in
theorem dX12_power_6 : decode cX12_power 6 = .ok (.if_icmp .ge 15, 3) ∧ 6 + 3 = 9 ∧ ((6 : Nat) : Int) + (15) = ((21 : Nat) : Int) := ⟨by decide +kernel, rfl, by decide⟩
set_option maxRecDepth 20000 in
theorem dX12_power_9 : decode cX12_power 9 = .ok (.lload_n 1, 1) ∧ 9 + 1 = 10 := ⟨by decide +kernel, rfl⟩
set_option maxRecDepth 20000 in
theorem dX12_power_10 : decode cX12_power 10 = .ok (.ldc2_w 179, 3) ∧ 10 + 3 = 13 := ⟨by decide +kernel, rfl⟩
set_option maxRecDepth 20000 in
theorem dX12_power_13 : decode cX12_power 13 = .ok (.lmul, 1) ∧ 13 + 1 = 14 := ⟨by decide +kernel, rfl⟩
set_option maxRecDepth 20000 in
theorem dX12_power_14 : decode cX12_power 14 = .ok (.lstore_n 1, 1) ∧ 14 + 1 = 15 := ⟨by decide +kernel, rfl⟩
set_option maxRecDepth 20000 in
theorem dX12_power_15 : decode cX12_power 15 = .ok (.iinc 3 1, 3) ∧ 15 + 3 = 18 := ⟨by decide +kernel, rfl⟩
set_option maxRecDepth 20000 in
theorem dX12_power_18 : decode cX12_power 18 = .ok (.goto (-14), 3) ∧ ((18 : Nat) : Int) + (-14) = ((4 : Nat) : Int) := ⟨by decide +kernel, by decide⟩
set_option maxRecDepth 20000 in
theorem dX12_power_21 : decode cX12_power 21 = .ok (.lload_n 1, 1) ∧ 21 + 1 = 22 := ⟨by decide +kernel, rfl⟩
set_option maxRecDepth 20000 in
theorem dX12_power_22 : decode cX12_power 22 = .ok (.lreturn, 1) := by decide +kernel
set_option maxRecDepth 20000 in
theorem dX12_countVotes_0 : decode cX12_countVotes 0 = .ok (.iconst 0, 1) ∧ 0 + 1 = 1 := ⟨by decide +kernel, rfl⟩
set_option maxRecDepth 20000 in
theorem dX12_countVotes_1 : decode cX12_countVotes 1 = .ok (.istore 4, 2) ∧ 1 + 2 = 3 := ⟨by decide +kernel, rfl⟩
set_option maxRecDepth 20000 in
theorem dX12_countVotes_3 : decode cX12_countVotes 3 = .ok (.iload 4, 2) ∧ 3 + 2 = 5 := ⟨by decide +kernel, rfl⟩
set_option maxRecDepth 20000 in
theorem dX12_countVotes_5 : decode cX12_countVotes 5 = .ok (.bipush 10, 2) ∧ 5 + 2 = 7 := ⟨by decide +kernel, rfl⟩
set_option maxRecDepth 20000 in
theorem dX12_countVotes_7 : decode cX12_countVotes 7 = .ok (.if_icmp .ge 26, 3) ∧ 7 + 3 = 10 ∧ ((7 : Nat) : Int) + (26) = ((33 : Nat) : Int) := ⟨by decide +kernel, rfl, by decide⟩
set_option maxRecDepth 20000 in
theorem dX12_countVotes_10 : decode cX12_countVotes 10 = .ok (.aload_n 0, 1) ∧ 10 + 1 = 11 := ⟨by decide +kernel, rfl⟩
set_option maxRecDepth 20000 in
theorem dX12_countVotes_11 : decode cX12_countVotes 11 = .ok (.getfield 87, 3) ∧ 11 + 3 = 14 := ⟨by decide +kernel, rfl⟩
set_option maxRecDepth 20000 in
theorem dX12_countVotes_14 : decode cX12_countVotes 14 = .ok (.iload 4, 2) ∧ 14 + 2 = 16 := ⟨by decide +kernel, rfl⟩
set_option maxRecDepth 20000 in
theorem dX12_countVotes_16 : decode cX12_countVotes 16 = .ok (.iload 4, 2) ∧ 16 + 2 = 18 := ⟨by decide +kernel, rfl⟩
set_option maxRecDepth 20000 in
theorem dX12_countVotes_18 : decode cX12_countVotes 18 = .ok (.ifCond .ne 7, 3) ∧ 18 + 3 = 21 ∧ ((18 : Nat) : Int) + (7) = ((25 : Nat) : Int) := ⟨by decide +kernel, rfl, by decide⟩
set_option maxRecDepth 20000 in
theorem dX12_countVotes_21 : decode cX12_countVotes 21 = .ok (.lconst 1, 1) ∧ 21 + 1 = 22 := ⟨by decide +kernel, rfl⟩
set_option maxRecDepth 20000 in
theorem dX12_countVotes_22 : decode cX12_countVotes 22 = .ok (.goto 4, 3) ∧ ((22 : Nat) : Int) + (4) = ((26 : Nat) : Int) := ⟨by decide +kernel, by decide⟩
set_option maxRecDepth 20000 in
theorem dX12_countVotes_25 : decode cX12_countVotes 25 = .ok (.lconst 0, 1) ∧ 25 + 1 = 26 := ⟨by decide +kernel, rfl⟩
set_option maxRecDepth 20000 in
theorem dX12_countVotes_26 : decode cX12_countVotes 26 = .ok (.lastore, 1) ∧ 26 + 1 = 27 := ⟨by decide +kernel, rfl⟩
set_option maxRecDepth 20000 in
theorem dX12_countVotes_27 : decode cX12_countVotes 27 = .ok (.iinc 4 1, 3) ∧ 27 + 3 = 30 := ⟨by decide +kernel, rfl⟩
set_option maxRecDepth 20000 in
theorem dX12_countVotes_30 : decode cX12_countVotes 30 = .ok (.goto (-27), 3) ∧ ((30 : Nat) : Int) + (-27) = ((3 : Nat) : Int) := ⟨by decide +kernel, by decide⟩
set_option maxRecDepth 20000 in
theorem dX12_countVotes_33 : decode cX12_countVotes 33 = .ok (.iconst 0, 1) ∧ 33 + 1 = 34 := ⟨by decide +kernel, rfl⟩
set_option maxRecDepth 20000 in
theorem dX12_countVotes_34 : decode cX12_countVotes 34 = .ok (.istore 4, 2) ∧ 34 + 2 = 36 := ⟨by decide +kernel, rfl⟩
set_option maxRecDepth 20000 in
theorem dX12_countVotes_36 : decode cX12_countVotes 36 = .ok (.iload 4, 2) ∧ 36 + 2 = 38 := ⟨by decide +kernel, rfl⟩
set_option maxRecDepth 20000 in
theorem dX12_countVotes_38 : decode cX12_countVotes 38 = .ok (.bipush 8, 2) ∧ 38 + 2 = 40 := ⟨by decide +kernel, rfl⟩
set_option maxRecDepth 20000 in
theorem dX12_countVotes_40 : decode cX12_countVotes 40 = .ok (.if_icmp .ge 130, 3) ∧ 40 + 3 = 43 ∧ ((40 : Nat) : Int) + (130) = ((170 : Nat) : Int) := ⟨by decide +kernel, rfl, by decide⟩
set_option maxRecDepth 20000 in
theorem dX12_countVotes_43 : decode cX12_countVotes 43 = .ok (.iload_n 1, 1) ∧ 43 + 1 = 44 := ⟨by decide +kernel, rfl⟩
set_option maxRecDepth 20000 in
theorem dX12_countVotes_44 : decode cX12_countVotes 44 = .ok (.iload 4, 2) ∧ 44 + 2 = 46 := ⟨by decide +kernel, rfl⟩
set_option maxRecDepth 20000 in
theorem dX12_countVotes_46 : decode cX12_countVotes 46 = .ok (.invokestatic 364, 3) ∧ 46 + 3 = 49 := ⟨by decide +kernel, rfl⟩
set_option maxRecDepth 20000 in
theorem dX12_countVotes_49 : decode cX12_countVotes 49 = .ok (.ifCond .eq 115, 3) ∧ 49 + 3 = 52 ∧ ((49 : Nat) : Int) + (115) = ((164 : Nat) : Int) := ⟨by decide +kernel, rfl, by decide⟩
set_option maxRecDepth 20000 in
theorem dX12_countVotes_52 : decode cX12_countVotes 52 = .ok (.aload_n 0, 1) ∧ 52 + 1 = 53 := ⟨by decide +kernel, rfl⟩
set_option maxRecDepth 20000 in
theorem dX12_countVotes_53 : decode cX12_countVotes 53 = .ok (.iload 4, 2) ∧ 53 + 2 = 55 := ⟨by decide +kernel, rfl⟩
set_option maxRecDepth 20000 in
theorem dX12_countVotes_55 : decode cX12_countVotes 55 = .ok (.iconst 5, 1) ∧ 55 + 1 = 56 := ⟨by decide +kernel, rfl⟩
set_option maxRecDepth 20000 in
theorem dX12_countVotes_56 : decode cX12_countVotes 56 = .ok (.invokevirtual 163, 3) ∧ 56 + 3 = 59 := ⟨by decide +kernel, rfl⟩
set_option maxRecDepth 20000 in
theorem dX12_countVotes_59 : decode cX12_countVotes 59 = .ok (.iload_n 2, 1) ∧ 59 + 1 = 60 := ⟨by decide +kernel, rfl⟩
set_option maxRecDepth 20000 in
theorem dX12_countVotes_60 : decode cX12_countVotes 60 = .ok (.iload 4, 2) ∧ 60 + 2 = 62 := ⟨by decide +kernel, rfl⟩
set_option maxRecDepth 20000 in
theorem dX12_countVotes_62 : decode cX12_countVotes 62 = .ok (.invokestatic 364, 3) ∧ 62 + 3 = 65 := ⟨by decide +kernel, rfl⟩
set_option maxRecDepth 20000 in
theorem dX12_countVotes_65 : decode cX12_countVotes 65 = .ok (.ifCond .eq 7, 3) ∧ 65 + 3 = 68 ∧ ((65 : Nat) : Int) + (7) = ((72 : Nat) : Int) := ⟨by decide +kernel, rfl, by decide⟩
set_option maxRecDepth 20000 in
theorem dX12_countVotes_68 : decode cX12_countVotes 68 = .ok (.iconst 1, 1) ∧ 68 + 1 = 69 := ⟨by decide +kernel, rfl⟩
set_option maxRecDepth 20000 in
theorem dX12_countVotes_69 : decode cX12_countVotes 69 = .ok (.goto 4, 3) ∧ ((69 : Nat) : Int) + (4) = ((73 : Nat) : Int) := ⟨by decide +kernel, by decide⟩
set_option maxRecDepth 20000 in
theorem dX12_countVotes_72 : decode cX12_countVotes 72 = .ok (.iconst 0, 1) ∧ 72 + 1 = 73 := ⟨by decide +kernel, rfl⟩
set_option maxRecDepth 20000 in
theorem dX12_countVotes_73 : decode cX12_countVotes 73 = .ok (.ior, 1) ∧ 73 + 1 = 74 := ⟨by decide +kernel, rfl⟩
set_option maxRecDepth 20000 in
theorem dX12_countVotes_74 : decode cX12_countVotes 74 = .ok (.iload_n 3, 1) ∧ 74 + 1 = 75 := ⟨by decide +kernel, rfl⟩
set_option maxRecDepth 20000 in
theorem dX12_countVotes_75 : decode cX12_countVotes 75 = .ok (.iload 4, 2) ∧ 75 + 2 = 77 := ⟨by decide +kernel, rfl⟩
set_option maxRecDepth 20000 in
theorem dX12_countVotes_77 : decode cX12_countVotes 77 = .ok (.invokestatic 364, 3) ∧ 77 + 3 = 80 := ⟨by decide +kernel, rfl⟩
set_option maxRecDepth 20000 in
theorem dX12_countVotes_80 : decode cX12_countVotes 80 = .ok (.ifCond .eq 7, 3) ∧ 80 + 3 = 83 ∧ ((80 : Nat) : Int) + (7) = ((87 : Nat) : Int) := ⟨by decide +kernel, rfl, by decide⟩
set_option maxRecDepth 20000 in
theorem dX12_countVotes_83 : decode cX12_countVotes 83 = .ok (.iconst 2, 1) ∧ 83 + 1 = 84 := ⟨by decide +kernel, rfl⟩
set_option maxRecDepth 20000 in
theorem dX12_countVotes_84 : decode cX12_countVotes 84 = .ok (.goto 4, 3) ∧ ((84 : Nat) : Int) + (4) = ((88 : Nat) : Int) := ⟨by decide +kernel, by decide⟩
set_option maxRecDepth 20000 in
theorem dX12_countVotes_87 : decode cX12_countVotes 87 = .ok (.iconst 0, 1) ∧ 87 + 1 = 88 := ⟨by decide +kernel, rfl⟩
set_option maxRecDepth 20000 in
theorem dX12_countVotes_88 : decode cX12_countVotes 88 = .ok (.ior, 1) ∧ 88 + 1 = 89 := ⟨by decide +kernel, rfl⟩
set_option maxRecDepth 20000 in
theorem dX12_countVotes_89 : decode cX12_countVotes 89 = .ok (.istore 5, 2) ∧ 89 + 2 = 91 := ⟨by decide +kernel, rfl⟩
set_option maxRecDepth 20000 in
theorem dX12_countVotes_91 : decode cX12_countVotes 91 = .ok (.aload_n 0, 1) ∧ 91 + 1 = 92 := ⟨by decide +kernel, rfl⟩
set_option maxRecDepth 20000 in
theorem dX12_countVotes_92 : decode cX12_countVotes 92 = .ok (.getfield 84, 3) ∧ 92 + 3 = 95 := ⟨by decide +kernel, rfl⟩
set_option maxRecDepth 20000 in
theorem dX12_countVotes_95 : decode cX12_countVotes 95 = .ok (.iconst 4, 1) ∧ 95 + 1 = 96 := ⟨by decide +kernel, rfl⟩
set_option maxRecDepth 20000 in
theorem dX12_countVotes_96 : decode cX12_countVotes 96 = .ok (.iload 4, 2) ∧ 96 + 2 = 98 := ⟨by decide +kernel, rfl⟩
set_option maxRecDepth 20000 in
theorem dX12_countVotes_98 : decode cX12_countVotes 98 = .ok (.imul, 1) ∧ 98 + 1 = 99 := ⟨by decide +kernel, rfl⟩
set_option maxRecDepth 20000 in
theorem dX12_countVotes_99 : decode cX12_countVotes 99 = .ok (.iload 5, 2) ∧ 99 + 2 = 101 := ⟨by decide +kernel, rfl⟩
set_option maxRecDepth 20000 in
theorem dX12_countVotes_101 : decode cX12_countVotes 101 = .ok (.iadd, 1) ∧ 101 + 1 = 102 := ⟨by decide +kernel, rfl⟩
set_option maxRecDepth 20000 in
theorem dX12_countVotes_102 : decode cX12_countVotes 102 = .ok (.iaload, 1) ∧ 102 + 1 = 103 := ⟨by decide +kernel, rfl⟩
set_option maxRecDepth 20000 in
theorem dX12_countVotes_103 : decode cX12_countVotes 103 = .ok (.istore 6, 2) ∧ 103 + 2 = 105 := ⟨by decide +kernel, rfl⟩
set_option maxRecDepth 20000 in
theorem dX12_countVotes_105 : decode cX12_countVotes 105 = .ok (.bipush 8, 2) ∧ 105 + 2 = 107 := ⟨by decide +kernel, rfl⟩
set_option maxRecDepth 20000 in
theorem dX12_countVotes_107 : decode cX12_countVotes 107 = .ok (.istore 7, 2) ∧ 107 + 2 = 109 := ⟨by decide +kernel, rfl⟩
set_option maxRecDepth 20000 in
theorem dX12_countVotes_109 : decode cX12_countVotes 109 = .ok (.iload 7, 2) ∧ 109 + 2 = 111 := ⟨by decide +kernel, rfl⟩
set_option maxRecDepth 20000 in
theorem dX12_countVotes_111 : decode cX12_countVotes 111 = .ok (.ifCond .lt 53, 3) ∧ 111 + 3 = 114 ∧ ((111 : Nat) : Int) + (53) = ((164 : Nat) : Int) := ⟨by decide +kernel, rfl, by decide⟩
set_option maxRecDepth 20000 in
theorem dX12_countVotes_114 : decode cX12_countVotes 114 = .ok (.aload_n 0, 1) ∧ 114 + 1 = 115 := ⟨by decide +kernel, rfl⟩
set_option maxRecDepth 20000 in
theorem dX12_countVotes_115 : decode cX12_countVotes 115 = .ok (.getfield 87, 3) ∧ 115 + 3 = 118 := ⟨by decide +kernel, rfl⟩
set_option maxRecDepth 20000 in
theorem dX12_countVotes_118 : decode cX12_countVotes 118 = .ok (.iload 7, 2) ∧ 118 + 2 = 120 := ⟨by decide +kernel, rfl⟩
set_option maxRecDepth 20000 in
theorem dX12_countVotes_120 : decode cX12_countVotes 120 = .ok (.aload_n 0, 1) ∧ 120 + 1 = 121 := ⟨by decide +kernel, rfl⟩
set_option maxRecDepth 20000 in
theorem dX12_countVotes_121 : decode cX12_countVotes 121 = .ok (.getfield 87, 3) ∧ 121 + 3 = 124 := ⟨by decide +kernel, rfl⟩
set_option maxRecDepth 20000 in
theorem dX12_countVotes_124 : decode cX12_countVotes 124 = .ok (.iload 7, 2) ∧ 124 + 2 = 126 := ⟨by decide +kernel, rfl⟩
set_option maxRecDepth 20000 in
theorem dX12_countVotes_126 : decode cX12_countVotes 126 = .ok (.laload, 1) ∧ 126 + 1 = 127 := ⟨by decide +kernel, rfl⟩
set_option maxRecDepth 20000 in
theorem dX12_countVotes_127 : decode cX12_countVotes 127 = .ok (.bipush 100, 2) ∧ 127 + 2 = 129 := ⟨by decide +kernel, rfl⟩
set_option maxRecDepth 20000 in
theorem dX12_countVotes_129 : decode cX12_countVotes 129 = .ok (.iload 6, 2) ∧ 129 + 2 = 131 := ⟨by decide +kernel, rfl⟩
set_option maxRecDepth 20000 in
theorem dX12_countVotes_131 : decode cX12_countVotes 131 = .ok (.isub, 1) ∧ 131 + 1 = 132 := ⟨by decide +kernel, rfl⟩
set_option maxRecDepth 20000 in
theorem dX12_countVotes_132 : decode cX12_countVotes 132 = .ok (.i2l, 1) ∧ 132 + 1 = 133 := ⟨by decide +kernel, rfl⟩
set_option maxRecDepth 20000 in
theorem dX12_countVotes_133 : decode cX12_countVotes 133 = .ok (.lmul, 1) ∧ 133 + 1 = 134 := ⟨by decide +kernel, rfl⟩
set_option maxRecDepth 20000 in
theorem dX12_countVotes_134 : decode cX12_countVotes 134 = .ok (.iload 7, 2) ∧ 134 + 2 = 136 := ⟨by decide +kernel, rfl⟩
set_option maxRecDepth 20000 in
theorem dX12_countVotes_136 : decode cX12_countVotes 136 = .ok (.ifCond .le 19, 3) ∧ 136 + 3 = 139 ∧ ((136 : Nat) : Int) + (19) = ((155 : Nat) : Int) := ⟨by decide +kernel, rfl, by decide⟩
set_option maxRecDepth 20000 in
theorem dX12_countVotes_139 : decode cX12_countVotes 139 = .ok (.aload_n 0, 1) ∧ 139 + 1 = 140 := ⟨by decide +kernel, rfl⟩
set_option maxRecDepth 20000 in
theorem dX12_countVotes_140 : decode cX12_countVotes 140 = .ok (.getfield 87, 3) ∧ 140 + 3 = 143 := ⟨by decide +kernel, rfl⟩
set_option maxRecDepth 20000 in
theorem dX12_countVotes_143 : decode cX12_countVotes 143 = .ok (.iload 7, 2) ∧ 143 + 2 = 145 := ⟨by decide +kernel, rfl⟩
set_option maxRecDepth 20000 in
theorem dX12_countVotes_145 : decode cX12_countVotes 145 = .ok (.iconst 1, 1) ∧ 145 + 1 = 146 := ⟨by decide +kernel, rfl⟩
set_option maxRecDepth 20000 in
theorem dX12_countVotes_146 : decode cX12_countVotes 146 = .ok (.isub, 1) ∧ 146 + 1 = 147 := ⟨by decide +kernel, rfl⟩
set_option maxRecDepth 20000 in
theorem dX12_countVotes_147 : decode cX12_countVotes 147 = .ok (.laload, 1) ∧ 147 + 1 = 148 := ⟨by decide +kernel, rfl⟩
set_option maxRecDepth 20000 in
theorem dX12_countVotes_148 : decode cX12_countVotes 148 = .ok (.iload 6, 2) ∧ 148 + 2 = 150 := ⟨by decide +kernel, rfl⟩
set_option maxRecDepth 20000 in
theorem dX12_countVotes_150 : decode cX12_countVotes 150 = .ok (.i2l, 1) ∧ 150 + 1 = 151 := ⟨by decide +kernel, rfl⟩
set_option maxRecDepth 20000 in
theorem dX12_countVotes_151 : decode cX12_countVotes 151 = .ok (.lmul, 1) ∧ 151 + 1 = 152 := ⟨by decide +kernel, rfl⟩
set_option maxRecDepth 20000 in
theorem dX12_countVotes_152 : decode cX12_countVotes 152 = .ok (.goto 4, 3) ∧ ((152 : Nat) : Int) + (4) = ((156 : Nat) : Int) := ⟨by decide +kernel, by decide⟩
set_option maxRecDepth 20000 in
theorem dX12_countVotes_155 : decode cX12_countVotes 155 = .ok (.lconst 0, 1) ∧ 155 + 1 = 156 := ⟨by decide +kernel, rfl⟩
set_option maxRecDepth 20000 in
theorem dX12_countVotes_156 : decode cX12_countVotes 156 = .ok (.ladd, 1) ∧ 156 + 1 = 157 := ⟨by decide +kernel, rfl⟩
set_option maxRecDepth 20000 in
theorem dX12_countVotes_157 : decode cX12_countVotes 157 = .ok (.lastore, 1) ∧ 157 + 1 = 158 := ⟨by decide +kernel, rfl⟩
set_option maxRecDepth 20000 in
theorem dX12_countVotes_158 : decode cX12_countVotes 158 = .ok (.iinc 7 (-1), 3) ∧ 158 + 3 = 161 := ⟨by decide +kernel, rfl⟩
set_option maxRecDepth 20000 in
theorem dX12_countVotes_161 : decode cX12_countVotes 161 = .ok (.goto (-52), 3) ∧ ((161 : Nat) : Int) + (-52) = ((109 : Nat) : Int) := ⟨by decide +kernel, by decide⟩
set_option maxRecDepth 20000 in
theorem dX12_countVotes_164 : decode cX12_countVotes 164 = .ok (.iinc 4 1, 3) ∧ 164 + 3 = 167 := ⟨by decide +kernel, rfl⟩
set_option maxRecDepth 20000 in
theorem dX12_countVotes_167 : decode cX12_countVotes 167 = .ok (.goto (-131), 3) ∧ ((167 : Nat) : Int) + (-131) = ((36 : Nat) : Int) := ⟨by decide +kernel, by decide⟩
set_option maxRecDepth 20000 in
theorem dX12_countVotes_170 : decode cX12_countVotes 170 = .ok (.return_, 1) := by decide +kernel
set_option maxRecDepth 20000 in
theorem dX12_wins_0 : decode cX12_wins 0 = .ok (.aload_n 0, 1) ∧ 0 + 1 = 1 := ⟨by decide +kernel, rfl⟩
set_option maxRecDepth 20000 in
theorem dX12_wins_1 : decode cX12_wins 1 = .ok (.iload_n 1, 1) ∧ 1 + 1 = 2 := ⟨by decide +kernel, rfl⟩
set_option maxRecDepth 20000 in
theorem dX12_wins_2 : decode cX12_wins 2 = .ok (.iload_n 2, 1) ∧ 2 + 1 = 3 := ⟨by decide +kernel, rfl⟩
set_option maxRecDepth 20000 in
theorem dX12_wins_3 : decode cX12_wins 3 = .ok (.iload_n 3, 1) ∧ 3 + 1 = 4 := ⟨by decide +kernel, rfl⟩
set_option maxRecDepth 20000 in
theorem dX12_wins_4 : decode cX12_wins 4 = .ok (.invokevirtual 367, 3) ∧ 4 + 3 = 7 := ⟨by decide +kernel, rfl⟩
set_option maxRecDepth 20000 in
theorem dX12_wins_7 : decode cX12_wins 7 = .ok (.lconst 0, 1) ∧ 7 + 1 = 8 := ⟨by decide +kernel, rfl⟩
set_option maxRecDepth 20000 in
theorem dX12_wins_8 : decode cX12_wins 8 = .ok (.lstore 5, 2) ∧ 8 + 2 = 10 := ⟨by decide +kernel, rfl⟩
set_option maxRecDepth 20000 in
theorem dX12_wins_10 : decode cX12_wins 10 = .ok (.iload 4, 2) ∧ 10 + 2 = 12 := ⟨by decide +kernel, rfl⟩
set_option maxRecDepth 20000 in
theorem dX12_wins_12 : decode cX12_wins 12 = .ok (.istore 7, 2) ∧ 12 + 2 = 14 := ⟨by decide +kernel, rfl⟩
set_option maxRecDepth 20000 in
theorem dX12_wins_14 : decode cX12_wins 14 = .ok (.iload 7, 2) ∧ 14 + 2 = 16 := ⟨by decide +kernel, rfl⟩
set_option maxRecDepth 20000 in
theorem dX12_wins_16 : decode cX12_wins 16 = .ok (.bipush 9, 2) ∧ 16 + 2 = 18 := ⟨by decide +kernel, rfl⟩
set_option maxRecDepth 20000 in
theorem dX12_wins_18 : decode cX12_wins 18 = .ok (.if_icmp .ge 21, 3) ∧ 18 + 3 = 21 ∧ ((18 : Nat) : Int) + (21) = ((39 : Nat) : Int) := ⟨by decide +kernel, rfl, by decide⟩
set_option maxRecDepth 20000 in
theorem dX12_wins_21 : decode cX12_wins 21 = .ok (.lload 5, 2) ∧ 21 + 2 = 23 := ⟨by decide +kernel, rfl⟩
set_option maxRecDepth 20000 in
theorem dX12_wins_23 : decode cX12_wins 23 = .ok (.aload_n 0, 1) ∧ 23 + 1 = 24 := ⟨by decide +kernel, rfl⟩
set_option maxRecDepth 20000 in
theorem dX12_wins_24 : decode cX12_wins 24 = .ok (.getfield 87, 3) ∧ 24 + 3 = 27 := ⟨by decide +kernel, rfl⟩
set_option maxRecDepth 20000 in
theorem dX12_wins_27 : decode cX12_wins 27 = .ok (.iload 7, 2) ∧ 27 + 2 = 29 := ⟨by decide +kernel, rfl⟩
set_option maxRecDepth 20000 in
theorem dX12_wins_29 : decode cX12_wins 29 = .ok (.laload, 1) ∧ 29 + 1 = 30 := ⟨by decide +kernel, rfl⟩
set_option maxRecDepth 20000 in
theorem dX12_wins_30 : decode cX12_wins 30 = .ok (.ladd, 1) ∧ 30 + 1 = 31 := ⟨by decide +kernel, rfl⟩
set_option maxRecDepth 20000 in
theorem dX12_wins_31 : decode cX12_wins 31 = .ok (.lstore 5, 2) ∧ 31 + 2 = 33 := ⟨by decide +kernel, rfl⟩
set_option maxRecDepth 20000 in
theorem dX12_wins_33 : decode cX12_wins 33 = .ok (.iinc 7 1, 3) ∧ 33 + 3 = 36 := ⟨by decide +kernel, rfl⟩
set_option maxRecDepth 20000 in
theorem dX12_wins_36 : decode cX12_wins 36 = .ok (.goto (-22), 3) ∧ ((36 : Nat) : Int) + (-22) = ((14 : Nat) : Int) := ⟨by decide +kernel, by decide⟩
set_option maxRecDepth 20000 in
theorem dX12_wins_39 : decode cX12_wins 39 = .ok (.lload 5, 2) ∧ 39 + 2 = 41 := ⟨by decide +kernel, rfl⟩
set_option maxRecDepth 20000 in
theorem dX12_wins_41 : decode cX12_wins 41 = .ok (.lreturn, 1) := by decide +kernel
set_option maxRecDepth 20000 in
theorem dX12_layNow_0 : decode cX12_layNow 0 = .ok (.aload_n 0, 1) ∧ 0 + 1 = 1 := ⟨by decide +kernel, rfl⟩
set_option maxRecDepth 20000 in
theorem dX12_layNow_1 : decode cX12_layNow 1 = .ok (.aload_n 0, 1) ∧ 1 + 1 = 2 := ⟨by decide +kernel, rfl⟩
set_option maxRecDepth 20000 in
theorem dX12_layNow_2 : decode cX12_layNow 2 = .ok (.getfield 13, 3) ∧ 2 + 3 = 5 := ⟨by decide +kernel, rfl⟩
set_option maxRecDepth 20000 in
theorem dX12_layNow_5 : decode cX12_layNow 5 = .ok (.bipush 6, 2) ∧ 5 + 2 = 7 := ⟨by decide +kernel, rfl⟩
set_option maxRecDepth 20000 in
theorem dX12_layNow_7 : decode cX12_layNow 7 = .ok (.iaload, 1) ∧ 7 + 1 = 8 := ⟨by decide +kernel, rfl⟩
set_option maxRecDepth 20000 in
theorem dX12_layNow_8 : decode cX12_layNow 8 = .ok (.invokevirtual 371, 3) ∧ 8 + 3 = 11 := ⟨by decide +kernel, rfl⟩
set_option maxRecDepth 20000 in
theorem dX12_layNow_11 : decode cX12_layNow 11 = .ok (.return_, 1) := by decide +kernel
set_option maxRecDepth 20000 in
theorem dX12_quota_0 : decode cX12_quota 0 = .ok (.aload_n 0, 1) ∧ 0 + 1 = 1 := ⟨by decide +kernel, rfl⟩
set_option maxRecDepth 20000 in
theorem dX12_quota_1 : decode cX12_quota 1 = .ok (.getfield 13, 3) ∧ 1 + 3 = 4 := ⟨by decide +kernel, rfl⟩
set_option maxRecDepth 20000 in
theorem dX12_quota_4 : decode cX12_quota 4 = .ok (.iconst 5, 1) ∧ 4 + 1 = 5 := ⟨by decide +kernel, rfl⟩
set_option maxRecDepth 20000 in
theorem dX12_quota_5 : decode cX12_quota 5 = .ok (.iaload, 1) ∧ 5 + 1 = 6 := ⟨by decide +kernel, rfl⟩
set_option maxRecDepth 20000 in
theorem dX12_quota_6 : decode cX12_quota 6 = .ok (.ireturn, 1) := by decide +kernel
set_option maxRecDepth 20000 in
theorem dX12_odds_0 : decode cX12_odds 0 = .ok (.aload_n 0, 1) ∧ 0 + 1 = 1 := ⟨by decide +kernel, rfl⟩
set_option maxRecDepth 20000 in
theorem dX12_odds_1 : decode cX12_odds 1 = .ok (.iconst 0, 1) ∧ 1 + 1 = 2 := ⟨by decide +kernel, rfl⟩
set_option maxRecDepth 20000 in
theorem dX12_odds_2 : decode cX12_odds 2 = .ok (.putfield 124, 3) ∧ 2 + 3 = 5 := ⟨by decide +kernel, rfl⟩
set_option maxRecDepth 20000 in
theorem dX12_odds_5 : decode cX12_odds 5 = .ok (.iload_n 1, 1) ∧ 5 + 1 = 6 := ⟨by decide +kernel, rfl⟩
set_option maxRecDepth 20000 in
theorem dX12_odds_6 : decode cX12_odds 6 = .ok (.i2l, 1) ∧ 6 + 1 = 7 := ⟨by decide +kernel, rfl⟩
set_option maxRecDepth 20000 in
theorem dX12_odds_7 : decode cX12_odds 7 = .ok (.ldc2_w 221, 3) ∧ 7 + 3 = 10 := ⟨by decide +kernel, rfl⟩
set_option maxRecDepth 20000 in
theorem dX12_odds_10 : decode cX12_odds 10 = .ok (.ldc2_w 175, 3) ∧ 10 + 3 = 13 := ⟨by decide +kernel, rfl⟩
set_option maxRecDepth 20000 in
theorem dX12_odds_13 : decode cX12_odds 13 = .ok (.invokestatic 134, 3) ∧ 13 + 3 = 16 := ⟨by decide +kernel, rfl⟩
set_option maxRecDepth 20000 in
theorem dX12_odds_16 : decode cX12_odds 16 = .ok (.ifCond .ne 7, 3) ∧ 16 + 3 = 19 ∧ ((16 : Nat) : Int) + (7) = ((23 : Nat) : Int) := ⟨by decide +kernel, rfl, by decide⟩
set_option maxRecDepth 20000 in
theorem dX12_odds_19 : decode cX12_odds 19 = .ok (.ldc2_w 221, 3) ∧ 19 + 3 = 22 := ⟨by decide +kernel, rfl⟩
set_option maxRecDepth 20000 in
theorem dX12_odds_22 : decode cX12_odds 22 = .ok (.lreturn, 1) := by decide +kernel
set_option maxRecDepth 20000 in
theorem dX12_odds_23 : decode cX12_odds 23 = .ok (.aload_n 0, 1) ∧ 23 + 1 = 24 := ⟨by decide +kernel, rfl⟩
set_option maxRecDepth 20000 in
theorem dX12_odds_24 : decode cX12_odds 24 = .ok (.invokevirtual 374, 3) ∧ 24 + 3 = 27 := ⟨by decide +kernel, rfl⟩
set_option maxRecDepth 20000 in
theorem dX12_odds_27 : decode cX12_odds 27 = .ok (.aload_n 0, 1) ∧ 27 + 1 = 28 := ⟨by decide +kernel, rfl⟩
set_option maxRecDepth 20000 in
theorem dX12_odds_28 : decode cX12_odds 28 = .ok (.aload_n 0, 1) ∧ 28 + 1 = 29 := ⟨by decide +kernel, rfl⟩
set_option maxRecDepth 20000 in
theorem dX12_odds_29 : decode cX12_odds 29 = .ok (.getfield 13, 3) ∧ 29 + 3 = 32 := ⟨by decide +kernel, rfl⟩
set_option maxRecDepth 20000 in
theorem dX12_odds_32 : decode cX12_odds 32 = .ok (.iconst 4, 1) ∧ 32 + 1 = 33 := ⟨by decide +kernel, rfl⟩
set_option maxRecDepth 20000 in
theorem dX12_odds_33 : decode cX12_odds 33 = .ok (.iaload, 1) ∧ 33 + 1 = 34 := ⟨by decide +kernel, rfl⟩
set_option maxRecDepth 20000 in
theorem dX12_odds_34 : decode cX12_odds 34 = .ok (.iconst 0, 1) ∧ 34 + 1 = 35 := ⟨by decide +kernel, rfl⟩
set_option maxRecDepth 20000 in
theorem dX12_odds_35 : decode cX12_odds 35 = .ok (.iconst 0, 1) ∧ 35 + 1 = 36 := ⟨by decide +kernel, rfl⟩
set_option maxRecDepth 20000 in
theorem dX12_odds_36 : decode cX12_odds 36 = .ok (.aload_n 0, 1) ∧ 36 + 1 = 37 := ⟨by decide +kernel, rfl⟩
set_option maxRecDepth 20000 in
theorem dX12_odds_37 : decode cX12_odds 37 = .ok (.invokevirtual 377, 3) ∧ 37 + 3 = 40 := ⟨by decide +kernel, rfl⟩
set_option maxRecDepth 20000 in
theorem dX12_odds_40 : decode cX12_odds 40 = .ok (.invokevirtual 380, 3) ∧ 40 + 3 = 43 := ⟨by decide +kernel, rfl⟩
set_option maxRecDepth 20000 in
theorem dX12_odds_43 : decode cX12_odds 43 = .ok (.lstore_n 2, 1) ∧ 43 + 1 = 44 := ⟨by decide +kernel, rfl⟩
set_option maxRecDepth 20000 in
theorem dX12_odds_44 : decode cX12_odds 44 = .ok (.iload_n 1, 1) ∧ 44 + 1 = 45 := ⟨by decide +kernel, rfl⟩
set_option maxRecDepth 20000 in
theorem dX12_odds_45 : decode cX12_odds 45 = .ok (.iconst (-1), 1) ∧ 45 + 1 = 46 := ⟨by decide +kernel, rfl⟩
set_option maxRecDepth 20000 in
theorem dX12_odds_46 : decode cX12_odds 46 = .ok (.if_icmp .ne 7, 3) ∧ 46 + 3 = 49 ∧ ((46 : Nat) : Int) + (7) = ((53 : Nat) : Int) := ⟨by decide +kernel, rfl, by decide⟩
set_option maxRecDepth 20000 in
theorem dX12_odds_49 : decode cX12_odds 49 = .ok (.lload_n 2, 1) ∧ 49 + 1 = 50 := ⟨by decide +kernel, rfl⟩
set_option maxRecDepth 20000 in
theorem dX12_odds_50 : decode cX12_odds 50 = .ok (.goto 9, 3) ∧ ((50 : Nat) : Int) + (9) = ((59 : Nat) : Int) := ⟨by decide +kernel, by decide⟩
set_option maxRecDepth 20000 in
theorem dX12_odds_53 : decode cX12_odds 53 = .ok (.aload_n 0, 1) ∧ 53 + 1 = 54 := ⟨by decide +kernel, rfl⟩
set_option maxRecDepth 20000 in
theorem dX12_odds_54 : decode cX12_odds 54 = .ok (.getfield 87, 3) ∧ 54 + 3 = 57 := ⟨by decide +kernel, rfl⟩
set_option maxRecDepth 20000 in
theorem dX12_odds_57 : decode cX12_odds 57 = .ok (.iload_n 1, 1) ∧ 57 + 1 = 58 := ⟨by decide +kernel, rfl⟩
set_option maxRecDepth 20000 in
theorem dX12_odds_58 : decode cX12_odds 58 = .ok (.laload, 1) ∧ 58 + 1 = 59 := ⟨by decide +kernel, rfl⟩
set_option maxRecDepth 20000 in
theorem dX12_odds_59 : decode cX12_odds 59 = .ok (.lreturn, 1) := by decide +kernel
set_option maxRecDepth 20000 in
theorem dX12_tips_0 : decode cX12_tips 0 = .ok (.aload_n 0, 1) ∧ 0 + 1 = 1 := ⟨by decide +kernel, rfl⟩
set_option maxRecDepth 20000 in
theorem dX12_tips_1 : decode cX12_tips 1 = .ok (.iconst 0, 1) ∧ 1 + 1 = 2 := ⟨by decide +kernel, rfl⟩
set_option maxRecDepth 20000 in
theorem dX12_tips_2 : decode cX12_tips 2 = .ok (.putfield 124, 3) ∧ 2 + 3 = 5 := ⟨by decide +kernel, rfl⟩
set_option maxRecDepth 20000 in
theorem dX12_tips_5 : decode cX12_tips 5 = .ok (.iload_n 1, 1) ∧ 5 + 1 = 6 := ⟨by decide +kernel, rfl⟩
set_option maxRecDepth 20000 in
theorem dX12_tips_6 : decode cX12_tips 6 = .ok (.i2l, 1) ∧ 6 + 1 = 7 := ⟨by decide +kernel, rfl⟩
set_option maxRecDepth 20000 in
theorem dX12_tips_7 : decode cX12_tips 7 = .ok (.lconst 0, 1) ∧ 7 + 1 = 8 := ⟨by decide +kernel, rfl⟩
set_option maxRecDepth 20000 in
theorem dX12_tips_8 : decode cX12_tips 8 = .ok (.ldc2_w 384, 3) ∧ 8 + 3 = 11 := ⟨by decide +kernel, rfl⟩
set_option maxRecDepth 20000 in
theorem dX12_tips_11 : decode cX12_tips 11 = .ok (.invokestatic 134, 3) ∧ 11 + 3 = 14 := ⟨by decide +kernel, rfl⟩
set_option maxRecDepth 20000 in
theorem dX12_tips_14 : decode cX12_tips 14 = .ok (.ifCond .eq 16, 3) ∧ 14 + 3 = 17 ∧ ((14 : Nat) : Int) + (16) = ((30 : Nat) : Int) := ⟨by decide +kernel, rfl, by decide⟩
set_option maxRecDepth 20000 in
theorem dX12_tips_17 : decode cX12_tips 17 = .ok (.aload_n 0, 1) ∧ 17 + 1 = 18 := ⟨by decide +kernel, rfl⟩
set_option maxRecDepth 20000 in
theorem dX12_tips_18 : decode cX12_tips 18 = .ok (.getfield 13, 3) ∧ 18 + 3 = 21 := ⟨by decide +kernel, rfl⟩
set_option maxRecDepth 20000 in
theorem dX12_tips_21 : decode cX12_tips 21 = .ok (.iconst 4, 1) ∧ 21 + 1 = 22 := ⟨by decide +kernel, rfl⟩
set_option maxRecDepth 20000 in
theorem dX12_tips_22 : decode cX12_tips 22 = .ok (.iaload, 1) ∧ 22 + 1 = 23 := ⟨by decide +kernel, rfl⟩
set_option maxRecDepth 20000 in
theorem dX12_tips_23 : decode cX12_tips 23 = .ok (.iload_n 1, 1) ∧ 23 + 1 = 24 := ⟨by decide +kernel, rfl⟩
set_option maxRecDepth 20000 in
theorem dX12_tips_24 : decode cX12_tips 24 = .ok (.invokestatic 364, 3) ∧ 24 + 3 = 27 := ⟨by decide +kernel, rfl⟩
set_option maxRecDepth 20000 in
theorem dX12_tips_27 : decode cX12_tips 27 = .ok (.ifCond .ne 7, 3) ∧ 27 + 3 = 30 ∧ ((27 : Nat) : Int) + (7) = ((34 : Nat) : Int) := ⟨by decide +kernel, rfl, by decide⟩
set_option maxRecDepth 20000 in
theorem dX12_tips_30 : decode cX12_tips 30 = .ok (.ldc2_w 221, 3) ∧ 30 + 3 = 33 := ⟨by decide +kernel, rfl⟩
set_option maxRecDepth 20000 in
theorem dX12_tips_33 : decode cX12_tips 33 = .ok (.lreturn, 1) := by decide +kernel
set_option maxRecDepth 20000 in
theorem dX12_tips_34 : decode cX12_tips 34 = .ok (.aload_n 0, 1) ∧ 34 + 1 = 35 := ⟨by decide +kernel, rfl⟩
set_option maxRecDepth 20000 in
theorem dX12_tips_35 : decode cX12_tips 35 = .ok (.invokevirtual 374, 3) ∧ 35 + 3 = 38 := ⟨by decide +kernel, rfl⟩
set_option maxRecDepth 20000 in
theorem dX12_tips_38 : decode cX12_tips 38 = .ok (.aload_n 0, 1) ∧ 38 + 1 = 39 := ⟨by decide +kernel, rfl⟩
set_option maxRecDepth 20000 in
theorem dX12_tips_39 : decode cX12_tips 39 = .ok (.aload_n 0, 1) ∧ 39 + 1 = 40 := ⟨by decide +kernel, rfl⟩
set_option maxRecDepth 20000 in
theorem dX12_tips_40 : decode cX12_tips 40 = .ok (.getfield 13, 3) ∧ 40 + 3 = 43 := ⟨by decide +kernel, rfl⟩
set_option maxRecDepth 20000 in
theorem dX12_tips_43 : decode cX12_tips 43 = .ok (.iconst 4, 1) ∧ 43 + 1 = 44 := ⟨by decide +kernel, rfl⟩
set_option maxRecDepth 20000 in
theorem dX12_tips_44 : decode cX12_tips 44 = .ok (.iaload, 1) ∧ 44 + 1 = 45 := ⟨by decide +kernel, rfl⟩
set_option maxRecDepth 20000 in
theorem dX12_tips_45 : decode cX12_tips 45 = .ok (.iconst 1, 1) ∧ 45 + 1 = 46 := ⟨by decide +kernel, rfl⟩
set_option maxRecDepth 20000 in
theorem dX12_tips_46 : decode cX12_tips 46 = .ok (.iload_n 1, 1) ∧ 46 + 1 = 47 := ⟨by decide +kernel, rfl⟩
set_option maxRecDepth 20000 in
theorem dX12_tips_47 : decode cX12_tips 47 = .ok (.ishl, 1) ∧ 47 + 1 = 48 := ⟨by decide +kernel, rfl⟩
set_option maxRecDepth 20000 in
theorem dX12_tips_48 : decode cX12_tips 48 = .ok (.iconst (-1), 1) ∧ 48 + 1 = 49 := ⟨by decide +kernel, rfl⟩
set_option maxRecDepth 20000 in
theorem dX12_tips_49 : decode cX12_tips 49 = .ok (.ixor, 1) ∧ 49 + 1 = 50 := ⟨by decide +kernel, rfl⟩
set_option maxRecDepth 20000 in
theorem dX12_tips_50 : decode cX12_tips 50 = .ok (.iand, 1) ∧ 50 + 1 = 51 := ⟨by decide +kernel, rfl⟩
set_option maxRecDepth 20000 in
theorem dX12_tips_51 : decode cX12_tips 51 = .ok (.iconst 0, 1) ∧ 51 + 1 = 52 := ⟨by decide +kernel, rfl⟩
set_option maxRecDepth 20000 in
theorem dX12_tips_52 : decode cX12_tips 52 = .ok (.iconst 0, 1) ∧ 52 + 1 = 53 := ⟨by decide +kernel, rfl⟩
set_option maxRecDepth 20000 in
theorem dX12_tips_53 : decode cX12_tips 53 = .ok (.invokevirtual 367, 3) ∧ 53 + 3 = 56 := ⟨by decide +kernel, rfl⟩
set_option maxRecDepth 20000 in
theorem dX12_tips_56 : decode cX12_tips 56 = .ok (.aload_n 0, 1) ∧ 56 + 1 = 57 := ⟨by decide +kernel, rfl⟩
set_option maxRecDepth 20000 in
theorem dX12_tips_57 : decode cX12_tips 57 = .ok (.getfield 87, 3) ∧ 57 + 3 = 60 := ⟨by decide +kernel, rfl⟩
set_option maxRecDepth 20000 in
theorem dX12_tips_60 : decode cX12_tips 60 = .ok (.aload_n 0, 1) ∧ 60 + 1 = 61 := ⟨by decide +kernel, rfl⟩
set_option maxRecDepth 20000 in
theorem dX12_tips_61 : decode cX12_tips 61 = .ok (.invokevirtual 377, 3) ∧ 61 + 3 = 64 := ⟨by decide +kernel, rfl⟩
set_option maxRecDepth 20000 in
theorem dX12_tips_64 : decode cX12_tips 64 = .ok (.iconst 1, 1) ∧ 64 + 1 = 65 := ⟨by decide +kernel, rfl⟩
set_option maxRecDepth 20000 in
theorem dX12_tips_65 : decode cX12_tips 65 = .ok (.isub, 1) ∧ 65 + 1 = 66 := ⟨by decide +kernel, rfl⟩
set_option maxRecDepth 20000 in
theorem dX12_tips_66 : decode cX12_tips 66 = .ok (.laload, 1) ∧ 66 + 1 = 67 := ⟨by decide +kernel, rfl⟩
set_option maxRecDepth 20000 in
theorem dX12_tips_67 : decode cX12_tips 67 = .ok (.lreturn, 1) := by decide +kernel
set_option maxRecDepth 20000 in
theorem dX12_layCosts_0 : decode cX12_layCosts 0 = .ok (.iconst 0, 1) ∧ 0 + 1 = 1 := ⟨by decide +kernel, rfl⟩
set_option maxRecDepth 20000 in
theorem dX12_layCosts_1 : decode cX12_layCosts 1 = .ok (.istore_n 1, 1) ∧ 1 + 1 = 2 := ⟨by decide +kernel, rfl⟩
set_option maxRecDepth 20000 in
theorem dX12_layCosts_2 : decode cX12_layCosts 2 = .ok (.iload_n 1, 1) ∧ 2 + 1 = 3 := ⟨by decide +kernel, rfl⟩
set_option maxRecDepth 20000 in
theorem dX12_layCosts_3 : decode cX12_layCosts 3 = .ok (.iconst 2, 1) ∧ 3 + 1 = 4 := ⟨by decide +kernel, rfl⟩
set_option maxRecDepth 20000 in
theorem dX12_layCosts_4 : decode cX12_layCosts 4 = .ok (.if_icmp .ge 82, 3) ∧ 4 + 3 = 7 ∧ ((4 : Nat) : Int) + (82) = ((86 : Nat) : Int) := ⟨by decide +kernel, rfl, by decide⟩
set_option maxRecDepth 20000 in
theorem dX12_layCosts_7 : decode cX12_layCosts 7 = .ok (.iconst 0, 1) ∧ 7 + 1 = 8 := ⟨by decide +kernel, rfl⟩
set_option maxRecDepth 20000 in
theorem dX12_layCosts_8 : decode cX12_layCosts 8 = .ok (.istore_n 2, 1) ∧ 8 + 1 = 9 := ⟨by decide +kernel, rfl⟩
set_option maxRecDepth 20000 in
theorem dX12_layCosts_9 : decode cX12_layCosts 9 = .ok (.iload_n 2, 1) ∧ 9 + 1 = 10 := ⟨by decide +kernel, rfl⟩
set_option maxRecDepth 20000 in
theorem dX12_layCosts_10 : decode cX12_layCosts 10 = .ok (.sipush 256, 3) ∧ 10 + 3 = 13 := ⟨by decide +kernel, rfl⟩
set_option maxRecDepth 20000 in
theorem dX12_layCosts_13 : decode cX12_layCosts 13 = .ok (.if_icmp .ge 67, 3) ∧ 13 + 3 = 16 ∧ ((13 : Nat) : Int) + (67) = ((80 : Nat) : Int) := ⟨by decide +kernel, rfl, by decide⟩
set_option maxRecDepth 20000 in
theorem dX12_layCosts_16 : decode cX12_layCosts 16 = .ok (.iconst 0, 1) ∧ 16 + 1 = 17 := ⟨by decide +kernel, rfl⟩
set_option maxRecDepth 20000 in
theorem dX12_layCosts_17 : decode cX12_layCosts 17 = .ok (.istore_n 3, 1) ∧ 17 + 1 = 18 := ⟨by decide +kernel, rfl⟩
set_option maxRecDepth 20000 in
theorem dX12_layCosts_18 : decode cX12_layCosts 18 = .ok (.iconst 0, 1) ∧ 18 + 1 = 19 := ⟨by decide +kernel, rfl⟩
set_option maxRecDepth 20000 in
theorem dX12_layCosts_19 : decode cX12_layCosts 19 = .ok (.istore 4, 2) ∧ 19 + 2 = 21 := ⟨by decide +kernel, rfl⟩
set_option maxRecDepth 20000 in
theorem dX12_layCosts_21 : decode cX12_layCosts 21 = .ok (.iload 4, 2) ∧ 21 + 2 = 23 := ⟨by decide +kernel, rfl⟩
set_option maxRecDepth 20000 in
theorem dX12_layCosts_23 : decode cX12_layCosts 23 = .ok (.aload_n 0, 1) ∧ 23 + 1 = 24 := ⟨by decide +kernel, rfl⟩
set_option maxRecDepth 20000 in
theorem dX12_layCosts_24 : decode cX12_layCosts 24 = .ok (.getfield 13, 3) ∧ 24 + 3 = 27 := ⟨by decide +kernel, rfl⟩
set_option maxRecDepth 20000 in
theorem dX12_layCosts_27 : decode cX12_layCosts 27 = .ok (.iconst 0, 1) ∧ 27 + 1 = 28 := ⟨by decide +kernel, rfl⟩
set_option maxRecDepth 20000 in
theorem dX12_layCosts_28 : decode cX12_layCosts 28 = .ok (.iaload, 1) ∧ 28 + 1 = 29 := ⟨by decide +kernel, rfl⟩
set_option maxRecDepth 20000 in
theorem dX12_layCosts_29 : decode cX12_layCosts 29 = .ok (.if_icmp .ge 32, 3) ∧ 29 + 3 = 32 ∧ ((29 : Nat) : Int) + (32) = ((61 : Nat) : Int) := ⟨by decide +kernel, rfl, by decide⟩
set_option maxRecDepth 20000 in
theorem dX12_layCosts_32 : decode cX12_layCosts 32 = .ok (.iload_n 3, 1) ∧ 32 + 1 = 33 := ⟨by decide +kernel, rfl⟩
set_option maxRecDepth 20000 in
theorem dX12_layCosts_33 : decode cX12_layCosts 33 = .ok (.iload_n 2, 1) ∧ 33 + 1 = 34 := ⟨by decide +kernel, rfl⟩
set_option maxRecDepth 20000 in
theorem dX12_layCosts_34 : decode cX12_layCosts 34 = .ok (.iload 4, 2) ∧ 34 + 2 = 36 := ⟨by decide +kernel, rfl⟩
set_option maxRecDepth 20000 in
theorem dX12_layCosts_36 : decode cX12_layCosts 36 = .ok (.invokestatic 364, 3) ∧ 36 + 3 = 39 := ⟨by decide +kernel, rfl⟩
set_option maxRecDepth 20000 in
theorem dX12_layCosts_39 : decode cX12_layCosts 39 = .ok (.ifCond .eq 13, 3) ∧ 39 + 3 = 42 ∧ ((39 : Nat) : Int) + (13) = ((52 : Nat) : Int) := ⟨by decide +kernel, rfl, by decide⟩
set_option maxRecDepth 20000 in
theorem dX12_layCosts_42 : decode cX12_layCosts 42 = .ok (.aload_n 0, 1) ∧ 42 + 1 = 43 := ⟨by decide +kernel, rfl⟩
set_option maxRecDepth 20000 in
theorem dX12_layCosts_43 : decode cX12_layCosts 43 = .ok (.iload_n 1, 1) ∧ 43 + 1 = 44 := ⟨by decide +kernel, rfl⟩
set_option maxRecDepth 20000 in
theorem dX12_layCosts_44 : decode cX12_layCosts 44 = .ok (.iload 4, 2) ∧ 44 + 2 = 46 := ⟨by decide +kernel, rfl⟩
set_option maxRecDepth 20000 in
theorem dX12_layCosts_46 : decode cX12_layCosts 46 = .ok (.invokevirtual 386, 3) ∧ 46 + 3 = 49 := ⟨by decide +kernel, rfl⟩
set_option maxRecDepth 20000 in
theorem dX12_layCosts_49 : decode cX12_layCosts 49 = .ok (.goto 4, 3) ∧ ((49 : Nat) : Int) + (4) = ((53 : Nat) : Int) := ⟨by decide +kernel, by decide⟩
set_option maxRecDepth 20000 in
theorem dX12_layCosts_52 : decode cX12_layCosts 52 = .ok (.iconst 0, 1) ∧ 52 + 1 = 53 := ⟨by decide +kernel, rfl⟩
set_option maxRecDepth 20000 in
theorem dX12_layCosts_53 : decode cX12_layCosts 53 = .ok (.iadd, 1) ∧ 53 + 1 = 54 := ⟨by decide +kernel, rfl⟩
set_option maxRecDepth 20000 in
theorem dX12_layCosts_54 : decode cX12_layCosts 54 = .ok (.istore_n 3, 1) ∧ 54 + 1 = 55 := ⟨by decide +kernel, rfl⟩
set_option maxRecDepth 20000 in
theorem dX12_layCosts_55 : decode cX12_layCosts 55 = .ok (.iinc 4 1, 3) ∧ 55 + 3 = 58 := ⟨by decide +kernel, rfl⟩
set_option maxRecDepth 20000 in
theorem dX12_layCosts_58 : decode cX12_layCosts 58 = .ok (.goto (-37), 3) ∧ ((58 : Nat) : Int) + (-37) = ((21 : Nat) : Int) := ⟨by decide +kernel, by decide⟩
set_option maxRecDepth 20000 in
theorem dX12_layCosts_61 : decode cX12_layCosts 61 = .ok (.aload_n 0, 1) ∧ 61 + 1 = 62 := ⟨by decide +kernel, rfl⟩
set_option maxRecDepth 20000 in
theorem dX12_layCosts_62 : decode cX12_layCosts 62 = .ok (.getfield 90, 3) ∧ 62 + 3 = 65 := ⟨by decide +kernel, rfl⟩
set_option maxRecDepth 20000 in
theorem dX12_layCosts_65 : decode cX12_layCosts 65 = .ok (.sipush 256, 3) ∧ 65 + 3 = 68 := ⟨by decide +kernel, rfl⟩
set_option maxRecDepth 20000 in
theorem dX12_layCosts_68 : decode cX12_layCosts 68 = .ok (.iload_n 1, 1) ∧ 68 + 1 = 69 := ⟨by decide +kernel, rfl⟩
set_option maxRecDepth 20000 in
theorem dX12_layCosts_69 : decode cX12_layCosts 69 = .ok (.imul, 1) ∧ 69 + 1 = 70 := ⟨by decide +kernel, rfl⟩
set_option maxRecDepth 20000 in
theorem dX12_layCosts_70 : decode cX12_layCosts 70 = .ok (.iload_n 2, 1) ∧ 70 + 1 = 71 := ⟨by decide +kernel, rfl⟩
set_option maxRecDepth 20000 in
theorem dX12_layCosts_71 : decode cX12_layCosts 71 = .ok (.iadd, 1) ∧ 71 + 1 = 72 := ⟨by decide +kernel, rfl⟩
set_option maxRecDepth 20000 in
theorem dX12_layCosts_72 : decode cX12_layCosts 72 = .ok (.iload_n 3, 1) ∧ 72 + 1 = 73 := ⟨by decide +kernel, rfl⟩
set_option maxRecDepth 20000 in
theorem dX12_layCosts_73 : decode cX12_layCosts 73 = .ok (.iastore, 1) ∧ 73 + 1 = 74 := ⟨by decide +kernel, rfl⟩
set_option maxRecDepth 20000 in
theorem dX12_layCosts_74 : decode cX12_layCosts 74 = .ok (.iinc 2 1, 3) ∧ 74 + 3 = 77 := ⟨by decide +kernel, rfl⟩
set_option maxRecDepth 20000 in
theorem dX12_layCosts_77 : decode cX12_layCosts 77 = .ok (.goto (-68), 3) ∧ ((77 : Nat) : Int) + (-68) = ((9 : Nat) : Int) := ⟨by decide +kernel, by decide⟩
set_option maxRecDepth 20000 in
theorem dX12_layCosts_80 : decode cX12_layCosts 80 = .ok (.iinc 1 1, 3) ∧ 80 + 3 = 83 := ⟨by decide +kernel, rfl⟩
set_option maxRecDepth 20000 in
theorem dX12_layCosts_83 : decode cX12_layCosts 83 = .ok (.goto (-81), 3) ∧ ((83 : Nat) : Int) + (-81) = ((2 : Nat) : Int) := ⟨by decide +kernel, by decide⟩
set_option maxRecDepth 20000 in
theorem dX12_layCosts_86 : decode cX12_layCosts 86 = .ok (.return_, 1) := by decide +kernel
set_option maxRecDepth 20000 in
theorem dX12_priceAt_0 : decode cX12_priceAt 0 = .ok (.aload_n 0, 1) ∧ 0 + 1 = 1 := ⟨by decide +kernel, rfl⟩
set_option maxRecDepth 20000 in
theorem dX12_priceAt_1 : decode cX12_priceAt 1 = .ok (.getfield 97, 3) ∧ 1 + 3 = 4 := ⟨by decide +kernel, rfl⟩
set_option maxRecDepth 20000 in
theorem dX12_priceAt_4 : decode cX12_priceAt 4 = .ok (.bipush 8, 2) ∧ 4 + 2 = 6 := ⟨by decide +kernel, rfl⟩
set_option maxRecDepth 20000 in
theorem dX12_priceAt_6 : decode cX12_priceAt 6 = .ok (.iload_n 1, 1) ∧ 6 + 1 = 7 := ⟨by decide +kernel, rfl⟩
set_option maxRecDepth 20000 in
theorem dX12_priceAt_7 : decode cX12_priceAt 7 = .ok (.imul, 1) ∧ 7 + 1 = 8 := ⟨by decide +kernel, rfl⟩
set_option maxRecDepth 20000 in
theorem dX12_priceAt_8 : decode cX12_priceAt 8 = .ok (.iload_n 2, 1) ∧ 8 + 1 = 9 := ⟨by decide +kernel, rfl⟩
set_option maxRecDepth 20000 in
theorem dX12_priceAt_9 : decode cX12_priceAt 9 = .ok (.iadd, 1) ∧ 9 + 1 = 10 := ⟨by decide +kernel, rfl⟩
set_option maxRecDepth 20000 in
theorem dX12_priceAt_10 : decode cX12_priceAt 10 = .ok (.iaload, 1) ∧ 10 + 1 = 11 := ⟨by decide +kernel, rfl⟩
set_option maxRecDepth 20000 in
theorem dX12_priceAt_11 : decode cX12_priceAt 11 = .ok (.ireturn, 1) := by decide +kernel
set_option maxRecDepth 20000 in
theorem dX12_layPrices_0 : decode cX12_layPrices 0 = .ok (.iconst 0, 1) ∧ 0 + 1 = 1 := ⟨by decide +kernel, rfl⟩
set_option maxRecDepth 20000 in
theorem dX12_layPrices_1 : decode cX12_layPrices 1 = .ok (.istore_n 1, 1) ∧ 1 + 1 = 2 := ⟨by decide +kernel, rfl⟩
set_option maxRecDepth 20000 in
theorem dX12_layPrices_2 : decode cX12_layPrices 2 = .ok (.iload_n 1, 1) ∧ 2 + 1 = 3 := ⟨by decide +kernel, rfl⟩
set_option maxRecDepth 20000 in
theorem dX12_layPrices_3 : decode cX12_layPrices 3 = .ok (.iconst 2, 1) ∧ 3 + 1 = 4 := ⟨by decide +kernel, rfl⟩
set_option maxRecDepth 20000 in
theorem dX12_layPrices_4 : decode cX12_layPrices 4 = .ok (.if_icmp .ge 44, 3) ∧ 4 + 3 = 7 ∧ ((4 : Nat) : Int) + (44) = ((48 : Nat) : Int) := ⟨by decide +kernel, rfl, by decide⟩
set_option maxRecDepth 20000 in
theorem dX12_layPrices_7 : decode cX12_layPrices 7 = .ok (.iconst 0, 1) ∧ 7 + 1 = 8 := ⟨by decide +kernel, rfl⟩
set_option maxRecDepth 20000 in
theorem dX12_layPrices_8 : decode cX12_layPrices 8 = .ok (.istore_n 2, 1) ∧ 8 + 1 = 9 := ⟨by decide +kernel, rfl⟩
set_option maxRecDepth 20000 in
theorem dX12_layPrices_9 : decode cX12_layPrices 9 = .ok (.iload_n 2, 1) ∧ 9 + 1 = 10 := ⟨by decide +kernel, rfl⟩
set_option maxRecDepth 20000 in
theorem dX12_layPrices_10 : decode cX12_layPrices 10 = .ok (.aload_n 0, 1) ∧ 10 + 1 = 11 := ⟨by decide +kernel, rfl⟩
set_option maxRecDepth 20000 in
theorem dX12_layPrices_11 : decode cX12_layPrices 11 = .ok (.getfield 13, 3) ∧ 11 + 3 = 14 := ⟨by decide +kernel, rfl⟩
set_option maxRecDepth 20000 in
theorem dX12_layPrices_14 : decode cX12_layPrices 14 = .ok (.iconst 0, 1) ∧ 14 + 1 = 15 := ⟨by decide +kernel, rfl⟩
set_option maxRecDepth 20000 in
theorem dX12_layPrices_15 : decode cX12_layPrices 15 = .ok (.iaload, 1) ∧ 15 + 1 = 16 := ⟨by decide +kernel, rfl⟩
set_option maxRecDepth 20000 in
theorem dX12_layPrices_16 : decode cX12_layPrices 16 = .ok (.if_icmp .ge 26, 3) ∧ 16 + 3 = 19 ∧ ((16 : Nat) : Int) + (26) = ((42 : Nat) : Int) := ⟨by decide +kernel, rfl, by decide⟩
set_option maxRecDepth 20000 in
theorem dX12_layPrices_19 : decode cX12_layPrices 19 = .ok (.aload_n 0, 1) ∧ 19 + 1 = 20 := ⟨by decide +kernel, rfl⟩
set_option maxRecDepth 20000 in
theorem dX12_layPrices_20 : decode cX12_layPrices 20 = .ok (.getfield 97, 3) ∧ 20 + 3 = 23 := ⟨by decide +kernel, rfl⟩
set_option maxRecDepth 20000 in
theorem dX12_layPrices_23 : decode cX12_layPrices 23 = .ok (.bipush 8, 2) ∧ 23 + 2 = 25 := ⟨by decide +kernel, rfl⟩
set_option maxRecDepth 20000 in
theorem dX12_layPrices_25 : decode cX12_layPrices 25 = .ok (.iload_n 1, 1) ∧ 25 + 1 = 26 := ⟨by decide +kernel, rfl⟩
set_option maxRecDepth 20000 in
theorem dX12_layPrices_26 : decode cX12_layPrices 26 = .ok (.imul, 1) ∧ 26 + 1 = 27 := ⟨by decide +kernel, rfl⟩
set_option maxRecDepth 20000 in
theorem dX12_layPrices_27 : decode cX12_layPrices 27 = .ok (.iload_n 2, 1) ∧ 27 + 1 = 28 := ⟨by decide +kernel, rfl⟩
set_option maxRecDepth 20000 in
theorem dX12_layPrices_28 : decode cX12_layPrices 28 = .ok (.iadd, 1) ∧ 28 + 1 = 29 := ⟨by decide +kernel, rfl⟩
set_option maxRecDepth 20000 in
theorem dX12_layPrices_29 : decode cX12_layPrices 29 = .ok (.aload_n 0, 1) ∧ 29 + 1 = 30 := ⟨by decide +kernel, rfl⟩
set_option maxRecDepth 20000 in
theorem dX12_layPrices_30 : decode cX12_layPrices 30 = .ok (.iload_n 2, 1) ∧ 30 + 1 = 31 := ⟨by decide +kernel, rfl⟩
set_option maxRecDepth 20000 in
theorem dX12_layPrices_31 : decode cX12_layPrices 31 = .ok (.iload_n 1, 1) ∧ 31 + 1 = 32 := ⟨by decide +kernel, rfl⟩
set_option maxRecDepth 20000 in
theorem dX12_layPrices_32 : decode cX12_layPrices 32 = .ok (.invokevirtual 361, 3) ∧ 32 + 3 = 35 := ⟨by decide +kernel, rfl⟩
set_option maxRecDepth 20000 in
theorem dX12_layPrices_35 : decode cX12_layPrices 35 = .ok (.iastore, 1) ∧ 35 + 1 = 36 := ⟨by decide +kernel, rfl⟩
set_option maxRecDepth 20000 in
theorem dX12_layPrices_36 : decode cX12_layPrices 36 = .ok (.iinc 2 1, 3) ∧ 36 + 3 = 39 := ⟨by decide +kernel, rfl⟩
set_option maxRecDepth 20000 in
theorem dX12_layPrices_39 : decode cX12_layPrices 39 = .ok (.goto (-30), 3) ∧ ((39 : Nat) : Int) + (-30) = ((9 : Nat) : Int) := ⟨by decide +kernel, by decide⟩
set_option maxRecDepth 20000 in
theorem dX12_layPrices_42 : decode cX12_layPrices 42 = .ok (.iinc 1 1, 3) ∧ 42 + 3 = 45 := ⟨by decide +kernel, rfl⟩
set_option maxRecDepth 20000 in
theorem dX12_layPrices_45 : decode cX12_layPrices 45 = .ok (.goto (-43), 3) ∧ ((45 : Nat) : Int) + (-43) = ((2 : Nat) : Int) := ⟨by decide +kernel, by decide⟩
set_option maxRecDepth 20000 in
theorem dX12_layPrices_48 : decode cX12_layPrices 48 = .ok (.aload_n 0, 1) ∧ 48 + 1 = 49 := ⟨by decide +kernel, rfl⟩
set_option maxRecDepth 20000 in
theorem dX12_layPrices_49 : decode cX12_layPrices 49 = .ok (.invokevirtual 389, 3) ∧ 49 + 3 = 52 := ⟨by decide +kernel, rfl⟩
set_option maxRecDepth 20000 in
theorem dX12_layPrices_52 : decode cX12_layPrices 52 = .ok (.return_, 1) := by decide +kernel
set_option maxRecDepth 20000 in
theorem dX12_canBribe_0 : decode cX12_canBribe 0 = .ok (.iload_n 2, 1) ∧ 0 + 1 = 1 := ⟨by decide +kernel, rfl⟩
set_option maxRecDepth 20000 in
theorem dX12_canBribe_1 : decode cX12_canBribe 1 = .ok (.i2l, 1) ∧ 1 + 1 = 2 := ⟨by decide +kernel, rfl⟩
set_option maxRecDepth 20000 in
theorem dX12_canBribe_2 : decode cX12_canBribe 2 = .ok (.lconst 0, 1) ∧ 2 + 1 = 3 := ⟨by decide +kernel, rfl⟩
set_option maxRecDepth 20000 in
theorem dX12_canBribe_3 : decode cX12_canBribe 3 = .ok (.ldc2_w 392, 3) ∧ 3 + 3 = 6 := ⟨by decide +kernel, rfl⟩
set_option maxRecDepth 20000 in
theorem dX12_canBribe_6 : decode cX12_canBribe 6 = .ok (.invokestatic 134, 3) ∧ 6 + 3 = 9 := ⟨by decide +kernel, rfl⟩
set_option maxRecDepth 20000 in
theorem dX12_canBribe_9 : decode cX12_canBribe 9 = .ok (.ifCond .eq 39, 3) ∧ 9 + 3 = 12 ∧ ((9 : Nat) : Int) + (39) = ((48 : Nat) : Int) := ⟨by decide +kernel, rfl, by decide⟩
set_option maxRecDepth 20000 in
theorem dX12_canBribe_12 : decode cX12_canBribe 12 = .ok (.iload_n 2, 1) ∧ 12 + 1 = 13 := ⟨by decide +kernel, rfl⟩
set_option maxRecDepth 20000 in
theorem dX12_canBribe_13 : decode cX12_canBribe 13 = .ok (.iload_n 3, 1) ∧ 13 + 1 = 14 := ⟨by decide +kernel, rfl⟩
set_option maxRecDepth 20000 in
theorem dX12_canBribe_14 : decode cX12_canBribe 14 = .ok (.iconst (-1), 1) ∧ 14 + 1 = 15 := ⟨by decide +kernel, rfl⟩
set_option maxRecDepth 20000 in
theorem dX12_canBribe_15 : decode cX12_canBribe 15 = .ok (.ixor, 1) ∧ 15 + 1 = 16 := ⟨by decide +kernel, rfl⟩
set_option maxRecDepth 20000 in
theorem dX12_canBribe_16 : decode cX12_canBribe 16 = .ok (.iand, 1) ∧ 16 + 1 = 17 := ⟨by decide +kernel, rfl⟩
set_option maxRecDepth 20000 in
theorem dX12_canBribe_17 : decode cX12_canBribe 17 = .ok (.ifCond .ne 31, 3) ∧ 17 + 3 = 20 ∧ ((17 : Nat) : Int) + (31) = ((48 : Nat) : Int) := ⟨by decide +kernel, rfl, by decide⟩
set_option maxRecDepth 20000 in
theorem dX12_canBribe_20 : decode cX12_canBribe 20 = .ok (.aload_n 0, 1) ∧ 20 + 1 = 21 := ⟨by decide +kernel, rfl⟩
set_option maxRecDepth 20000 in
theorem dX12_canBribe_21 : decode cX12_canBribe 21 = .ok (.getfield 90, 3) ∧ 21 + 3 = 24 := ⟨by decide +kernel, rfl⟩
set_option maxRecDepth 20000 in
theorem dX12_canBribe_24 : decode cX12_canBribe 24 = .ok (.sipush 256, 3) ∧ 24 + 3 = 27 := ⟨by decide +kernel, rfl⟩
set_option maxRecDepth 20000 in
theorem dX12_canBribe_27 : decode cX12_canBribe 27 = .ok (.iload_n 1, 1) ∧ 27 + 1 = 28 := ⟨by decide +kernel, rfl⟩
set_option maxRecDepth 20000 in
theorem dX12_canBribe_28 : decode cX12_canBribe 28 = .ok (.imul, 1) ∧ 28 + 1 = 29 := ⟨by decide +kernel, rfl⟩
set_option maxRecDepth 20000 in
theorem dX12_canBribe_29 : decode cX12_canBribe 29 = .ok (.iload_n 2, 1) ∧ 29 + 1 = 30 := ⟨by decide +kernel, rfl⟩
set_option maxRecDepth 20000 in
theorem dX12_canBribe_30 : decode cX12_canBribe 30 = .ok (.iadd, 1) ∧ 30 + 1 = 31 := ⟨by decide +kernel, rfl⟩
set_option maxRecDepth 20000 in
theorem dX12_canBribe_31 : decode cX12_canBribe 31 = .ok (.iaload, 1) ∧ 31 + 1 = 32 := ⟨by decide +kernel, rfl⟩
set_option maxRecDepth 20000 in
theorem dX12_canBribe_32 : decode cX12_canBribe 32 = .ok (.aload_n 0, 1) ∧ 32 + 1 = 33 := ⟨by decide +kernel, rfl⟩
set_option maxRecDepth 20000 in
theorem dX12_canBribe_33 : decode cX12_canBribe 33 = .ok (.getfield 13, 3) ∧ 33 + 3 = 36 := ⟨by decide +kernel, rfl⟩
set_option maxRecDepth 20000 in
theorem dX12_canBribe_36 : decode cX12_canBribe 36 = .ok (.bipush 8, 2) ∧ 36 + 2 = 38 := ⟨by decide +kernel, rfl⟩
set_option maxRecDepth 20000 in
theorem dX12_canBribe_38 : decode cX12_canBribe 38 = .ok (.iload_n 1, 1) ∧ 38 + 1 = 39 := ⟨by decide +kernel, rfl⟩
set_option maxRecDepth 20000 in
theorem dX12_canBribe_39 : decode cX12_canBribe 39 = .ok (.iadd, 1) ∧ 39 + 1 = 40 := ⟨by decide +kernel, rfl⟩
set_option maxRecDepth 20000 in
theorem dX12_canBribe_40 : decode cX12_canBribe 40 = .ok (.iaload, 1) ∧ 40 + 1 = 41 := ⟨by decide +kernel, rfl⟩
set_option maxRecDepth 20000 in
theorem dX12_canBribe_41 : decode cX12_canBribe 41 = .ok (.if_icmp .gt 7, 3) ∧ 41 + 3 = 44 ∧ ((41 : Nat) : Int) + (7) = ((48 : Nat) : Int) := ⟨by decide +kernel, rfl, by decide⟩
set_option maxRecDepth 20000 in
theorem dX12_canBribe_44 : decode cX12_canBribe 44 = .ok (.iconst 1, 1) ∧ 44 + 1 = 45 := ⟨by decide +kernel, rfl⟩
set_option maxRecDepth 20000 in
theorem dX12_canBribe_45 : decode cX12_canBribe 45 = .ok (.goto 4, 3) ∧ ((45 : Nat) : Int) + (4) = ((49 : Nat) : Int) := ⟨by decide +kernel, by decide⟩
set_option maxRecDepth 20000 in
theorem dX12_canBribe_48 : decode cX12_canBribe 48 = .ok (.iconst 0, 1) ∧ 48 + 1 = 49 := ⟨by decide +kernel, rfl⟩
set_option maxRecDepth 20000 in
theorem dX12_canBribe_49 : decode cX12_canBribe 49 = .ok (.ireturn, 1) := by decide +kernel
set_option maxRecDepth 20000 in
theorem dX12_can_0 : decode cX12_can 0 = .ok (.aload_n 0, 1) ∧ 0 + 1 = 1 := ⟨by decide +kernel, rfl⟩
set_option maxRecDepth 20000 in
theorem dX12_can_1 : decode cX12_can 1 = .ok (.iload_n 1, 1) ∧ 1 + 1 = 2 := ⟨by decide +kernel, rfl⟩
set_option maxRecDepth 20000 in
theorem dX12_can_2 : decode cX12_can 2 = .ok (.iload_n 2, 1) ∧ 2 + 1 = 3 := ⟨by decide +kernel, rfl⟩
set_option maxRecDepth 20000 in
theorem dX12_can_3 : decode cX12_can 3 = .ok (.aload_n 0, 1) ∧ 3 + 1 = 4 := ⟨by decide +kernel, rfl⟩
set_option maxRecDepth 20000 in
theorem dX12_can_4 : decode cX12_can 4 = .ok (.getfield 13, 3) ∧ 4 + 3 = 7 := ⟨by decide +kernel, rfl⟩
set_option maxRecDepth 20000 in
theorem dX12_can_7 : decode cX12_can 7 = .ok (.iconst 4, 1) ∧ 7 + 1 = 8 := ⟨by decide +kernel, rfl⟩
set_option maxRecDepth 20000 in
theorem dX12_can_8 : decode cX12_can 8 = .ok (.iaload, 1) ∧ 8 + 1 = 9 := ⟨by decide +kernel, rfl⟩
set_option maxRecDepth 20000 in
theorem dX12_can_9 : decode cX12_can 9 = .ok (.invokevirtual 394, 3) ∧ 9 + 3 = 12 := ⟨by decide +kernel, rfl⟩
set_option maxRecDepth 20000 in
theorem dX12_can_12 : decode cX12_can 12 = .ok (.ireturn, 1) := by decide +kernel
set_option maxRecDepth 20000 in
theorem dX12_layBribes_0 : decode cX12_layBribes 0 = .ok (.aload_n 0, 1) ∧ 0 + 1 = 1 := ⟨by decide +kernel, rfl⟩
set_option maxRecDepth 20000 in
theorem dX12_layBribes_1 : decode cX12_layBribes 1 = .ok (.invokevirtual 374, 3) ∧ 1 + 3 = 4 := ⟨by decide +kernel, rfl⟩
set_option maxRecDepth 20000 in
theorem dX12_layBribes_4 : decode cX12_layBribes 4 = .ok (.aload_n 0, 1) ∧ 4 + 1 = 5 := ⟨by decide +kernel, rfl⟩
set_option maxRecDepth 20000 in
theorem dX12_layBribes_5 : decode cX12_layBribes 5 = .ok (.invokevirtual 398, 3) ∧ 5 + 3 = 8 := ⟨by decide +kernel, rfl⟩
set_option maxRecDepth 20000 in
theorem dX12_layBribes_8 : decode cX12_layBribes 8 = .ok (.return_, 1) := by decide +kernel
set_option maxRecDepth 20000 in
theorem dX12_bribed_0 : decode cX12_bribed 0 = .ok (.aload_n 0, 1) ∧ 0 + 1 = 1 := ⟨by decide +kernel, rfl⟩
set_option maxRecDepth 20000 in
theorem dX12_bribed_1 : decode cX12_bribed 1 = .ok (.iconst 0, 1) ∧ 1 + 1 = 2 := ⟨by decide +kernel, rfl⟩
set_option maxRecDepth 20000 in
theorem dX12_bribed_2 : decode cX12_bribed 2 = .ok (.putfield 124, 3) ∧ 2 + 3 = 5 := ⟨by decide +kernel, rfl⟩
set_option maxRecDepth 20000 in
theorem dX12_bribed_5 : decode cX12_bribed 5 = .ok (.aload_n 0, 1) ∧ 5 + 1 = 6 := ⟨by decide +kernel, rfl⟩
set_option maxRecDepth 20000 in
theorem dX12_bribed_6 : decode cX12_bribed 6 = .ok (.invokevirtual 401, 3) ∧ 6 + 3 = 9 := ⟨by decide +kernel, rfl⟩
set_option maxRecDepth 20000 in
theorem dX12_bribed_9 : decode cX12_bribed 9 = .ok (.aload_n 0, 1) ∧ 9 + 1 = 10 := ⟨by decide +kernel, rfl⟩
set_option maxRecDepth 20000 in
theorem dX12_bribed_10 : decode cX12_bribed 10 = .ok (.iconst 0, 1) ∧ 10 + 1 = 11 := ⟨by decide +kernel, rfl⟩
set_option maxRecDepth 20000 in
theorem dX12_bribed_11 : decode cX12_bribed 11 = .ok (.iload_n 1, 1) ∧ 11 + 1 = 12 := ⟨by decide +kernel, rfl⟩
set_option maxRecDepth 20000 in
theorem dX12_bribed_12 : decode cX12_bribed 12 = .ok (.invokevirtual 404, 3) ∧ 12 + 3 = 15 := ⟨by decide +kernel, rfl⟩
set_option maxRecDepth 20000 in
theorem dX12_bribed_15 : decode cX12_bribed 15 = .ok (.ifCond .eq 31, 3) ∧ 15 + 3 = 18 ∧ ((15 : Nat) : Int) + (31) = ((46 : Nat) : Int) := ⟨by decide +kernel, rfl, by decide⟩
set_option maxRecDepth 20000 in
theorem dX12_bribed_18 : decode cX12_bribed 18 = .ok (.aload_n 0, 1) ∧ 18 + 1 = 19 := ⟨by decide +kernel, rfl⟩
set_option maxRecDepth 20000 in
theorem dX12_bribed_19 : decode cX12_bribed 19 = .ok (.iconst 1, 1) ∧ 19 + 1 = 20 := ⟨by decide +kernel, rfl⟩
set_option maxRecDepth 20000 in
theorem dX12_bribed_20 : decode cX12_bribed 20 = .ok (.iload_n 2, 1) ∧ 20 + 1 = 21 := ⟨by decide +kernel, rfl⟩
set_option maxRecDepth 20000 in
theorem dX12_bribed_21 : decode cX12_bribed 21 = .ok (.invokevirtual 404, 3) ∧ 21 + 3 = 24 := ⟨by decide +kernel, rfl⟩
set_option maxRecDepth 20000 in
theorem dX12_bribed_24 : decode cX12_bribed 24 = .ok (.ifCond .eq 22, 3) ∧ 24 + 3 = 27 ∧ ((24 : Nat) : Int) + (22) = ((46 : Nat) : Int) := ⟨by decide +kernel, rfl, by decide⟩
set_option maxRecDepth 20000 in
theorem dX12_bribed_27 : decode cX12_bribed 27 = .ok (.aload_n 0, 1) ∧ 27 + 1 = 28 := ⟨by decide +kernel, rfl⟩
set_option maxRecDepth 20000 in
theorem dX12_bribed_28 : decode cX12_bribed 28 = .ok (.aload_n 0, 1) ∧ 28 + 1 = 29 := ⟨by decide +kernel, rfl⟩
set_option maxRecDepth 20000 in
theorem dX12_bribed_29 : decode cX12_bribed 29 = .ok (.getfield 13, 3) ∧ 29 + 3 = 32 := ⟨by decide +kernel, rfl⟩
set_option maxRecDepth 20000 in
theorem dX12_bribed_32 : decode cX12_bribed 32 = .ok (.iconst 4, 1) ∧ 32 + 1 = 33 := ⟨by decide +kernel, rfl⟩
set_option maxRecDepth 20000 in
theorem dX12_bribed_33 : decode cX12_bribed 33 = .ok (.iaload, 1) ∧ 33 + 1 = 34 := ⟨by decide +kernel, rfl⟩
set_option maxRecDepth 20000 in
theorem dX12_bribed_34 : decode cX12_bribed 34 = .ok (.iload_n 1, 1) ∧ 34 + 1 = 35 := ⟨by decide +kernel, rfl⟩
set_option maxRecDepth 20000 in
theorem dX12_bribed_35 : decode cX12_bribed 35 = .ok (.iload_n 2, 1) ∧ 35 + 1 = 36 := ⟨by decide +kernel, rfl⟩
set_option maxRecDepth 20000 in
theorem dX12_bribed_36 : decode cX12_bribed 36 = .ok (.aload_n 0, 1) ∧ 36 + 1 = 37 := ⟨by decide +kernel, rfl⟩
set_option maxRecDepth 20000 in
theorem dX12_bribed_37 : decode cX12_bribed 37 = .ok (.invokevirtual 377, 3) ∧ 37 + 3 = 40 := ⟨by decide +kernel, rfl⟩
set_option maxRecDepth 20000 in
theorem dX12_bribed_40 : decode cX12_bribed 40 = .ok (.invokevirtual 380, 3) ∧ 40 + 3 = 43 := ⟨by decide +kernel, rfl⟩
set_option maxRecDepth 20000 in
theorem dX12_bribed_43 : decode cX12_bribed 43 = .ok (.goto 6, 3) ∧ ((43 : Nat) : Int) + (6) = ((49 : Nat) : Int) := ⟨by decide +kernel, by decide⟩
set_option maxRecDepth 20000 in
theorem dX12_bribed_46 : decode cX12_bribed 46 = .ok (.ldc2_w 221, 3) ∧ 46 + 3 = 49 := ⟨by decide +kernel, rfl⟩
set_option maxRecDepth 20000 in
theorem dX12_bribed_49 : decode cX12_bribed 49 = .ok (.lreturn, 1) := by decide +kernel
set_option maxRecDepth 20000 in
theorem dX12_isBetter_0 : decode cX12_isBetter 0 = .ok (.iload 7, 2) ∧ 0 + 2 = 2 := ⟨by decide +kernel, rfl⟩
set_option maxRecDepth 20000 in
theorem dX12_isBetter_2 : decode cX12_isBetter 2 = .ok (.iconst (-1), 1) ∧ 2 + 1 = 3 := ⟨by decide +kernel, rfl⟩
set_option maxRecDepth 20000 in
theorem dX12_isBetter_3 : decode cX12_isBetter 3 = .ok (.if_icmp .ne 5, 3) ∧ 3 + 3 = 6 ∧ ((3 : Nat) : Int) + (5) = ((8 : Nat) : Int) := ⟨by decide +kernel, rfl, by decide⟩
set_option maxRecDepth 20000 in
theorem dX12_isBetter_6 : decode cX12_isBetter 6 = .ok (.iconst 1, 1) ∧ 6 + 1 = 7 := ⟨by decide +kernel, rfl⟩
set_option maxRecDepth 20000 in
theorem dX12_isBetter_7 : decode cX12_isBetter 7 = .ok (.ireturn, 1) := by decide +kernel
set_option maxRecDepth 20000 in
theorem dX12_isBetter_8 : decode cX12_isBetter 8 = .ok (.iload_n 1, 1) ∧ 8 + 1 = 9 := ⟨by decide +kernel, rfl⟩
set_option maxRecDepth 20000 in
theorem dX12_isBetter_9 : decode cX12_isBetter 9 = .ok (.ifCond .ne 10, 3) ∧ 9 + 3 = 12 ∧ ((9 : Nat) : Int) + (10) = ((19 : Nat) : Int) := ⟨by decide +kernel, rfl, by decide⟩
set_option maxRecDepth 20000 in
theorem dX12_isBetter_12 : decode cX12_isBetter 12 = .ok (.lload_n 2, 1) ∧ 12 + 1 = 13 := ⟨by decide +kernel, rfl⟩
set_option maxRecDepth 20000 in
theorem dX12_isBetter_13 : decode cX12_isBetter 13 = .ok (.lload 5, 2) ∧ 13 + 2 = 15 := ⟨by decide +kernel, rfl⟩
set_option maxRecDepth 20000 in
theorem dX12_isBetter_15 : decode cX12_isBetter 15 = .ok (.lsub, 1) ∧ 15 + 1 = 16 := ⟨by decide +kernel, rfl⟩
set_option maxRecDepth 20000 in
theorem dX12_isBetter_16 : decode cX12_isBetter 16 = .ok (.goto 7, 3) ∧ ((16 : Nat) : Int) + (7) = ((23 : Nat) : Int) := ⟨by decide +kernel, by decide⟩
set_option maxRecDepth 20000 in
theorem dX12_isBetter_19 : decode cX12_isBetter 19 = .ok (.lload 5, 2) ∧ 19 + 2 = 21 := ⟨by decide +kernel, rfl⟩
set_option maxRecDepth 20000 in
theorem dX12_isBetter_21 : decode cX12_isBetter 21 = .ok (.lload_n 2, 1) ∧ 21 + 1 = 22 := ⟨by decide +kernel, rfl⟩
set_option maxRecDepth 20000 in
theorem dX12_isBetter_22 : decode cX12_isBetter 22 = .ok (.lsub, 1) ∧ 22 + 1 = 23 := ⟨by decide +kernel, rfl⟩
set_option maxRecDepth 20000 in
theorem dX12_isBetter_23 : decode cX12_isBetter 23 = .ok (.lstore 8, 2) ∧ 23 + 2 = 25 := ⟨by decide +kernel, rfl⟩
set_option maxRecDepth 20000 in
theorem dX12_isBetter_25 : decode cX12_isBetter 25 = .ok (.aload_n 0, 1) ∧ 25 + 1 = 26 := ⟨by decide +kernel, rfl⟩
set_option maxRecDepth 20000 in
theorem dX12_isBetter_26 : decode cX12_isBetter 26 = .ok (.getfield 90, 3) ∧ 26 + 3 = 29 := ⟨by decide +kernel, rfl⟩
set_option maxRecDepth 20000 in
theorem dX12_isBetter_29 : decode cX12_isBetter 29 = .ok (.sipush 256, 3) ∧ 29 + 3 = 32 := ⟨by decide +kernel, rfl⟩
set_option maxRecDepth 20000 in
theorem dX12_isBetter_32 : decode cX12_isBetter 32 = .ok (.iload_n 1, 1) ∧ 32 + 1 = 33 := ⟨by decide +kernel, rfl⟩
set_option maxRecDepth 20000 in
theorem dX12_isBetter_33 : decode cX12_isBetter 33 = .ok (.imul, 1) ∧ 33 + 1 = 34 := ⟨by decide +kernel, rfl⟩
set_option maxRecDepth 20000 in
theorem dX12_isBetter_34 : decode cX12_isBetter 34 = .ok (.iload 7, 2) ∧ 34 + 2 = 36 := ⟨by decide +kernel, rfl⟩
set_option maxRecDepth 20000 in
theorem dX12_isBetter_36 : decode cX12_isBetter 36 = .ok (.iadd, 1) ∧ 36 + 1 = 37 := ⟨by decide +kernel, rfl⟩
set_option maxRecDepth 20000 in
theorem dX12_isBetter_37 : decode cX12_isBetter 37 = .ok (.iaload, 1) ∧ 37 + 1 = 38 := ⟨by decide +kernel, rfl⟩
set_option maxRecDepth 20000 in
theorem dX12_isBetter_38 : decode cX12_isBetter 38 = .ok (.aload_n 0, 1) ∧ 38 + 1 = 39 := ⟨by decide +kernel, rfl⟩
set_option maxRecDepth 20000 in
theorem dX12_isBetter_39 : decode cX12_isBetter 39 = .ok (.getfield 90, 3) ∧ 39 + 3 = 42 := ⟨by decide +kernel, rfl⟩
set_option maxRecDepth 20000 in
theorem dX12_isBetter_42 : decode cX12_isBetter 42 = .ok (.sipush 256, 3) ∧ 42 + 3 = 45 := ⟨by decide +kernel, rfl⟩
set_option maxRecDepth 20000 in
theorem dX12_isBetter_45 : decode cX12_isBetter 45 = .ok (.iload_n 1, 1) ∧ 45 + 1 = 46 := ⟨by decide +kernel, rfl⟩
set_option maxRecDepth 20000 in
theorem dX12_isBetter_46 : decode cX12_isBetter 46 = .ok (.imul, 1) ∧ 46 + 1 = 47 := ⟨by decide +kernel, rfl⟩
set_option maxRecDepth 20000 in
theorem dX12_isBetter_47 : decode cX12_isBetter 47 = .ok (.iload 4, 2) ∧ 47 + 2 = 49 := ⟨by decide +kernel, rfl⟩
set_option maxRecDepth 20000 in
theorem dX12_isBetter_49 : decode cX12_isBetter 49 = .ok (.iadd, 1) ∧ 49 + 1 = 50 := ⟨by decide +kernel, rfl⟩
set_option maxRecDepth 20000 in
theorem dX12_isBetter_50 : decode cX12_isBetter 50 = .ok (.iaload, 1) ∧ 50 + 1 = 51 := ⟨by decide +kernel, rfl⟩
set_option maxRecDepth 20000 in
theorem dX12_isBetter_51 : decode cX12_isBetter 51 = .ok (.isub, 1) ∧ 51 + 1 = 52 := ⟨by decide +kernel, rfl⟩
set_option maxRecDepth 20000 in
theorem dX12_isBetter_52 : decode cX12_isBetter 52 = .ok (.istore 10, 2) ∧ 52 + 2 = 54 := ⟨by decide +kernel, rfl⟩
set_option maxRecDepth 20000 in
theorem dX12_isBetter_54 : decode cX12_isBetter 54 = .ok (.lload 8, 2) ∧ 54 + 2 = 56 := ⟨by decide +kernel, rfl⟩
set_option maxRecDepth 20000 in
theorem dX12_isBetter_56 : decode cX12_isBetter 56 = .ok (.lconst 0, 1) ∧ 56 + 1 = 57 := ⟨by decide +kernel, rfl⟩
set_option maxRecDepth 20000 in
theorem dX12_isBetter_57 : decode cX12_isBetter 57 = .ok (.lcmp, 1) ∧ 57 + 1 = 58 := ⟨by decide +kernel, rfl⟩
set_option maxRecDepth 20000 in
theorem dX12_isBetter_58 : decode cX12_isBetter 58 = .ok (.ifCond .gt 15, 3) ∧ 58 + 3 = 61 ∧ ((58 : Nat) : Int) + (15) = ((73 : Nat) : Int) := ⟨by decide +kernel, rfl, by decide⟩
set_option maxRecDepth 20000 in
theorem dX12_isBetter_61 : decode cX12_isBetter 61 = .ok (.lload 8, 2) ∧ 61 + 2 = 63 := ⟨by decide +kernel, rfl⟩
set_option maxRecDepth 20000 in
theorem dX12_isBetter_63 : decode cX12_isBetter 63 = .ok (.lconst 0, 1) ∧ 63 + 1 = 64 := ⟨by decide +kernel, rfl⟩
set_option maxRecDepth 20000 in
theorem dX12_isBetter_64 : decode cX12_isBetter 64 = .ok (.lcmp, 1) ∧ 64 + 1 = 65 := ⟨by decide +kernel, rfl⟩
set_option maxRecDepth 20000 in
theorem dX12_isBetter_65 : decode cX12_isBetter 65 = .ok (.ifCond .ne 12, 3) ∧ 65 + 3 = 68 ∧ ((65 : Nat) : Int) + (12) = ((77 : Nat) : Int) := ⟨by decide +kernel, rfl, by decide⟩
set_option maxRecDepth 20000 in
theorem dX12_isBetter_68 : decode cX12_isBetter 68 = .ok (.iload 10, 2) ∧ 68 + 2 = 70 := ⟨by decide +kernel, rfl⟩
set_option maxRecDepth 20000 in
theorem dX12_isBetter_70 : decode cX12_isBetter 70 = .ok (.ifCond .le 7, 3) ∧ 70 + 3 = 73 ∧ ((70 : Nat) : Int) + (7) = ((77 : Nat) : Int) := ⟨by decide +kernel, rfl, by decide⟩
set_option maxRecDepth 20000 in
theorem dX12_isBetter_73 : decode cX12_isBetter 73 = .ok (.iconst 1, 1) ∧ 73 + 1 = 74 := ⟨by decide +kernel, rfl⟩
set_option maxRecDepth 20000 in
theorem dX12_isBetter_74 : decode cX12_isBetter 74 = .ok (.goto 4, 3) ∧ ((74 : Nat) : Int) + (4) = ((78 : Nat) : Int) := ⟨by decide +kernel, by decide⟩
set_option maxRecDepth 20000 in
theorem dX12_isBetter_77 : decode cX12_isBetter 77 = .ok (.iconst 0, 1) ∧ 77 + 1 = 78 := ⟨by decide +kernel, rfl⟩
set_option maxRecDepth 20000 in
theorem dX12_isBetter_78 : decode cX12_isBetter 78 = .ok (.ireturn, 1) := by decide +kernel
set_option maxRecDepth 20000 in
theorem dX12_replyTo_0 : decode cX12_replyTo 0 = .ok (.iconst (-1), 1) ∧ 0 + 1 = 1 := ⟨by decide +kernel, rfl⟩
set_option maxRecDepth 20000 in
theorem dX12_replyTo_1 : decode cX12_replyTo 1 = .ok (.istore_n 3, 1) ∧ 1 + 1 = 2 := ⟨by decide +kernel, rfl⟩
set_option maxRecDepth 20000 in
theorem dX12_replyTo_2 : decode cX12_replyTo 2 = .ok (.lconst 0, 1) ∧ 2 + 1 = 3 := ⟨by decide +kernel, rfl⟩
set_option maxRecDepth 20000 in
theorem dX12_replyTo_3 : decode cX12_replyTo 3 = .ok (.lstore 4, 2) ∧ 3 + 2 = 5 := ⟨by decide +kernel, rfl⟩
set_option maxRecDepth 20000 in
theorem dX12_replyTo_5 : decode cX12_replyTo 5 = .ok (.iconst 0, 1) ∧ 5 + 1 = 6 := ⟨by decide +kernel, rfl⟩
set_option maxRecDepth 20000 in
theorem dX12_replyTo_6 : decode cX12_replyTo 6 = .ok (.istore 6, 2) ∧ 6 + 2 = 8 := ⟨by decide +kernel, rfl⟩
set_option maxRecDepth 20000 in
theorem dX12_replyTo_8 : decode cX12_replyTo 8 = .ok (.iload 6, 2) ∧ 8 + 2 = 10 := ⟨by decide +kernel, rfl⟩
set_option maxRecDepth 20000 in
theorem dX12_replyTo_10 : decode cX12_replyTo 10 = .ok (.sipush 256, 3) ∧ 10 + 3 = 13 := ⟨by decide +kernel, rfl⟩
set_option maxRecDepth 20000 in
theorem dX12_replyTo_13 : decode cX12_replyTo 13 = .ok (.if_icmp .ge 84, 3) ∧ 13 + 3 = 16 ∧ ((13 : Nat) : Int) + (84) = ((97 : Nat) : Int) := ⟨by decide +kernel, rfl, by decide⟩
set_option maxRecDepth 20000 in
theorem dX12_replyTo_16 : decode cX12_replyTo 16 = .ok (.aload_n 0, 1) ∧ 16 + 1 = 17 := ⟨by decide +kernel, rfl⟩
set_option maxRecDepth 20000 in
theorem dX12_replyTo_17 : decode cX12_replyTo 17 = .ok (.iload_n 1, 1) ∧ 17 + 1 = 18 := ⟨by decide +kernel, rfl⟩
set_option maxRecDepth 20000 in
theorem dX12_replyTo_18 : decode cX12_replyTo 18 = .ok (.iload 6, 2) ∧ 18 + 2 = 20 := ⟨by decide +kernel, rfl⟩
set_option maxRecDepth 20000 in
theorem dX12_replyTo_20 : decode cX12_replyTo 20 = .ok (.invokevirtual 404, 3) ∧ 20 + 3 = 23 := ⟨by decide +kernel, rfl⟩
set_option maxRecDepth 20000 in
theorem dX12_replyTo_23 : decode cX12_replyTo 23 = .ok (.ifCond .eq 68, 3) ∧ 23 + 3 = 26 ∧ ((23 : Nat) : Int) + (68) = ((91 : Nat) : Int) := ⟨by decide +kernel, rfl, by decide⟩
set_option maxRecDepth 20000 in
theorem dX12_replyTo_26 : decode cX12_replyTo 26 = .ok (.iload_n 1, 1) ∧ 26 + 1 = 27 := ⟨by decide +kernel, rfl⟩
set_option maxRecDepth 20000 in
theorem dX12_replyTo_27 : decode cX12_replyTo 27 = .ok (.ifCond .ne 23, 3) ∧ 27 + 3 = 30 ∧ ((27 : Nat) : Int) + (23) = ((50 : Nat) : Int) := ⟨by decide +kernel, rfl, by decide⟩
set_option maxRecDepth 20000 in
theorem dX12_replyTo_30 : decode cX12_replyTo 30 = .ok (.aload_n 0, 1) ∧ 30 + 1 = 31 := ⟨by decide +kernel, rfl⟩
set_option maxRecDepth 20000 in
theorem dX12_replyTo_31 : decode cX12_replyTo 31 = .ok (.aload_n 0, 1) ∧ 31 + 1 = 32 := ⟨by decide +kernel, rfl⟩
set_option maxRecDepth 20000 in
theorem dX12_replyTo_32 : decode cX12_replyTo 32 = .ok (.getfield 13, 3) ∧ 32 + 3 = 35 := ⟨by decide +kernel, rfl⟩
set_option maxRecDepth 20000 in
theorem dX12_replyTo_35 : decode cX12_replyTo 35 = .ok (.iconst 4, 1) ∧ 35 + 1 = 36 := ⟨by decide +kernel, rfl⟩
set_option maxRecDepth 20000 in
theorem dX12_replyTo_36 : decode cX12_replyTo 36 = .ok (.iaload, 1) ∧ 36 + 1 = 37 := ⟨by decide +kernel, rfl⟩
set_option maxRecDepth 20000 in
theorem dX12_replyTo_37 : decode cX12_replyTo 37 = .ok (.iload 6, 2) ∧ 37 + 2 = 39 := ⟨by decide +kernel, rfl⟩
set_option maxRecDepth 20000 in
theorem dX12_replyTo_39 : decode cX12_replyTo 39 = .ok (.iload_n 2, 1) ∧ 39 + 1 = 40 := ⟨by decide +kernel, rfl⟩
set_option maxRecDepth 20000 in
theorem dX12_replyTo_40 : decode cX12_replyTo 40 = .ok (.aload_n 0, 1) ∧ 40 + 1 = 41 := ⟨by decide +kernel, rfl⟩
set_option maxRecDepth 20000 in
theorem dX12_replyTo_41 : decode cX12_replyTo 41 = .ok (.invokevirtual 377, 3) ∧ 41 + 3 = 44 := ⟨by decide +kernel, rfl⟩
set_option maxRecDepth 20000 in
theorem dX12_replyTo_44 : decode cX12_replyTo 44 = .ok (.invokevirtual 380, 3) ∧ 44 + 3 = 47 := ⟨by decide +kernel, rfl⟩
set_option maxRecDepth 20000 in
theorem dX12_replyTo_47 : decode cX12_replyTo 47 = .ok (.goto 20, 3) ∧ ((47 : Nat) : Int) + (20) = ((67 : Nat) : Int) := ⟨by decide +kernel, by decide⟩
set_option maxRecDepth 20000 in
theorem dX12_replyTo_50 : decode cX12_replyTo 50 = .ok (.aload_n 0, 1) ∧ 50 + 1 = 51 := ⟨by decide +kernel, rfl⟩
set_option maxRecDepth 20000 in
theorem dX12_replyTo_51 : decode cX12_replyTo 51 = .ok (.aload_n 0, 1) ∧ 51 + 1 = 52 := ⟨by decide +kernel, rfl⟩
set_option maxRecDepth 20000 in
theorem dX12_replyTo_52 : decode cX12_replyTo 52 = .ok (.getfield 13, 3) ∧ 52 + 3 = 55 := ⟨by decide +kernel, rfl⟩
set_option maxRecDepth 20000 in
theorem dX12_replyTo_55 : decode cX12_replyTo 55 = .ok (.iconst 4, 1) ∧ 55 + 1 = 56 := ⟨by decide +kernel, rfl⟩
set_option maxRecDepth 20000 in
theorem dX12_replyTo_56 : decode cX12_replyTo 56 = .ok (.iaload, 1) ∧ 56 + 1 = 57 := ⟨by decide +kernel, rfl⟩
set_option maxRecDepth 20000 in
theorem dX12_replyTo_57 : decode cX12_replyTo 57 = .ok (.iload_n 2, 1) ∧ 57 + 1 = 58 := ⟨by decide +kernel, rfl⟩
set_option maxRecDepth 20000 in
theorem dX12_replyTo_58 : decode cX12_replyTo 58 = .ok (.iload 6, 2) ∧ 58 + 2 = 60 := ⟨by decide +kernel, rfl⟩
set_option maxRecDepth 20000 in
theorem dX12_replyTo_60 : decode cX12_replyTo 60 = .ok (.aload_n 0, 1) ∧ 60 + 1 = 61 := ⟨by decide +kernel, rfl⟩
set_option maxRecDepth 20000 in
theorem dX12_replyTo_61 : decode cX12_replyTo 61 = .ok (.invokevirtual 377, 3) ∧ 61 + 3 = 64 := ⟨by decide +kernel, rfl⟩
set_option maxRecDepth 20000 in
theorem dX12_replyTo_64 : decode cX12_replyTo 64 = .ok (.invokevirtual 380, 3) ∧ 64 + 3 = 67 := ⟨by decide +kernel, rfl⟩
set_option maxRecDepth 20000 in
theorem dX12_replyTo_67 : decode cX12_replyTo 67 = .ok (.lstore 7, 2) ∧ 67 + 2 = 69 := ⟨by decide +kernel, rfl⟩
set_option maxRecDepth 20000 in
theorem dX12_replyTo_69 : decode cX12_replyTo 69 = .ok (.aload_n 0, 1) ∧ 69 + 1 = 70 := ⟨by decide +kernel, rfl⟩
set_option maxRecDepth 20000 in
theorem dX12_replyTo_70 : decode cX12_replyTo 70 = .ok (.iload_n 1, 1) ∧ 70 + 1 = 71 := ⟨by decide +kernel, rfl⟩
set_option maxRecDepth 20000 in
theorem dX12_replyTo_71 : decode cX12_replyTo 71 = .ok (.lload 7, 2) ∧ 71 + 2 = 73 := ⟨by decide +kernel, rfl⟩
set_option maxRecDepth 20000 in
theorem dX12_replyTo_73 : decode cX12_replyTo 73 = .ok (.iload 6, 2) ∧ 73 + 2 = 75 := ⟨by decide +kernel, rfl⟩
set_option maxRecDepth 20000 in
theorem dX12_replyTo_75 : decode cX12_replyTo 75 = .ok (.lload 4, 2) ∧ 75 + 2 = 77 := ⟨by decide +kernel, rfl⟩
set_option maxRecDepth 20000 in
theorem dX12_replyTo_77 : decode cX12_replyTo 77 = .ok (.iload_n 3, 1) ∧ 77 + 1 = 78 := ⟨by decide +kernel, rfl⟩
set_option maxRecDepth 20000 in
theorem dX12_replyTo_78 : decode cX12_replyTo 78 = .ok (.invokevirtual 407, 3) ∧ 78 + 3 = 81 := ⟨by decide +kernel, rfl⟩
set_option maxRecDepth 20000 in
theorem dX12_replyTo_81 : decode cX12_replyTo 81 = .ok (.ifCond .eq 10, 3) ∧ 81 + 3 = 84 ∧ ((81 : Nat) : Int) + (10) = ((91 : Nat) : Int) := ⟨by decide +kernel, rfl, by decide⟩
set_option maxRecDepth 20000 in
theorem dX12_replyTo_84 : decode cX12_replyTo 84 = .ok (.iload 6, 2) ∧ 84 + 2 = 86 := ⟨by decide +kernel, rfl⟩
set_option maxRecDepth 20000 in
theorem dX12_replyTo_86 : decode cX12_replyTo 86 = .ok (.istore_n 3, 1) ∧ 86 + 1 = 87 := ⟨by decide +kernel, rfl⟩
set_option maxRecDepth 20000 in
theorem dX12_replyTo_87 : decode cX12_replyTo 87 = .ok (.lload 7, 2) ∧ 87 + 2 = 89 := ⟨by decide +kernel, rfl⟩
set_option maxRecDepth 20000 in
theorem dX12_replyTo_89 : decode cX12_replyTo 89 = .ok (.lstore 4, 2) ∧ 89 + 2 = 91 := ⟨by decide +kernel, rfl⟩
set_option maxRecDepth 20000 in
theorem dX12_replyTo_91 : decode cX12_replyTo 91 = .ok (.iinc 6 1, 3) ∧ 91 + 3 = 94 := ⟨by decide +kernel, rfl⟩
set_option maxRecDepth 20000 in
theorem dX12_replyTo_94 : decode cX12_replyTo 94 = .ok (.goto (-86), 3) ∧ ((94 : Nat) : Int) + (-86) = ((8 : Nat) : Int) := ⟨by decide +kernel, by decide⟩
set_option maxRecDepth 20000 in
theorem dX12_replyTo_97 : decode cX12_replyTo 97 = .ok (.iload_n 3, 1) ∧ 97 + 1 = 98 := ⟨by decide +kernel, rfl⟩
set_option maxRecDepth 20000 in
theorem dX12_replyTo_98 : decode cX12_replyTo 98 = .ok (.ireturn, 1) := by decide +kernel
set_option maxRecDepth 20000 in
theorem dX12_reply_0 : decode cX12_reply 0 = .ok (.aload_n 0, 1) ∧ 0 + 1 = 1 := ⟨by decide +kernel, rfl⟩
set_option maxRecDepth 20000 in
theorem dX12_reply_1 : decode cX12_reply 1 = .ok (.iconst 0, 1) ∧ 1 + 1 = 2 := ⟨by decide +kernel, rfl⟩
set_option maxRecDepth 20000 in
theorem dX12_reply_2 : decode cX12_reply 2 = .ok (.putfield 124, 3) ∧ 2 + 3 = 5 := ⟨by decide +kernel, rfl⟩
set_option maxRecDepth 20000 in
theorem dX12_reply_5 : decode cX12_reply 5 = .ok (.iload_n 1, 1) ∧ 5 + 1 = 6 := ⟨by decide +kernel, rfl⟩
set_option maxRecDepth 20000 in
theorem dX12_reply_6 : decode cX12_reply 6 = .ok (.invokestatic 358, 3) ∧ 6 + 3 = 9 := ⟨by decide +kernel, rfl⟩
set_option maxRecDepth 20000 in
theorem dX12_reply_9 : decode cX12_reply 9 = .ok (.ifCond .eq 13, 3) ∧ 9 + 3 = 12 ∧ ((9 : Nat) : Int) + (13) = ((22 : Nat) : Int) := ⟨by decide +kernel, rfl, by decide⟩
set_option maxRecDepth 20000 in
theorem dX12_reply_12 : decode cX12_reply 12 = .ok (.iload_n 3, 1) ∧ 12 + 1 = 13 := ⟨by decide +kernel, rfl⟩
set_option maxRecDepth 20000 in
theorem dX12_reply_13 : decode cX12_reply 13 = .ok (.i2l, 1) ∧ 13 + 1 = 14 := ⟨by decide +kernel, rfl⟩
set_option maxRecDepth 20000 in
theorem dX12_reply_14 : decode cX12_reply 14 = .ok (.lconst 0, 1) ∧ 14 + 1 = 15 := ⟨by decide +kernel, rfl⟩
set_option maxRecDepth 20000 in
theorem dX12_reply_15 : decode cX12_reply 15 = .ok (.lconst 1, 1) ∧ 15 + 1 = 16 := ⟨by decide +kernel, rfl⟩
set_option maxRecDepth 20000 in
theorem dX12_reply_16 : decode cX12_reply 16 = .ok (.invokestatic 134, 3) ∧ 16 + 3 = 19 := ⟨by decide +kernel, rfl⟩
set_option maxRecDepth 20000 in
theorem dX12_reply_19 : decode cX12_reply 19 = .ok (.ifCond .ne 5, 3) ∧ 19 + 3 = 22 ∧ ((19 : Nat) : Int) + (5) = ((24 : Nat) : Int) := ⟨by decide +kernel, rfl, by decide⟩
set_option maxRecDepth 20000 in
theorem dX12_reply_22 : decode cX12_reply 22 = .ok (.iconst (-1), 1) ∧ 22 + 1 = 23 := ⟨by decide +kernel, rfl⟩
set_option maxRecDepth 20000 in
theorem dX12_reply_23 : decode cX12_reply 23 = .ok (.ireturn, 1) := by decide +kernel
set_option maxRecDepth 20000 in
theorem dX12_reply_24 : decode cX12_reply 24 = .ok (.aload_n 0, 1) ∧ 24 + 1 = 25 := ⟨by decide +kernel, rfl⟩
set_option maxRecDepth 20000 in
theorem dX12_reply_25 : decode cX12_reply 25 = .ok (.invokevirtual 401, 3) ∧ 25 + 3 = 28 := ⟨by decide +kernel, rfl⟩
set_option maxRecDepth 20000 in
theorem dX12_reply_28 : decode cX12_reply 28 = .ok (.aload_n 0, 1) ∧ 28 + 1 = 29 := ⟨by decide +kernel, rfl⟩
set_option maxRecDepth 20000 in
theorem dX12_reply_29 : decode cX12_reply 29 = .ok (.iconst 1, 1) ∧ 29 + 1 = 30 := ⟨by decide +kernel, rfl⟩
set_option maxRecDepth 20000 in
theorem dX12_reply_30 : decode cX12_reply 30 = .ok (.iload_n 1, 1) ∧ 30 + 1 = 31 := ⟨by decide +kernel, rfl⟩
set_option maxRecDepth 20000 in
theorem dX12_reply_31 : decode cX12_reply 31 = .ok (.isub, 1) ∧ 31 + 1 = 32 := ⟨by decide +kernel, rfl⟩
set_option maxRecDepth 20000 in
theorem dX12_reply_32 : decode cX12_reply 32 = .ok (.iload_n 2, 1) ∧ 32 + 1 = 33 := ⟨by decide +kernel, rfl⟩
set_option maxRecDepth 20000 in
theorem dX12_reply_33 : decode cX12_reply 33 = .ok (.invokevirtual 404, 3) ∧ 33 + 3 = 36 := ⟨by decide +kernel, rfl⟩
set_option maxRecDepth 20000 in
theorem dX12_reply_36 : decode cX12_reply 36 = .ok (.ifCond .ne 5, 3) ∧ 36 + 3 = 39 ∧ ((36 : Nat) : Int) + (5) = ((41 : Nat) : Int) := ⟨by decide +kernel, rfl, by decide⟩
set_option maxRecDepth 20000 in
theorem dX12_reply_39 : decode cX12_reply 39 = .ok (.iconst (-1), 1) ∧ 39 + 1 = 40 := ⟨by decide +kernel, rfl⟩
set_option maxRecDepth 20000 in
theorem dX12_reply_40 : decode cX12_reply 40 = .ok (.ireturn, 1) := by decide +kernel
set_option maxRecDepth 20000 in
theorem dX12_reply_41 : decode cX12_reply 41 = .ok (.aload_n 0, 1) ∧ 41 + 1 = 42 := ⟨by decide +kernel, rfl⟩
set_option maxRecDepth 20000 in
theorem dX12_reply_42 : decode cX12_reply 42 = .ok (.iload_n 1, 1) ∧ 42 + 1 = 43 := ⟨by decide +kernel, rfl⟩
set_option maxRecDepth 20000 in
theorem dX12_reply_43 : decode cX12_reply 43 = .ok (.iload_n 2, 1) ∧ 43 + 1 = 44 := ⟨by decide +kernel, rfl⟩
set_option maxRecDepth 20000 in
theorem dX12_reply_44 : decode cX12_reply 44 = .ok (.invokevirtual 411, 3) ∧ 44 + 3 = 47 := ⟨by decide +kernel, rfl⟩
set_option maxRecDepth 20000 in
theorem dX12_reply_47 : decode cX12_reply 47 = .ok (.istore 4, 2) ∧ 47 + 2 = 49 := ⟨by decide +kernel, rfl⟩
set_option maxRecDepth 20000 in
theorem dX12_reply_49 : decode cX12_reply 49 = .ok (.iload_n 3, 1) ∧ 49 + 1 = 50 := ⟨by decide +kernel, rfl⟩
set_option maxRecDepth 20000 in
theorem dX12_reply_50 : decode cX12_reply 50 = .ok (.ifCond .ne 8, 3) ∧ 50 + 3 = 53 ∧ ((50 : Nat) : Int) + (8) = ((58 : Nat) : Int) := ⟨by decide +kernel, rfl, by decide⟩
set_option maxRecDepth 20000 in
theorem dX12_reply_53 : decode cX12_reply 53 = .ok (.iload 4, 2) ∧ 53 + 2 = 55 := ⟨by decide +kernel, rfl⟩
set_option maxRecDepth 20000 in
theorem dX12_reply_55 : decode cX12_reply 55 = .ok (.goto 16, 3) ∧ ((55 : Nat) : Int) + (16) = ((71 : Nat) : Int) := ⟨by decide +kernel, by decide⟩
set_option maxRecDepth 20000 in
theorem dX12_reply_58 : decode cX12_reply 58 = .ok (.aload_n 0, 1) ∧ 58 + 1 = 59 := ⟨by decide +kernel, rfl⟩
set_option maxRecDepth 20000 in
theorem dX12_reply_59 : decode cX12_reply 59 = .ok (.getfield 90, 3) ∧ 59 + 3 = 62 := ⟨by decide +kernel, rfl⟩
set_option maxRecDepth 20000 in
theorem dX12_reply_62 : decode cX12_reply 62 = .ok (.sipush 256, 3) ∧ 62 + 3 = 65 := ⟨by decide +kernel, rfl⟩
set_option maxRecDepth 20000 in
theorem dX12_reply_65 : decode cX12_reply 65 = .ok (.iload_n 1, 1) ∧ 65 + 1 = 66 := ⟨by decide +kernel, rfl⟩
set_option maxRecDepth 20000 in
theorem dX12_reply_66 : decode cX12_reply 66 = .ok (.imul, 1) ∧ 66 + 1 = 67 := ⟨by decide +kernel, rfl⟩
set_option maxRecDepth 20000 in
theorem dX12_reply_67 : decode cX12_reply 67 = .ok (.iload 4, 2) ∧ 67 + 2 = 69 := ⟨by decide +kernel, rfl⟩
set_option maxRecDepth 20000 in
theorem dX12_reply_69 : decode cX12_reply 69 = .ok (.iadd, 1) ∧ 69 + 1 = 70 := ⟨by decide +kernel, rfl⟩
set_option maxRecDepth 20000 in
theorem dX12_reply_70 : decode cX12_reply 70 = .ok (.iaload, 1) ∧ 70 + 1 = 71 := ⟨by decide +kernel, rfl⟩
set_option maxRecDepth 20000 in
theorem dX12_reply_71 : decode cX12_reply 71 = .ok (.ireturn, 1) := by decide +kernel
set_option maxRecDepth 20000 in
theorem dX12_layTable_0 : decode cX12_layTable 0 = .ok (.aload_n 0, 1) ∧ 0 + 1 = 1 := ⟨by decide +kernel, rfl⟩
set_option maxRecDepth 20000 in
theorem dX12_layTable_1 : decode cX12_layTable 1 = .ok (.invokevirtual 401, 3) ∧ 1 + 3 = 4 := ⟨by decide +kernel, rfl⟩
set_option maxRecDepth 20000 in
theorem dX12_layTable_4 : decode cX12_layTable 4 = .ok (.iconst 0, 1) ∧ 4 + 1 = 5 := ⟨by decide +kernel, rfl⟩
set_option maxRecDepth 20000 in
theorem dX12_layTable_5 : decode cX12_layTable 5 = .ok (.istore_n 1, 1) ∧ 5 + 1 = 6 := ⟨by decide +kernel, rfl⟩
set_option maxRecDepth 20000 in
theorem dX12_layTable_6 : decode cX12_layTable 6 = .ok (.iload_n 1, 1) ∧ 6 + 1 = 7 := ⟨by decide +kernel, rfl⟩
set_option maxRecDepth 20000 in
theorem dX12_layTable_7 : decode cX12_layTable 7 = .ok (.sipush 256, 3) ∧ 7 + 3 = 10 := ⟨by decide +kernel, rfl⟩
set_option maxRecDepth 20000 in
theorem dX12_layTable_10 : decode cX12_layTable 10 = .ok (.if_icmp .ge 70, 3) ∧ 10 + 3 = 13 ∧ ((10 : Nat) : Int) + (70) = ((80 : Nat) : Int) := ⟨by decide +kernel, rfl, by decide⟩
set_option maxRecDepth 20000 in
theorem dX12_layTable_13 : decode cX12_layTable 13 = .ok (.iconst 0, 1) ∧ 13 + 1 = 14 := ⟨by decide +kernel, rfl⟩
set_option maxRecDepth 20000 in
theorem dX12_layTable_14 : decode cX12_layTable 14 = .ok (.istore_n 2, 1) ∧ 14 + 1 = 15 := ⟨by decide +kernel, rfl⟩
set_option maxRecDepth 20000 in
theorem dX12_layTable_15 : decode cX12_layTable 15 = .ok (.iload_n 2, 1) ∧ 15 + 1 = 16 := ⟨by decide +kernel, rfl⟩
set_option maxRecDepth 20000 in
theorem dX12_layTable_16 : decode cX12_layTable 16 = .ok (.sipush 256, 3) ∧ 16 + 3 = 19 := ⟨by decide +kernel, rfl⟩
set_option maxRecDepth 20000 in
theorem dX12_layTable_19 : decode cX12_layTable 19 = .ok (.if_icmp .ge 55, 3) ∧ 19 + 3 = 22 ∧ ((19 : Nat) : Int) + (55) = ((74 : Nat) : Int) := ⟨by decide +kernel, rfl, by decide⟩
set_option maxRecDepth 20000 in
theorem dX12_layTable_22 : decode cX12_layTable 22 = .ok (.aload_n 0, 1) ∧ 22 + 1 = 23 := ⟨by decide +kernel, rfl⟩
set_option maxRecDepth 20000 in
theorem dX12_layTable_23 : decode cX12_layTable 23 = .ok (.iconst 0, 1) ∧ 23 + 1 = 24 := ⟨by decide +kernel, rfl⟩
set_option maxRecDepth 20000 in
theorem dX12_layTable_24 : decode cX12_layTable 24 = .ok (.iload_n 1, 1) ∧ 24 + 1 = 25 := ⟨by decide +kernel, rfl⟩
set_option maxRecDepth 20000 in
theorem dX12_layTable_25 : decode cX12_layTable 25 = .ok (.invokevirtual 404, 3) ∧ 25 + 3 = 28 := ⟨by decide +kernel, rfl⟩
set_option maxRecDepth 20000 in
theorem dX12_layTable_28 : decode cX12_layTable 28 = .ok (.ifCond .eq 46, 3) ∧ 28 + 3 = 31 ∧ ((28 : Nat) : Int) + (46) = ((74 : Nat) : Int) := ⟨by decide +kernel, rfl, by decide⟩
set_option maxRecDepth 20000 in
theorem dX12_layTable_31 : decode cX12_layTable 31 = .ok (.aload_n 0, 1) ∧ 31 + 1 = 32 := ⟨by decide +kernel, rfl⟩
set_option maxRecDepth 20000 in
theorem dX12_layTable_32 : decode cX12_layTable 32 = .ok (.iconst 1, 1) ∧ 32 + 1 = 33 := ⟨by decide +kernel, rfl⟩
set_option maxRecDepth 20000 in
theorem dX12_layTable_33 : decode cX12_layTable 33 = .ok (.iload_n 2, 1) ∧ 33 + 1 = 34 := ⟨by decide +kernel, rfl⟩
set_option maxRecDepth 20000 in
theorem dX12_layTable_34 : decode cX12_layTable 34 = .ok (.invokevirtual 404, 3) ∧ 34 + 3 = 37 := ⟨by decide +kernel, rfl⟩
set_option maxRecDepth 20000 in
theorem dX12_layTable_37 : decode cX12_layTable 37 = .ok (.ifCond .eq 31, 3) ∧ 37 + 3 = 40 ∧ ((37 : Nat) : Int) + (31) = ((68 : Nat) : Int) := ⟨by decide +kernel, rfl, by decide⟩
set_option maxRecDepth 20000 in
theorem dX12_layTable_40 : decode cX12_layTable 40 = .ok (.aload_n 0, 1) ∧ 40 + 1 = 41 := ⟨by decide +kernel, rfl⟩
set_option maxRecDepth 20000 in
theorem dX12_layTable_41 : decode cX12_layTable 41 = .ok (.getfield 94, 3) ∧ 41 + 3 = 44 := ⟨by decide +kernel, rfl⟩
set_option maxRecDepth 20000 in
theorem dX12_layTable_44 : decode cX12_layTable 44 = .ok (.sipush 256, 3) ∧ 44 + 3 = 47 := ⟨by decide +kernel, rfl⟩
set_option maxRecDepth 20000 in
theorem dX12_layTable_47 : decode cX12_layTable 47 = .ok (.iload_n 1, 1) ∧ 47 + 1 = 48 := ⟨by decide +kernel, rfl⟩
set_option maxRecDepth 20000 in
theorem dX12_layTable_48 : decode cX12_layTable 48 = .ok (.imul, 1) ∧ 48 + 1 = 49 := ⟨by decide +kernel, rfl⟩
set_option maxRecDepth 20000 in
theorem dX12_layTable_49 : decode cX12_layTable 49 = .ok (.iload_n 2, 1) ∧ 49 + 1 = 50 := ⟨by decide +kernel, rfl⟩
set_option maxRecDepth 20000 in
theorem dX12_layTable_50 : decode cX12_layTable 50 = .ok (.iadd, 1) ∧ 50 + 1 = 51 := ⟨by decide +kernel, rfl⟩
set_option maxRecDepth 20000 in
theorem dX12_layTable_51 : decode cX12_layTable 51 = .ok (.aload_n 0, 1) ∧ 51 + 1 = 52 := ⟨by decide +kernel, rfl⟩
set_option maxRecDepth 20000 in
theorem dX12_layTable_52 : decode cX12_layTable 52 = .ok (.aload_n 0, 1) ∧ 52 + 1 = 53 := ⟨by decide +kernel, rfl⟩
set_option maxRecDepth 20000 in
theorem dX12_layTable_53 : decode cX12_layTable 53 = .ok (.getfield 13, 3) ∧ 53 + 3 = 56 := ⟨by decide +kernel, rfl⟩
set_option maxRecDepth 20000 in
theorem dX12_layTable_56 : decode cX12_layTable 56 = .ok (.iconst 4, 1) ∧ 56 + 1 = 57 := ⟨by decide +kernel, rfl⟩
set_option maxRecDepth 20000 in
theorem dX12_layTable_57 : decode cX12_layTable 57 = .ok (.iaload, 1) ∧ 57 + 1 = 58 := ⟨by decide +kernel, rfl⟩
set_option maxRecDepth 20000 in
theorem dX12_layTable_58 : decode cX12_layTable 58 = .ok (.iload_n 1, 1) ∧ 58 + 1 = 59 := ⟨by decide +kernel, rfl⟩
set_option maxRecDepth 20000 in
theorem dX12_layTable_59 : decode cX12_layTable 59 = .ok (.iload_n 2, 1) ∧ 59 + 1 = 60 := ⟨by decide +kernel, rfl⟩
set_option maxRecDepth 20000 in
theorem dX12_layTable_60 : decode cX12_layTable 60 = .ok (.aload_n 0, 1) ∧ 60 + 1 = 61 := ⟨by decide +kernel, rfl⟩
set_option maxRecDepth 20000 in
theorem dX12_layTable_61 : decode cX12_layTable 61 = .ok (.invokevirtual 377, 3) ∧ 61 + 3 = 64 := ⟨by decide +kernel, rfl⟩
set_option maxRecDepth 20000 in
theorem dX12_layTable_64 : decode cX12_layTable 64 = .ok (.invokevirtual 380, 3) ∧ 64 + 3 = 67 := ⟨by decide +kernel, rfl⟩
set_option maxRecDepth 20000 in
theorem dX12_layTable_67 : decode cX12_layTable 67 = .ok (.lastore, 1) ∧ 67 + 1 = 68 := ⟨by decide +kernel, rfl⟩
set_option maxRecDepth 20000 in
theorem dX12_layTable_68 : decode cX12_layTable 68 = .ok (.iinc 2 1, 3) ∧ 68 + 3 = 71 := ⟨by decide +kernel, rfl⟩
set_option maxRecDepth 20000 in
theorem dX12_layTable_71 : decode cX12_layTable 71 = .ok (.goto (-56), 3) ∧ ((71 : Nat) : Int) + (-56) = ((15 : Nat) : Int) := ⟨by decide +kernel, by decide⟩
set_option maxRecDepth 20000 in
theorem dX12_layTable_74 : decode cX12_layTable 74 = .ok (.iinc 1 1, 3) ∧ 74 + 3 = 77 := ⟨by decide +kernel, rfl⟩
set_option maxRecDepth 20000 in
theorem dX12_layTable_77 : decode cX12_layTable 77 = .ok (.goto (-71), 3) ∧ ((77 : Nat) : Int) + (-71) = ((6 : Nat) : Int) := ⟨by decide +kernel, by decide⟩
set_option maxRecDepth 20000 in
theorem dX12_layTable_80 : decode cX12_layTable 80 = .ok (.return_, 1) := by decide +kernel
set_option maxRecDepth 20000 in
theorem dX12_at_0 : decode cX12_at 0 = .ok (.iload_n 1, 1) ∧ 0 + 1 = 1 := ⟨by decide +kernel, rfl⟩
set_option maxRecDepth 20000 in
theorem dX12_at_1 : decode cX12_at 1 = .ok (.ifCond .ne 18, 3) ∧ 1 + 3 = 4 ∧ ((1 : Nat) : Int) + (18) = ((19 : Nat) : Int) := ⟨by decide +kernel, rfl, by decide⟩
set_option maxRecDepth 20000 in
theorem dX12_at_4 : decode cX12_at 4 = .ok (.aload_n 0, 1) ∧ 4 + 1 = 5 := ⟨by decide +kernel, rfl⟩
set_option maxRecDepth 20000 in
theorem dX12_at_5 : decode cX12_at 5 = .ok (.getfield 94, 3) ∧ 5 + 3 = 8 := ⟨by decide +kernel, rfl⟩
set_option maxRecDepth 20000 in
theorem dX12_at_8 : decode cX12_at 8 = .ok (.sipush 256, 3) ∧ 8 + 3 = 11 := ⟨by decide +kernel, rfl⟩
set_option maxRecDepth 20000 in
theorem dX12_at_11 : decode cX12_at 11 = .ok (.iload_n 2, 1) ∧ 11 + 1 = 12 := ⟨by decide +kernel, rfl⟩
set_option maxRecDepth 20000 in
theorem dX12_at_12 : decode cX12_at 12 = .ok (.imul, 1) ∧ 12 + 1 = 13 := ⟨by decide +kernel, rfl⟩
set_option maxRecDepth 20000 in
theorem dX12_at_13 : decode cX12_at 13 = .ok (.iload_n 3, 1) ∧ 13 + 1 = 14 := ⟨by decide +kernel, rfl⟩
set_option maxRecDepth 20000 in
theorem dX12_at_14 : decode cX12_at 14 = .ok (.iadd, 1) ∧ 14 + 1 = 15 := ⟨by decide +kernel, rfl⟩
set_option maxRecDepth 20000 in
theorem dX12_at_15 : decode cX12_at 15 = .ok (.laload, 1) ∧ 15 + 1 = 16 := ⟨by decide +kernel, rfl⟩
set_option maxRecDepth 20000 in
theorem dX12_at_16 : decode cX12_at 16 = .ok (.goto 15, 3) ∧ ((16 : Nat) : Int) + (15) = ((31 : Nat) : Int) := ⟨by decide +kernel, by decide⟩
set_option maxRecDepth 20000 in
theorem dX12_at_19 : decode cX12_at 19 = .ok (.aload_n 0, 1) ∧ 19 + 1 = 20 := ⟨by decide +kernel, rfl⟩
set_option maxRecDepth 20000 in
theorem dX12_at_20 : decode cX12_at 20 = .ok (.getfield 94, 3) ∧ 20 + 3 = 23 := ⟨by decide +kernel, rfl⟩
set_option maxRecDepth 20000 in
theorem dX12_at_23 : decode cX12_at 23 = .ok (.sipush 256, 3) ∧ 23 + 3 = 26 := ⟨by decide +kernel, rfl⟩
set_option maxRecDepth 20000 in
theorem dX12_at_26 : decode cX12_at 26 = .ok (.iload_n 3, 1) ∧ 26 + 1 = 27 := ⟨by decide +kernel, rfl⟩
set_option maxRecDepth 20000 in
theorem dX12_at_27 : decode cX12_at 27 = .ok (.imul, 1) ∧ 27 + 1 = 28 := ⟨by decide +kernel, rfl⟩
set_option maxRecDepth 20000 in
theorem dX12_at_28 : decode cX12_at 28 = .ok (.iload_n 2, 1) ∧ 28 + 1 = 29 := ⟨by decide +kernel, rfl⟩
set_option maxRecDepth 20000 in
theorem dX12_at_29 : decode cX12_at 29 = .ok (.iadd, 1) ∧ 29 + 1 = 30 := ⟨by decide +kernel, rfl⟩
set_option maxRecDepth 20000 in
theorem dX12_at_30 : decode cX12_at 30 = .ok (.laload, 1) ∧ 30 + 1 = 31 := ⟨by decide +kernel, rfl⟩
set_option maxRecDepth 20000 in
theorem dX12_at_31 : decode cX12_at 31 = .ok (.lreturn, 1) := by decide +kernel
set_option maxRecDepth 20000 in
theorem dX12_findSure_0 : decode cX12_findSure 0 = .ok (.aload_n 0, 1) ∧ 0 + 1 = 1 := ⟨by decide +kernel, rfl⟩
set_option maxRecDepth 20000 in
theorem dX12_findSure_1 : decode cX12_findSure 1 = .ok (.invokevirtual 414, 3) ∧ 1 + 3 = 4 := ⟨by decide +kernel, rfl⟩
set_option maxRecDepth 20000 in
theorem dX12_findSure_4 : decode cX12_findSure 4 = .ok (.iconst (-1), 1) ∧ 4 + 1 = 5 := ⟨by decide +kernel, rfl⟩
set_option maxRecDepth 20000 in
theorem dX12_findSure_5 : decode cX12_findSure 5 = .ok (.istore_n 2, 1) ∧ 5 + 1 = 6 := ⟨by decide +kernel, rfl⟩
set_option maxRecDepth 20000 in
theorem dX12_findSure_6 : decode cX12_findSure 6 = .ok (.iconst 0, 1) ∧ 6 + 1 = 7 := ⟨by decide +kernel, rfl⟩
set_option maxRecDepth 20000 in
theorem dX12_findSure_7 : decode cX12_findSure 7 = .ok (.istore_n 3, 1) ∧ 7 + 1 = 8 := ⟨by decide +kernel, rfl⟩
set_option maxRecDepth 20000 in
theorem dX12_findSure_8 : decode cX12_findSure 8 = .ok (.iload_n 3, 1) ∧ 8 + 1 = 9 := ⟨by decide +kernel, rfl⟩
set_option maxRecDepth 20000 in
theorem dX12_findSure_9 : decode cX12_findSure 9 = .ok (.sipush 256, 3) ∧ 9 + 3 = 12 := ⟨by decide +kernel, rfl⟩
set_option maxRecDepth 20000 in
theorem dX12_findSure_12 : decode cX12_findSure 12 = .ok (.if_icmp .ge 135, 3) ∧ 12 + 3 = 15 ∧ ((12 : Nat) : Int) + (135) = ((147 : Nat) : Int) := ⟨by decide +kernel, rfl, by decide⟩
set_option maxRecDepth 20000 in
theorem dX12_findSure_15 : decode cX12_findSure 15 = .ok (.aload_n 0, 1) ∧ 15 + 1 = 16 := ⟨by decide +kernel, rfl⟩
set_option maxRecDepth 20000 in
theorem dX12_findSure_16 : decode cX12_findSure 16 = .ok (.iload_n 1, 1) ∧ 16 + 1 = 17 := ⟨by decide +kernel, rfl⟩
set_option maxRecDepth 20000 in
theorem dX12_findSure_17 : decode cX12_findSure 17 = .ok (.iload_n 3, 1) ∧ 17 + 1 = 18 := ⟨by decide +kernel, rfl⟩
set_option maxRecDepth 20000 in
theorem dX12_findSure_18 : decode cX12_findSure 18 = .ok (.invokevirtual 404, 3) ∧ 18 + 3 = 21 := ⟨by decide +kernel, rfl⟩
set_option maxRecDepth 20000 in
theorem dX12_findSure_21 : decode cX12_findSure 21 = .ok (.ifCond .eq 120, 3) ∧ 21 + 3 = 24 ∧ ((21 : Nat) : Int) + (120) = ((141 : Nat) : Int) := ⟨by decide +kernel, rfl, by decide⟩
set_option maxRecDepth 20000 in
theorem dX12_findSure_24 : decode cX12_findSure 24 = .ok (.iload_n 1, 1) ∧ 24 + 1 = 25 := ⟨by decide +kernel, rfl⟩
set_option maxRecDepth 20000 in
theorem dX12_findSure_25 : decode cX12_findSure 25 = .ok (.ifCond .ne 9, 3) ∧ 25 + 3 = 28 ∧ ((25 : Nat) : Int) + (9) = ((34 : Nat) : Int) := ⟨by decide +kernel, rfl, by decide⟩
set_option maxRecDepth 20000 in
theorem dX12_findSure_28 : decode cX12_findSure 28 = .ok (.ldc2_w 417, 3) ∧ 28 + 3 = 31 := ⟨by decide +kernel, rfl⟩
set_option maxRecDepth 20000 in
theorem dX12_findSure_31 : decode cX12_findSure 31 = .ok (.goto 6, 3) ∧ ((31 : Nat) : Int) + (6) = ((37 : Nat) : Int) := ⟨by decide +kernel, by decide⟩
set_option maxRecDepth 20000 in
theorem dX12_findSure_34 : decode cX12_findSure 34 = .ok (.ldc2_w 221, 3) ∧ 34 + 3 = 37 := ⟨by decide +kernel, rfl⟩
set_option maxRecDepth 20000 in
theorem dX12_findSure_37 : decode cX12_findSure 37 = .ok (.lstore 4, 2) ∧ 37 + 2 = 39 := ⟨by decide +kernel, rfl⟩
set_option maxRecDepth 20000 in
theorem dX12_findSure_39 : decode cX12_findSure 39 = .ok (.iconst 0, 1) ∧ 39 + 1 = 40 := ⟨by decide +kernel, rfl⟩
set_option maxRecDepth 20000 in
theorem dX12_findSure_40 : decode cX12_findSure 40 = .ok (.istore 6, 2) ∧ 40 + 2 = 42 := ⟨by decide +kernel, rfl⟩
set_option maxRecDepth 20000 in
theorem dX12_findSure_42 : decode cX12_findSure 42 = .ok (.iload 6, 2) ∧ 42 + 2 = 44 := ⟨by decide +kernel, rfl⟩
set_option maxRecDepth 20000 in
theorem dX12_findSure_44 : decode cX12_findSure 44 = .ok (.sipush 256, 3) ∧ 44 + 3 = 47 := ⟨by decide +kernel, rfl⟩
set_option maxRecDepth 20000 in
theorem dX12_findSure_47 : decode cX12_findSure 47 = .ok (.if_icmp .ge 70, 3) ∧ 47 + 3 = 50 ∧ ((47 : Nat) : Int) + (70) = ((117 : Nat) : Int) := ⟨by decide +kernel, rfl, by decide⟩
set_option maxRecDepth 20000 in
theorem dX12_findSure_50 : decode cX12_findSure 50 = .ok (.aload_n 0, 1) ∧ 50 + 1 = 51 := ⟨by decide +kernel, rfl⟩
set_option maxRecDepth 20000 in
theorem dX12_findSure_51 : decode cX12_findSure 51 = .ok (.iconst 1, 1) ∧ 51 + 1 = 52 := ⟨by decide +kernel, rfl⟩
set_option maxRecDepth 20000 in
theorem dX12_findSure_52 : decode cX12_findSure 52 = .ok (.iload_n 1, 1) ∧ 52 + 1 = 53 := ⟨by decide +kernel, rfl⟩
set_option maxRecDepth 20000 in
theorem dX12_findSure_53 : decode cX12_findSure 53 = .ok (.isub, 1) ∧ 53 + 1 = 54 := ⟨by decide +kernel, rfl⟩
set_option maxRecDepth 20000 in
theorem dX12_findSure_54 : decode cX12_findSure 54 = .ok (.iload 6, 2) ∧ 54 + 2 = 56 := ⟨by decide +kernel, rfl⟩
set_option maxRecDepth 20000 in
theorem dX12_findSure_56 : decode cX12_findSure 56 = .ok (.invokevirtual 404, 3) ∧ 56 + 3 = 59 := ⟨by decide +kernel, rfl⟩
set_option maxRecDepth 20000 in
theorem dX12_findSure_59 : decode cX12_findSure 59 = .ok (.ifCond .eq 52, 3) ∧ 59 + 3 = 62 ∧ ((59 : Nat) : Int) + (52) = ((111 : Nat) : Int) := ⟨by decide +kernel, rfl, by decide⟩
set_option maxRecDepth 20000 in
theorem dX12_findSure_62 : decode cX12_findSure 62 = .ok (.aload_n 0, 1) ∧ 62 + 1 = 63 := ⟨by decide +kernel, rfl⟩
set_option maxRecDepth 20000 in
theorem dX12_findSure_63 : decode cX12_findSure 63 = .ok (.iload_n 1, 1) ∧ 63 + 1 = 64 := ⟨by decide +kernel, rfl⟩
set_option maxRecDepth 20000 in
theorem dX12_findSure_64 : decode cX12_findSure 64 = .ok (.iload_n 3, 1) ∧ 64 + 1 = 65 := ⟨by decide +kernel, rfl⟩
set_option maxRecDepth 20000 in
theorem dX12_findSure_65 : decode cX12_findSure 65 = .ok (.iload 6, 2) ∧ 65 + 2 = 67 := ⟨by decide +kernel, rfl⟩
set_option maxRecDepth 20000 in
theorem dX12_findSure_67 : decode cX12_findSure 67 = .ok (.invokevirtual 419, 3) ∧ 67 + 3 = 70 := ⟨by decide +kernel, rfl⟩
set_option maxRecDepth 20000 in
theorem dX12_findSure_70 : decode cX12_findSure 70 = .ok (.lstore 7, 2) ∧ 70 + 2 = 72 := ⟨by decide +kernel, rfl⟩
set_option maxRecDepth 20000 in
theorem dX12_findSure_72 : decode cX12_findSure 72 = .ok (.iload_n 1, 1) ∧ 72 + 1 = 73 := ⟨by decide +kernel, rfl⟩
set_option maxRecDepth 20000 in
theorem dX12_findSure_73 : decode cX12_findSure 73 = .ok (.ifCond .ne 21, 3) ∧ 73 + 3 = 76 ∧ ((73 : Nat) : Int) + (21) = ((94 : Nat) : Int) := ⟨by decide +kernel, rfl, by decide⟩
set_option maxRecDepth 20000 in
theorem dX12_findSure_76 : decode cX12_findSure 76 = .ok (.lload 7, 2) ∧ 76 + 2 = 78 := ⟨by decide +kernel, rfl⟩
set_option maxRecDepth 20000 in
theorem dX12_findSure_78 : decode cX12_findSure 78 = .ok (.lload 4, 2) ∧ 78 + 2 = 80 := ⟨by decide +kernel, rfl⟩
set_option maxRecDepth 20000 in
theorem dX12_findSure_80 : decode cX12_findSure 80 = .ok (.lcmp, 1) ∧ 80 + 1 = 81 := ⟨by decide +kernel, rfl⟩
set_option maxRecDepth 20000 in
theorem dX12_findSure_81 : decode cX12_findSure 81 = .ok (.ifCond .ge 8, 3) ∧ 81 + 3 = 84 ∧ ((81 : Nat) : Int) + (8) = ((89 : Nat) : Int) := ⟨by decide +kernel, rfl, by decide⟩
set_option maxRecDepth 20000 in
theorem dX12_findSure_84 : decode cX12_findSure 84 = .ok (.lload 7, 2) ∧ 84 + 2 = 86 := ⟨by decide +kernel, rfl⟩
set_option maxRecDepth 20000 in
theorem dX12_findSure_86 : decode cX12_findSure 86 = .ok (.goto 23, 3) ∧ ((86 : Nat) : Int) + (23) = ((109 : Nat) : Int) := ⟨by decide +kernel, by decide⟩
set_option maxRecDepth 20000 in
theorem dX12_findSure_89 : decode cX12_findSure 89 = .ok (.lload 4, 2) ∧ 89 + 2 = 91 := ⟨by decide +kernel, rfl⟩
set_option maxRecDepth 20000 in
theorem dX12_findSure_91 : decode cX12_findSure 91 = .ok (.goto 18, 3) ∧ ((91 : Nat) : Int) + (18) = ((109 : Nat) : Int) := ⟨by decide +kernel, by decide⟩
set_option maxRecDepth 20000 in
theorem dX12_findSure_94 : decode cX12_findSure 94 = .ok (.lload 7, 2) ∧ 94 + 2 = 96 := ⟨by decide +kernel, rfl⟩
set_option maxRecDepth 20000 in
theorem dX12_findSure_96 : decode cX12_findSure 96 = .ok (.lload 4, 2) ∧ 96 + 2 = 98 := ⟨by decide +kernel, rfl⟩
set_option maxRecDepth 20000 in
theorem dX12_findSure_98 : decode cX12_findSure 98 = .ok (.lcmp, 1) ∧ 98 + 1 = 99 := ⟨by decide +kernel, rfl⟩
set_option maxRecDepth 20000 in
theorem dX12_findSure_99 : decode cX12_findSure 99 = .ok (.ifCond .le 8, 3) ∧ 99 + 3 = 102 ∧ ((99 : Nat) : Int) + (8) = ((107 : Nat) : Int) := ⟨by decide +kernel, rfl, by decide⟩
set_option maxRecDepth 20000 in
theorem dX12_findSure_102 : decode cX12_findSure 102 = .ok (.lload 7, 2) ∧ 102 + 2 = 104 := ⟨by decide +kernel, rfl⟩
set_option maxRecDepth 20000 in
theorem dX12_findSure_104 : decode cX12_findSure 104 = .ok (.goto 5, 3) ∧ ((104 : Nat) : Int) + (5) = ((109 : Nat) : Int) := ⟨by decide +kernel, by decide⟩
set_option maxRecDepth 20000 in
theorem dX12_findSure_107 : decode cX12_findSure 107 = .ok (.lload 4, 2) ∧ 107 + 2 = 109 := ⟨by decide +kernel, rfl⟩
set_option maxRecDepth 20000 in
theorem dX12_findSure_109 : decode cX12_findSure 109 = .ok (.lstore 4, 2) ∧ 109 + 2 = 111 := ⟨by decide +kernel, rfl⟩
set_option maxRecDepth 20000 in
theorem dX12_findSure_111 : decode cX12_findSure 111 = .ok (.iinc 6 1, 3) ∧ 111 + 3 = 114 := ⟨by decide +kernel, rfl⟩
set_option maxRecDepth 20000 in
theorem dX12_findSure_114 : decode cX12_findSure 114 = .ok (.goto (-72), 3) ∧ ((114 : Nat) : Int) + (-72) = ((42 : Nat) : Int) := ⟨by decide +kernel, by decide⟩
set_option maxRecDepth 20000 in
theorem dX12_findSure_117 : decode cX12_findSure 117 = .ok (.aload_n 0, 1) ∧ 117 + 1 = 118 := ⟨by decide +kernel, rfl⟩
set_option maxRecDepth 20000 in
theorem dX12_findSure_118 : decode cX12_findSure 118 = .ok (.iload_n 1, 1) ∧ 118 + 1 = 119 := ⟨by decide +kernel, rfl⟩
set_option maxRecDepth 20000 in
theorem dX12_findSure_119 : decode cX12_findSure 119 = .ok (.lload 4, 2) ∧ 119 + 2 = 121 := ⟨by decide +kernel, rfl⟩
set_option maxRecDepth 20000 in
theorem dX12_findSure_121 : decode cX12_findSure 121 = .ok (.iload_n 3, 1) ∧ 121 + 1 = 122 := ⟨by decide +kernel, rfl⟩
set_option maxRecDepth 20000 in
theorem dX12_findSure_122 : decode cX12_findSure 122 = .ok (.aload_n 0, 1) ∧ 122 + 1 = 123 := ⟨by decide +kernel, rfl⟩
set_option maxRecDepth 20000 in
theorem dX12_findSure_123 : decode cX12_findSure 123 = .ok (.getfield 423, 3) ∧ 123 + 3 = 126 := ⟨by decide +kernel, rfl⟩
set_option maxRecDepth 20000 in
theorem dX12_findSure_126 : decode cX12_findSure 126 = .ok (.iload_n 2, 1) ∧ 126 + 1 = 127 := ⟨by decide +kernel, rfl⟩
set_option maxRecDepth 20000 in
theorem dX12_findSure_127 : decode cX12_findSure 127 = .ok (.invokevirtual 407, 3) ∧ 127 + 3 = 130 := ⟨by decide +kernel, rfl⟩
set_option maxRecDepth 20000 in
theorem dX12_findSure_130 : decode cX12_findSure 130 = .ok (.ifCond .eq 11, 3) ∧ 130 + 3 = 133 ∧ ((130 : Nat) : Int) + (11) = ((141 : Nat) : Int) := ⟨by decide +kernel, rfl, by decide⟩
set_option maxRecDepth 20000 in
theorem dX12_findSure_133 : decode cX12_findSure 133 = .ok (.iload_n 3, 1) ∧ 133 + 1 = 134 := ⟨by decide +kernel, rfl⟩
set_option maxRecDepth 20000 in
theorem dX12_findSure_134 : decode cX12_findSure 134 = .ok (.istore_n 2, 1) ∧ 134 + 1 = 135 := ⟨by decide +kernel, rfl⟩
set_option maxRecDepth 20000 in
theorem dX12_findSure_135 : decode cX12_findSure 135 = .ok (.aload_n 0, 1) ∧ 135 + 1 = 136 := ⟨by decide +kernel, rfl⟩
set_option maxRecDepth 20000 in
theorem dX12_findSure_136 : decode cX12_findSure 136 = .ok (.lload 4, 2) ∧ 136 + 2 = 138 := ⟨by decide +kernel, rfl⟩
set_option maxRecDepth 20000 in
theorem dX12_findSure_138 : decode cX12_findSure 138 = .ok (.putfield 423, 3) ∧ 138 + 3 = 141 := ⟨by decide +kernel, rfl⟩
set_option maxRecDepth 20000 in
theorem dX12_findSure_141 : decode cX12_findSure 141 = .ok (.iinc 3 1, 3) ∧ 141 + 3 = 144 := ⟨by decide +kernel, rfl⟩
set_option maxRecDepth 20000 in
theorem dX12_findSure_144 : decode cX12_findSure 144 = .ok (.goto (-136), 3) ∧ ((144 : Nat) : Int) + (-136) = ((8 : Nat) : Int) := ⟨by decide +kernel, by decide⟩
set_option maxRecDepth 20000 in
theorem dX12_findSure_147 : decode cX12_findSure 147 = .ok (.iload_n 2, 1) ∧ 147 + 1 = 148 := ⟨by decide +kernel, rfl⟩
set_option maxRecDepth 20000 in
theorem dX12_findSure_148 : decode cX12_findSure 148 = .ok (.ireturn, 1) := by decide +kernel
set_option maxRecDepth 20000 in
theorem dX12_sure_0 : decode cX12_sure 0 = .ok (.aload_n 0, 1) ∧ 0 + 1 = 1 := ⟨by decide +kernel, rfl⟩
set_option maxRecDepth 20000 in
theorem dX12_sure_1 : decode cX12_sure 1 = .ok (.iconst 0, 1) ∧ 1 + 1 = 2 := ⟨by decide +kernel, rfl⟩
set_option maxRecDepth 20000 in
theorem dX12_sure_2 : decode cX12_sure 2 = .ok (.putfield 124, 3) ∧ 2 + 3 = 5 := ⟨by decide +kernel, rfl⟩
set_option maxRecDepth 20000 in
theorem dX12_sure_5 : decode cX12_sure 5 = .ok (.iload_n 1, 1) ∧ 5 + 1 = 6 := ⟨by decide +kernel, rfl⟩
set_option maxRecDepth 20000 in
theorem dX12_sure_6 : decode cX12_sure 6 = .ok (.invokestatic 358, 3) ∧ 6 + 3 = 9 := ⟨by decide +kernel, rfl⟩
set_option maxRecDepth 20000 in
theorem dX12_sure_9 : decode cX12_sure 9 = .ok (.ifCond .eq 13, 3) ∧ 9 + 3 = 12 ∧ ((9 : Nat) : Int) + (13) = ((22 : Nat) : Int) := ⟨by decide +kernel, rfl, by decide⟩
set_option maxRecDepth 20000 in
theorem dX12_sure_12 : decode cX12_sure 12 = .ok (.iload_n 2, 1) ∧ 12 + 1 = 13 := ⟨by decide +kernel, rfl⟩
set_option maxRecDepth 20000 in
theorem dX12_sure_13 : decode cX12_sure 13 = .ok (.i2l, 1) ∧ 13 + 1 = 14 := ⟨by decide +kernel, rfl⟩
set_option maxRecDepth 20000 in
theorem dX12_sure_14 : decode cX12_sure 14 = .ok (.lconst 0, 1) ∧ 14 + 1 = 15 := ⟨by decide +kernel, rfl⟩
set_option maxRecDepth 20000 in
theorem dX12_sure_15 : decode cX12_sure 15 = .ok (.lconst 1, 1) ∧ 15 + 1 = 16 := ⟨by decide +kernel, rfl⟩
set_option maxRecDepth 20000 in
theorem dX12_sure_16 : decode cX12_sure 16 = .ok (.invokestatic 134, 3) ∧ 16 + 3 = 19 := ⟨by decide +kernel, rfl⟩
set_option maxRecDepth 20000 in
theorem dX12_sure_19 : decode cX12_sure 19 = .ok (.ifCond .ne 5, 3) ∧ 19 + 3 = 22 ∧ ((19 : Nat) : Int) + (5) = ((24 : Nat) : Int) := ⟨by decide +kernel, rfl, by decide⟩
set_option maxRecDepth 20000 in
theorem dX12_sure_22 : decode cX12_sure 22 = .ok (.iconst (-1), 1) ∧ 22 + 1 = 23 := ⟨by decide +kernel, rfl⟩
set_option maxRecDepth 20000 in
theorem dX12_sure_23 : decode cX12_sure 23 = .ok (.ireturn, 1) := by decide +kernel
set_option maxRecDepth 20000 in
theorem dX12_sure_24 : decode cX12_sure 24 = .ok (.aload_n 0, 1) ∧ 24 + 1 = 25 := ⟨by decide +kernel, rfl⟩
set_option maxRecDepth 20000 in
theorem dX12_sure_25 : decode cX12_sure 25 = .ok (.iload_n 1, 1) ∧ 25 + 1 = 26 := ⟨by decide +kernel, rfl⟩
set_option maxRecDepth 20000 in
theorem dX12_sure_26 : decode cX12_sure 26 = .ok (.invokevirtual 426, 3) ∧ 26 + 3 = 29 := ⟨by decide +kernel, rfl⟩
set_option maxRecDepth 20000 in
theorem dX12_sure_29 : decode cX12_sure 29 = .ok (.istore_n 3, 1) ∧ 29 + 1 = 30 := ⟨by decide +kernel, rfl⟩
set_option maxRecDepth 20000 in
theorem dX12_sure_30 : decode cX12_sure 30 = .ok (.iload_n 2, 1) ∧ 30 + 1 = 31 := ⟨by decide +kernel, rfl⟩
set_option maxRecDepth 20000 in
theorem dX12_sure_31 : decode cX12_sure 31 = .ok (.ifCond .ne 7, 3) ∧ 31 + 3 = 34 ∧ ((31 : Nat) : Int) + (7) = ((38 : Nat) : Int) := ⟨by decide +kernel, rfl, by decide⟩
set_option maxRecDepth 20000 in
theorem dX12_sure_34 : decode cX12_sure 34 = .ok (.iload_n 3, 1) ∧ 34 + 1 = 35 := ⟨by decide +kernel, rfl⟩
set_option maxRecDepth 20000 in
theorem dX12_sure_35 : decode cX12_sure 35 = .ok (.goto 15, 3) ∧ ((35 : Nat) : Int) + (15) = ((50 : Nat) : Int) := ⟨by decide +kernel, by decide⟩
set_option maxRecDepth 20000 in
theorem dX12_sure_38 : decode cX12_sure 38 = .ok (.aload_n 0, 1) ∧ 38 + 1 = 39 := ⟨by decide +kernel, rfl⟩
set_option maxRecDepth 20000 in
theorem dX12_sure_39 : decode cX12_sure 39 = .ok (.getfield 90, 3) ∧ 39 + 3 = 42 := ⟨by decide +kernel, rfl⟩
set_option maxRecDepth 20000 in
theorem dX12_sure_42 : decode cX12_sure 42 = .ok (.sipush 256, 3) ∧ 42 + 3 = 45 := ⟨by decide +kernel, rfl⟩
set_option maxRecDepth 20000 in
theorem dX12_sure_45 : decode cX12_sure 45 = .ok (.iload_n 1, 1) ∧ 45 + 1 = 46 := ⟨by decide +kernel, rfl⟩
set_option maxRecDepth 20000 in
theorem dX12_sure_46 : decode cX12_sure 46 = .ok (.imul, 1) ∧ 46 + 1 = 47 := ⟨by decide +kernel, rfl⟩
set_option maxRecDepth 20000 in
theorem dX12_sure_47 : decode cX12_sure 47 = .ok (.iload_n 3, 1) ∧ 47 + 1 = 48 := ⟨by decide +kernel, rfl⟩
set_option maxRecDepth 20000 in
theorem dX12_sure_48 : decode cX12_sure 48 = .ok (.iadd, 1) ∧ 48 + 1 = 49 := ⟨by decide +kernel, rfl⟩
set_option maxRecDepth 20000 in
theorem dX12_sure_49 : decode cX12_sure 49 = .ok (.iaload, 1) ∧ 49 + 1 = 50 := ⟨by decide +kernel, rfl⟩
set_option maxRecDepth 20000 in
theorem dX12_sure_50 : decode cX12_sure 50 = .ok (.ireturn, 1) := by decide +kernel
set_option maxRecDepth 20000 in
theorem dX12_value_0 : decode cX12_value 0 = .ok (.aload_n 0, 1) ∧ 0 + 1 = 1 := ⟨by decide +kernel, rfl⟩
set_option maxRecDepth 20000 in
theorem dX12_value_1 : decode cX12_value 1 = .ok (.iconst 0, 1) ∧ 1 + 1 = 2 := ⟨by decide +kernel, rfl⟩
set_option maxRecDepth 20000 in
theorem dX12_value_2 : decode cX12_value 2 = .ok (.putfield 124, 3) ∧ 2 + 3 = 5 := ⟨by decide +kernel, rfl⟩
set_option maxRecDepth 20000 in
theorem dX12_value_5 : decode cX12_value 5 = .ok (.iload_n 1, 1) ∧ 5 + 1 = 6 := ⟨by decide +kernel, rfl⟩
set_option maxRecDepth 20000 in
theorem dX12_value_6 : decode cX12_value 6 = .ok (.invokestatic 358, 3) ∧ 6 + 3 = 9 := ⟨by decide +kernel, rfl⟩
set_option maxRecDepth 20000 in
theorem dX12_value_9 : decode cX12_value 9 = .ok (.ifCond .ne 7, 3) ∧ 9 + 3 = 12 ∧ ((9 : Nat) : Int) + (7) = ((16 : Nat) : Int) := ⟨by decide +kernel, rfl, by decide⟩
set_option maxRecDepth 20000 in
theorem dX12_value_12 : decode cX12_value 12 = .ok (.ldc2_w 221, 3) ∧ 12 + 3 = 15 := ⟨by decide +kernel, rfl⟩
set_option maxRecDepth 20000 in
theorem dX12_value_15 : decode cX12_value 15 = .ok (.lreturn, 1) := by decide +kernel
set_option maxRecDepth 20000 in
theorem dX12_value_16 : decode cX12_value 16 = .ok (.aload_n 0, 1) ∧ 16 + 1 = 17 := ⟨by decide +kernel, rfl⟩
set_option maxRecDepth 20000 in
theorem dX12_value_17 : decode cX12_value 17 = .ok (.iload_n 1, 1) ∧ 17 + 1 = 18 := ⟨by decide +kernel, rfl⟩
set_option maxRecDepth 20000 in
theorem dX12_value_18 : decode cX12_value 18 = .ok (.invokevirtual 426, 3) ∧ 18 + 3 = 21 := ⟨by decide +kernel, rfl⟩
set_option maxRecDepth 20000 in
theorem dX12_value_21 : decode cX12_value 21 = .ok (.istore_n 2, 1) ∧ 21 + 1 = 22 := ⟨by decide +kernel, rfl⟩
set_option maxRecDepth 20000 in
theorem dX12_value_22 : decode cX12_value 22 = .ok (.iload_n 2, 1) ∧ 22 + 1 = 23 := ⟨by decide +kernel, rfl⟩
set_option maxRecDepth 20000 in
theorem dX12_value_23 : decode cX12_value 23 = .ok (.iconst (-1), 1) ∧ 23 + 1 = 24 := ⟨by decide +kernel, rfl⟩
set_option maxRecDepth 20000 in
theorem dX12_value_24 : decode cX12_value 24 = .ok (.if_icmp .ne 9, 3) ∧ 24 + 3 = 27 ∧ ((24 : Nat) : Int) + (9) = ((33 : Nat) : Int) := ⟨by decide +kernel, rfl, by decide⟩
set_option maxRecDepth 20000 in
theorem dX12_value_27 : decode cX12_value 27 = .ok (.ldc2_w 221, 3) ∧ 27 + 3 = 30 := ⟨by decide +kernel, rfl⟩
set_option maxRecDepth 20000 in
theorem dX12_value_30 : decode cX12_value 30 = .ok (.goto 7, 3) ∧ ((30 : Nat) : Int) + (7) = ((37 : Nat) : Int) := ⟨by decide +kernel, by decide⟩
set_option maxRecDepth 20000 in
theorem dX12_value_33 : decode cX12_value 33 = .ok (.aload_n 0, 1) ∧ 33 + 1 = 34 := ⟨by decide +kernel, rfl⟩
set_option maxRecDepth 20000 in
theorem dX12_value_34 : decode cX12_value 34 = .ok (.getfield 423, 3) ∧ 34 + 3 = 37 := ⟨by decide +kernel, rfl⟩
set_option maxRecDepth 20000 in
theorem dX12_value_37 : decode cX12_value 37 = .ok (.lreturn, 1) := by decide +kernel
set_option maxRecDepth 20000 in
theorem dX12_saddle_0 : decode cX12_saddle 0 = .ok (.aload_n 0, 1) ∧ 0 + 1 = 1 := ⟨by decide +kernel, rfl⟩
set_option maxRecDepth 20000 in
theorem dX12_saddle_1 : decode cX12_saddle 1 = .ok (.iconst 0, 1) ∧ 1 + 1 = 2 := ⟨by decide +kernel, rfl⟩
set_option maxRecDepth 20000 in
theorem dX12_saddle_2 : decode cX12_saddle 2 = .ok (.putfield 124, 3) ∧ 2 + 3 = 5 := ⟨by decide +kernel, rfl⟩
set_option maxRecDepth 20000 in
theorem dX12_saddle_5 : decode cX12_saddle 5 = .ok (.iload_n 1, 1) ∧ 5 + 1 = 6 := ⟨by decide +kernel, rfl⟩
set_option maxRecDepth 20000 in
theorem dX12_saddle_6 : decode cX12_saddle 6 = .ok (.i2l, 1) ∧ 6 + 1 = 7 := ⟨by decide +kernel, rfl⟩
set_option maxRecDepth 20000 in
theorem dX12_saddle_7 : decode cX12_saddle 7 = .ok (.lconst 0, 1) ∧ 7 + 1 = 8 := ⟨by decide +kernel, rfl⟩
set_option maxRecDepth 20000 in
theorem dX12_saddle_8 : decode cX12_saddle 8 = .ok (.ldc2_w 429, 3) ∧ 8 + 3 = 11 := ⟨by decide +kernel, rfl⟩
set_option maxRecDepth 20000 in
theorem dX12_saddle_11 : decode cX12_saddle 11 = .ok (.invokestatic 134, 3) ∧ 11 + 3 = 14 := ⟨by decide +kernel, rfl⟩
set_option maxRecDepth 20000 in
theorem dX12_saddle_14 : decode cX12_saddle 14 = .ok (.ifCond .ne 5, 3) ∧ 14 + 3 = 17 ∧ ((14 : Nat) : Int) + (5) = ((19 : Nat) : Int) := ⟨by decide +kernel, rfl, by decide⟩
set_option maxRecDepth 20000 in
theorem dX12_saddle_17 : decode cX12_saddle 17 = .ok (.iconst (-1), 1) ∧ 17 + 1 = 18 := ⟨by decide +kernel, rfl⟩
set_option maxRecDepth 20000 in
theorem dX12_saddle_18 : decode cX12_saddle 18 = .ok (.ireturn, 1) := by decide +kernel
set_option maxRecDepth 20000 in
theorem dX12_saddle_19 : decode cX12_saddle 19 = .ok (.aload_n 0, 1) ∧ 19 + 1 = 20 := ⟨by decide +kernel, rfl⟩
set_option maxRecDepth 20000 in
theorem dX12_saddle_20 : decode cX12_saddle 20 = .ok (.invokevirtual 414, 3) ∧ 20 + 3 = 23 := ⟨by decide +kernel, rfl⟩
set_option maxRecDepth 20000 in
theorem dX12_saddle_23 : decode cX12_saddle 23 = .ok (.iconst 0, 1) ∧ 23 + 1 = 24 := ⟨by decide +kernel, rfl⟩
set_option maxRecDepth 20000 in
theorem dX12_saddle_24 : decode cX12_saddle 24 = .ok (.istore_n 2, 1) ∧ 24 + 1 = 25 := ⟨by decide +kernel, rfl⟩
set_option maxRecDepth 20000 in
theorem dX12_saddle_25 : decode cX12_saddle 25 = .ok (.iload_n 2, 1) ∧ 25 + 1 = 26 := ⟨by decide +kernel, rfl⟩
set_option maxRecDepth 20000 in
theorem dX12_saddle_26 : decode cX12_saddle 26 = .ok (.sipush 256, 3) ∧ 26 + 3 = 29 := ⟨by decide +kernel, rfl⟩
set_option maxRecDepth 20000 in
theorem dX12_saddle_29 : decode cX12_saddle 29 = .ok (.if_icmp .ge 27, 3) ∧ 29 + 3 = 32 ∧ ((29 : Nat) : Int) + (27) = ((56 : Nat) : Int) := ⟨by decide +kernel, rfl, by decide⟩
set_option maxRecDepth 20000 in
theorem dX12_saddle_32 : decode cX12_saddle 32 = .ok (.aload_n 0, 1) ∧ 32 + 1 = 33 := ⟨by decide +kernel, rfl⟩
set_option maxRecDepth 20000 in
theorem dX12_saddle_33 : decode cX12_saddle 33 = .ok (.getfield 100, 3) ∧ 33 + 3 = 36 := ⟨by decide +kernel, rfl⟩
set_option maxRecDepth 20000 in
theorem dX12_saddle_36 : decode cX12_saddle 36 = .ok (.iload_n 2, 1) ∧ 36 + 1 = 37 := ⟨by decide +kernel, rfl⟩
set_option maxRecDepth 20000 in
theorem dX12_saddle_37 : decode cX12_saddle 37 = .ok (.ldc2_w 221, 3) ∧ 37 + 3 = 40 := ⟨by decide +kernel, rfl⟩
set_option maxRecDepth 20000 in
theorem dX12_saddle_40 : decode cX12_saddle 40 = .ok (.lastore, 1) ∧ 40 + 1 = 41 := ⟨by decide +kernel, rfl⟩
set_option maxRecDepth 20000 in
theorem dX12_saddle_41 : decode cX12_saddle 41 = .ok (.aload_n 0, 1) ∧ 41 + 1 = 42 := ⟨by decide +kernel, rfl⟩
set_option maxRecDepth 20000 in
theorem dX12_saddle_42 : decode cX12_saddle 42 = .ok (.getfield 103, 3) ∧ 42 + 3 = 45 := ⟨by decide +kernel, rfl⟩
set_option maxRecDepth 20000 in
theorem dX12_saddle_45 : decode cX12_saddle 45 = .ok (.iload_n 2, 1) ∧ 45 + 1 = 46 := ⟨by decide +kernel, rfl⟩
set_option maxRecDepth 20000 in
theorem dX12_saddle_46 : decode cX12_saddle 46 = .ok (.ldc2_w 417, 3) ∧ 46 + 3 = 49 := ⟨by decide +kernel, rfl⟩
set_option maxRecDepth 20000 in
theorem dX12_saddle_49 : decode cX12_saddle 49 = .ok (.lastore, 1) ∧ 49 + 1 = 50 := ⟨by decide +kernel, rfl⟩
set_option maxRecDepth 20000 in
theorem dX12_saddle_50 : decode cX12_saddle 50 = .ok (.iinc 2 1, 3) ∧ 50 + 3 = 53 := ⟨by decide +kernel, rfl⟩
set_option maxRecDepth 20000 in
theorem dX12_saddle_53 : decode cX12_saddle 53 = .ok (.goto (-28), 3) ∧ ((53 : Nat) : Int) + (-28) = ((25 : Nat) : Int) := ⟨by decide +kernel, by decide⟩
set_option maxRecDepth 20000 in
theorem dX12_saddle_56 : decode cX12_saddle 56 = .ok (.iconst 0, 1) ∧ 56 + 1 = 57 := ⟨by decide +kernel, rfl⟩
set_option maxRecDepth 20000 in
theorem dX12_saddle_57 : decode cX12_saddle 57 = .ok (.istore_n 2, 1) ∧ 57 + 1 = 58 := ⟨by decide +kernel, rfl⟩
set_option maxRecDepth 20000 in
theorem dX12_saddle_58 : decode cX12_saddle 58 = .ok (.iload_n 2, 1) ∧ 58 + 1 = 59 := ⟨by decide +kernel, rfl⟩
set_option maxRecDepth 20000 in
theorem dX12_saddle_59 : decode cX12_saddle 59 = .ok (.sipush 256, 3) ∧ 59 + 3 = 62 := ⟨by decide +kernel, rfl⟩
set_option maxRecDepth 20000 in
theorem dX12_saddle_62 : decode cX12_saddle 62 = .ok (.if_icmp .ge 114, 3) ∧ 62 + 3 = 65 ∧ ((62 : Nat) : Int) + (114) = ((176 : Nat) : Int) := ⟨by decide +kernel, rfl, by decide⟩
set_option maxRecDepth 20000 in
theorem dX12_saddle_65 : decode cX12_saddle 65 = .ok (.iconst 0, 1) ∧ 65 + 1 = 66 := ⟨by decide +kernel, rfl⟩
set_option maxRecDepth 20000 in
theorem dX12_saddle_66 : decode cX12_saddle 66 = .ok (.istore_n 3, 1) ∧ 66 + 1 = 67 := ⟨by decide +kernel, rfl⟩
set_option maxRecDepth 20000 in
theorem dX12_saddle_67 : decode cX12_saddle 67 = .ok (.iload_n 3, 1) ∧ 67 + 1 = 68 := ⟨by decide +kernel, rfl⟩
set_option maxRecDepth 20000 in
theorem dX12_saddle_68 : decode cX12_saddle 68 = .ok (.sipush 256, 3) ∧ 68 + 3 = 71 := ⟨by decide +kernel, rfl⟩
set_option maxRecDepth 20000 in
theorem dX12_saddle_71 : decode cX12_saddle 71 = .ok (.if_icmp .ge 99, 3) ∧ 71 + 3 = 74 ∧ ((71 : Nat) : Int) + (99) = ((170 : Nat) : Int) := ⟨by decide +kernel, rfl, by decide⟩
set_option maxRecDepth 20000 in
theorem dX12_saddle_74 : decode cX12_saddle 74 = .ok (.aload_n 0, 1) ∧ 74 + 1 = 75 := ⟨by decide +kernel, rfl⟩
set_option maxRecDepth 20000 in
theorem dX12_saddle_75 : decode cX12_saddle 75 = .ok (.iconst 0, 1) ∧ 75 + 1 = 76 := ⟨by decide +kernel, rfl⟩
set_option maxRecDepth 20000 in
theorem dX12_saddle_76 : decode cX12_saddle 76 = .ok (.iload_n 2, 1) ∧ 76 + 1 = 77 := ⟨by decide +kernel, rfl⟩
set_option maxRecDepth 20000 in
theorem dX12_saddle_77 : decode cX12_saddle 77 = .ok (.invokevirtual 404, 3) ∧ 77 + 3 = 80 := ⟨by decide +kernel, rfl⟩
set_option maxRecDepth 20000 in
theorem dX12_saddle_80 : decode cX12_saddle 80 = .ok (.ifCond .eq 84, 3) ∧ 80 + 3 = 83 ∧ ((80 : Nat) : Int) + (84) = ((164 : Nat) : Int) := ⟨by decide +kernel, rfl, by decide⟩
set_option maxRecDepth 20000 in
theorem dX12_saddle_83 : decode cX12_saddle 83 = .ok (.aload_n 0, 1) ∧ 83 + 1 = 84 := ⟨by decide +kernel, rfl⟩
set_option maxRecDepth 20000 in
theorem dX12_saddle_84 : decode cX12_saddle 84 = .ok (.iconst 1, 1) ∧ 84 + 1 = 85 := ⟨by decide +kernel, rfl⟩
set_option maxRecDepth 20000 in
theorem dX12_saddle_85 : decode cX12_saddle 85 = .ok (.iload_n 3, 1) ∧ 85 + 1 = 86 := ⟨by decide +kernel, rfl⟩
set_option maxRecDepth 20000 in
theorem dX12_saddle_86 : decode cX12_saddle 86 = .ok (.invokevirtual 404, 3) ∧ 86 + 3 = 89 := ⟨by decide +kernel, rfl⟩
set_option maxRecDepth 20000 in
theorem dX12_saddle_89 : decode cX12_saddle 89 = .ok (.ifCond .eq 75, 3) ∧ 89 + 3 = 92 ∧ ((89 : Nat) : Int) + (75) = ((164 : Nat) : Int) := ⟨by decide +kernel, rfl, by decide⟩
set_option maxRecDepth 20000 in
theorem dX12_saddle_92 : decode cX12_saddle 92 = .ok (.aload_n 0, 1) ∧ 92 + 1 = 93 := ⟨by decide +kernel, rfl⟩
set_option maxRecDepth 20000 in
theorem dX12_saddle_93 : decode cX12_saddle 93 = .ok (.getfield 94, 3) ∧ 93 + 3 = 96 := ⟨by decide +kernel, rfl⟩
set_option maxRecDepth 20000 in
theorem dX12_saddle_96 : decode cX12_saddle 96 = .ok (.sipush 256, 3) ∧ 96 + 3 = 99 := ⟨by decide +kernel, rfl⟩
set_option maxRecDepth 20000 in
theorem dX12_saddle_99 : decode cX12_saddle 99 = .ok (.iload_n 2, 1) ∧ 99 + 1 = 100 := ⟨by decide +kernel, rfl⟩
set_option maxRecDepth 20000 in
theorem dX12_saddle_100 : decode cX12_saddle 100 = .ok (.imul, 1) ∧ 100 + 1 = 101 := ⟨by decide +kernel, rfl⟩
set_option maxRecDepth 20000 in
theorem dX12_saddle_101 : decode cX12_saddle 101 = .ok (.iload_n 3, 1) ∧ 101 + 1 = 102 := ⟨by decide +kernel, rfl⟩
set_option maxRecDepth 20000 in
theorem dX12_saddle_102 : decode cX12_saddle 102 = .ok (.iadd, 1) ∧ 102 + 1 = 103 := ⟨by decide +kernel, rfl⟩
set_option maxRecDepth 20000 in
theorem dX12_saddle_103 : decode cX12_saddle 103 = .ok (.laload, 1) ∧ 103 + 1 = 104 := ⟨by decide +kernel, rfl⟩
set_option maxRecDepth 20000 in
theorem dX12_saddle_104 : decode cX12_saddle 104 = .ok (.lstore 4, 2) ∧ 104 + 2 = 106 := ⟨by decide +kernel, rfl⟩
set_option maxRecDepth 20000 in
theorem dX12_saddle_106 : decode cX12_saddle 106 = .ok (.aload_n 0, 1) ∧ 106 + 1 = 107 := ⟨by decide +kernel, rfl⟩
set_option maxRecDepth 20000 in
theorem dX12_saddle_107 : decode cX12_saddle 107 = .ok (.getfield 100, 3) ∧ 107 + 3 = 110 := ⟨by decide +kernel, rfl⟩
set_option maxRecDepth 20000 in
theorem dX12_saddle_110 : decode cX12_saddle 110 = .ok (.iload_n 3, 1) ∧ 110 + 1 = 111 := ⟨by decide +kernel, rfl⟩
set_option maxRecDepth 20000 in
theorem dX12_saddle_111 : decode cX12_saddle 111 = .ok (.lload 4, 2) ∧ 111 + 2 = 113 := ⟨by decide +kernel, rfl⟩
set_option maxRecDepth 20000 in
theorem dX12_saddle_113 : decode cX12_saddle 113 = .ok (.aload_n 0, 1) ∧ 113 + 1 = 114 := ⟨by decide +kernel, rfl⟩
set_option maxRecDepth 20000 in
theorem dX12_saddle_114 : decode cX12_saddle 114 = .ok (.getfield 100, 3) ∧ 114 + 3 = 117 := ⟨by decide +kernel, rfl⟩
set_option maxRecDepth 20000 in
theorem dX12_saddle_117 : decode cX12_saddle 117 = .ok (.iload_n 3, 1) ∧ 117 + 1 = 118 := ⟨by decide +kernel, rfl⟩
set_option maxRecDepth 20000 in
theorem dX12_saddle_118 : decode cX12_saddle 118 = .ok (.laload, 1) ∧ 118 + 1 = 119 := ⟨by decide +kernel, rfl⟩
set_option maxRecDepth 20000 in
theorem dX12_saddle_119 : decode cX12_saddle 119 = .ok (.lcmp, 1) ∧ 119 + 1 = 120 := ⟨by decide +kernel, rfl⟩
set_option maxRecDepth 20000 in
theorem dX12_saddle_120 : decode cX12_saddle 120 = .ok (.ifCond .le 8, 3) ∧ 120 + 3 = 123 ∧ ((120 : Nat) : Int) + (8) = ((128 : Nat) : Int) := ⟨by decide +kernel, rfl, by decide⟩
set_option maxRecDepth 20000 in
theorem dX12_saddle_123 : decode cX12_saddle 123 = .ok (.lload 4, 2) ∧ 123 + 2 = 125 := ⟨by decide +kernel, rfl⟩
set_option maxRecDepth 20000 in
theorem dX12_saddle_125 : decode cX12_saddle 125 = .ok (.goto 9, 3) ∧ ((125 : Nat) : Int) + (9) = ((134 : Nat) : Int) := ⟨by decide +kernel, by decide⟩
set_option maxRecDepth 20000 in
theorem dX12_saddle_128 : decode cX12_saddle 128 = .ok (.aload_n 0, 1) ∧ 128 + 1 = 129 := ⟨by decide +kernel, rfl⟩
set_option maxRecDepth 20000 in
theorem dX12_saddle_129 : decode cX12_saddle 129 = .ok (.getfield 100, 3) ∧ 129 + 3 = 132 := ⟨by decide +kernel, rfl⟩
set_option maxRecDepth 20000 in
theorem dX12_saddle_132 : decode cX12_saddle 132 = .ok (.iload_n 3, 1) ∧ 132 + 1 = 133 := ⟨by decide +kernel, rfl⟩
set_option maxRecDepth 20000 in
theorem dX12_saddle_133 : decode cX12_saddle 133 = .ok (.laload, 1) ∧ 133 + 1 = 134 := ⟨by decide +kernel, rfl⟩
set_option maxRecDepth 20000 in
theorem dX12_saddle_134 : decode cX12_saddle 134 = .ok (.lastore, 1) ∧ 134 + 1 = 135 := ⟨by decide +kernel, rfl⟩
set_option maxRecDepth 20000 in
theorem dX12_saddle_135 : decode cX12_saddle 135 = .ok (.aload_n 0, 1) ∧ 135 + 1 = 136 := ⟨by decide +kernel, rfl⟩
set_option maxRecDepth 20000 in
theorem dX12_saddle_136 : decode cX12_saddle 136 = .ok (.getfield 103, 3) ∧ 136 + 3 = 139 := ⟨by decide +kernel, rfl⟩
set_option maxRecDepth 20000 in
theorem dX12_saddle_139 : decode cX12_saddle 139 = .ok (.iload_n 2, 1) ∧ 139 + 1 = 140 := ⟨by decide +kernel, rfl⟩
set_option maxRecDepth 20000 in
theorem dX12_saddle_140 : decode cX12_saddle 140 = .ok (.lload 4, 2) ∧ 140 + 2 = 142 := ⟨by decide +kernel, rfl⟩
set_option maxRecDepth 20000 in
theorem dX12_saddle_142 : decode cX12_saddle 142 = .ok (.aload_n 0, 1) ∧ 142 + 1 = 143 := ⟨by decide +kernel, rfl⟩
set_option maxRecDepth 20000 in
theorem dX12_saddle_143 : decode cX12_saddle 143 = .ok (.getfield 103, 3) ∧ 143 + 3 = 146 := ⟨by decide +kernel, rfl⟩
set_option maxRecDepth 20000 in
theorem dX12_saddle_146 : decode cX12_saddle 146 = .ok (.iload_n 2, 1) ∧ 146 + 1 = 147 := ⟨by decide +kernel, rfl⟩
set_option maxRecDepth 20000 in
theorem dX12_saddle_147 : decode cX12_saddle 147 = .ok (.laload, 1) ∧ 147 + 1 = 148 := ⟨by decide +kernel, rfl⟩
set_option maxRecDepth 20000 in
theorem dX12_saddle_148 : decode cX12_saddle 148 = .ok (.lcmp, 1) ∧ 148 + 1 = 149 := ⟨by decide +kernel, rfl⟩
set_option maxRecDepth 20000 in
theorem dX12_saddle_149 : decode cX12_saddle 149 = .ok (.ifCond .ge 8, 3) ∧ 149 + 3 = 152 ∧ ((149 : Nat) : Int) + (8) = ((157 : Nat) : Int) := ⟨by decide +kernel, rfl, by decide⟩
set_option maxRecDepth 20000 in
theorem dX12_saddle_152 : decode cX12_saddle 152 = .ok (.lload 4, 2) ∧ 152 + 2 = 154 := ⟨by decide +kernel, rfl⟩
set_option maxRecDepth 20000 in
theorem dX12_saddle_154 : decode cX12_saddle 154 = .ok (.goto 9, 3) ∧ ((154 : Nat) : Int) + (9) = ((163 : Nat) : Int) := ⟨by decide +kernel, by decide⟩
set_option maxRecDepth 20000 in
theorem dX12_saddle_157 : decode cX12_saddle 157 = .ok (.aload_n 0, 1) ∧ 157 + 1 = 158 := ⟨by decide +kernel, rfl⟩
set_option maxRecDepth 20000 in
theorem dX12_saddle_158 : decode cX12_saddle 158 = .ok (.getfield 103, 3) ∧ 158 + 3 = 161 := ⟨by decide +kernel, rfl⟩
set_option maxRecDepth 20000 in
theorem dX12_saddle_161 : decode cX12_saddle 161 = .ok (.iload_n 2, 1) ∧ 161 + 1 = 162 := ⟨by decide +kernel, rfl⟩
set_option maxRecDepth 20000 in
theorem dX12_saddle_162 : decode cX12_saddle 162 = .ok (.laload, 1) ∧ 162 + 1 = 163 := ⟨by decide +kernel, rfl⟩
set_option maxRecDepth 20000 in
theorem dX12_saddle_163 : decode cX12_saddle 163 = .ok (.lastore, 1) ∧ 163 + 1 = 164 := ⟨by decide +kernel, rfl⟩
set_option maxRecDepth 20000 in
theorem dX12_saddle_164 : decode cX12_saddle 164 = .ok (.iinc 3 1, 3) ∧ 164 + 3 = 167 := ⟨by decide +kernel, rfl⟩
set_option maxRecDepth 20000 in
theorem dX12_saddle_167 : decode cX12_saddle 167 = .ok (.goto (-100), 3) ∧ ((167 : Nat) : Int) + (-100) = ((67 : Nat) : Int) := ⟨by decide +kernel, by decide⟩
set_option maxRecDepth 20000 in
theorem dX12_saddle_170 : decode cX12_saddle 170 = .ok (.iinc 2 1, 3) ∧ 170 + 3 = 173 := ⟨by decide +kernel, rfl⟩
set_option maxRecDepth 20000 in
theorem dX12_saddle_173 : decode cX12_saddle 173 = .ok (.goto (-115), 3) ∧ ((173 : Nat) : Int) + (-115) = ((58 : Nat) : Int) := ⟨by decide +kernel, by decide⟩
set_option maxRecDepth 20000 in
theorem dX12_saddle_176 : decode cX12_saddle 176 = .ok (.iconst 0, 1) ∧ 176 + 1 = 177 := ⟨by decide +kernel, rfl⟩
set_option maxRecDepth 20000 in
theorem dX12_saddle_177 : decode cX12_saddle 177 = .ok (.istore_n 2, 1) ∧ 177 + 1 = 178 := ⟨by decide +kernel, rfl⟩
set_option maxRecDepth 20000 in
theorem dX12_saddle_178 : decode cX12_saddle 178 = .ok (.iconst (-1), 1) ∧ 178 + 1 = 179 := ⟨by decide +kernel, rfl⟩
set_option maxRecDepth 20000 in
theorem dX12_saddle_179 : decode cX12_saddle 179 = .ok (.istore_n 3, 1) ∧ 179 + 1 = 180 := ⟨by decide +kernel, rfl⟩
set_option maxRecDepth 20000 in
theorem dX12_saddle_180 : decode cX12_saddle 180 = .ok (.iconst 0, 1) ∧ 180 + 1 = 181 := ⟨by decide +kernel, rfl⟩
set_option maxRecDepth 20000 in
theorem dX12_saddle_181 : decode cX12_saddle 181 = .ok (.istore 4, 2) ∧ 181 + 2 = 183 := ⟨by decide +kernel, rfl⟩
set_option maxRecDepth 20000 in
theorem dX12_saddle_183 : decode cX12_saddle 183 = .ok (.iload 4, 2) ∧ 183 + 2 = 185 := ⟨by decide +kernel, rfl⟩
set_option maxRecDepth 20000 in
theorem dX12_saddle_185 : decode cX12_saddle 185 = .ok (.sipush 256, 3) ∧ 185 + 3 = 188 := ⟨by decide +kernel, rfl⟩
set_option maxRecDepth 20000 in
theorem dX12_saddle_188 : decode cX12_saddle 188 = .ok (.if_icmp .ge 117, 3) ∧ 188 + 3 = 191 ∧ ((188 : Nat) : Int) + (117) = ((305 : Nat) : Int) := ⟨by decide +kernel, rfl, by decide⟩
set_option maxRecDepth 20000 in
theorem dX12_saddle_191 : decode cX12_saddle 191 = .ok (.iconst 0, 1) ∧ 191 + 1 = 192 := ⟨by decide +kernel, rfl⟩
set_option maxRecDepth 20000 in
theorem dX12_saddle_192 : decode cX12_saddle 192 = .ok (.istore 5, 2) ∧ 192 + 2 = 194 := ⟨by decide +kernel, rfl⟩
set_option maxRecDepth 20000 in
theorem dX12_saddle_194 : decode cX12_saddle 194 = .ok (.iload 5, 2) ∧ 194 + 2 = 196 := ⟨by decide +kernel, rfl⟩
set_option maxRecDepth 20000 in
theorem dX12_saddle_196 : decode cX12_saddle 196 = .ok (.sipush 256, 3) ∧ 196 + 3 = 199 := ⟨by decide +kernel, rfl⟩
set_option maxRecDepth 20000 in
theorem dX12_saddle_199 : decode cX12_saddle 199 = .ok (.if_icmp .ge 100, 3) ∧ 199 + 3 = 202 ∧ ((199 : Nat) : Int) + (100) = ((299 : Nat) : Int) := ⟨by decide +kernel, rfl, by decide⟩
set_option maxRecDepth 20000 in
theorem dX12_saddle_202 : decode cX12_saddle 202 = .ok (.aload_n 0, 1) ∧ 202 + 1 = 203 := ⟨by decide +kernel, rfl⟩
set_option maxRecDepth 20000 in
theorem dX12_saddle_203 : decode cX12_saddle 203 = .ok (.iconst 0, 1) ∧ 203 + 1 = 204 := ⟨by decide +kernel, rfl⟩
set_option maxRecDepth 20000 in
theorem dX12_saddle_204 : decode cX12_saddle 204 = .ok (.iload 4, 2) ∧ 204 + 2 = 206 := ⟨by decide +kernel, rfl⟩
set_option maxRecDepth 20000 in
theorem dX12_saddle_206 : decode cX12_saddle 206 = .ok (.invokevirtual 404, 3) ∧ 206 + 3 = 209 := ⟨by decide +kernel, rfl⟩
set_option maxRecDepth 20000 in
theorem dX12_saddle_209 : decode cX12_saddle 209 = .ok (.ifCond .eq 84, 3) ∧ 209 + 3 = 212 ∧ ((209 : Nat) : Int) + (84) = ((293 : Nat) : Int) := ⟨by decide +kernel, rfl, by decide⟩
set_option maxRecDepth 20000 in
theorem dX12_saddle_212 : decode cX12_saddle 212 = .ok (.aload_n 0, 1) ∧ 212 + 1 = 213 := ⟨by decide +kernel, rfl⟩
set_option maxRecDepth 20000 in
theorem dX12_saddle_213 : decode cX12_saddle 213 = .ok (.iconst 1, 1) ∧ 213 + 1 = 214 := ⟨by decide +kernel, rfl⟩
set_option maxRecDepth 20000 in
theorem dX12_saddle_214 : decode cX12_saddle 214 = .ok (.iload 5, 2) ∧ 214 + 2 = 216 := ⟨by decide +kernel, rfl⟩
set_option maxRecDepth 20000 in
theorem dX12_saddle_216 : decode cX12_saddle 216 = .ok (.invokevirtual 404, 3) ∧ 216 + 3 = 219 := ⟨by decide +kernel, rfl⟩
set_option maxRecDepth 20000 in
theorem dX12_saddle_219 : decode cX12_saddle 219 = .ok (.ifCond .eq 74, 3) ∧ 219 + 3 = 222 ∧ ((219 : Nat) : Int) + (74) = ((293 : Nat) : Int) := ⟨by decide +kernel, rfl, by decide⟩
set_option maxRecDepth 20000 in
theorem dX12_saddle_222 : decode cX12_saddle 222 = .ok (.aload_n 0, 1) ∧ 222 + 1 = 223 := ⟨by decide +kernel, rfl⟩
set_option maxRecDepth 20000 in
theorem dX12_saddle_223 : decode cX12_saddle 223 = .ok (.getfield 94, 3) ∧ 223 + 3 = 226 := ⟨by decide +kernel, rfl⟩
set_option maxRecDepth 20000 in
theorem dX12_saddle_226 : decode cX12_saddle 226 = .ok (.sipush 256, 3) ∧ 226 + 3 = 229 := ⟨by decide +kernel, rfl⟩
set_option maxRecDepth 20000 in
theorem dX12_saddle_229 : decode cX12_saddle 229 = .ok (.iload 4, 2) ∧ 229 + 2 = 231 := ⟨by decide +kernel, rfl⟩
set_option maxRecDepth 20000 in
theorem dX12_saddle_231 : decode cX12_saddle 231 = .ok (.imul, 1) ∧ 231 + 1 = 232 := ⟨by decide +kernel, rfl⟩
set_option maxRecDepth 20000 in
theorem dX12_saddle_232 : decode cX12_saddle 232 = .ok (.iload 5, 2) ∧ 232 + 2 = 234 := ⟨by decide +kernel, rfl⟩
set_option maxRecDepth 20000 in
theorem dX12_saddle_234 : decode cX12_saddle 234 = .ok (.iadd, 1) ∧ 234 + 1 = 235 := ⟨by decide +kernel, rfl⟩
set_option maxRecDepth 20000 in
theorem dX12_saddle_235 : decode cX12_saddle 235 = .ok (.laload, 1) ∧ 235 + 1 = 236 := ⟨by decide +kernel, rfl⟩
set_option maxRecDepth 20000 in
theorem dX12_saddle_236 : decode cX12_saddle 236 = .ok (.aload_n 0, 1) ∧ 236 + 1 = 237 := ⟨by decide +kernel, rfl⟩
set_option maxRecDepth 20000 in
theorem dX12_saddle_237 : decode cX12_saddle 237 = .ok (.getfield 100, 3) ∧ 237 + 3 = 240 := ⟨by decide +kernel, rfl⟩
set_option maxRecDepth 20000 in
theorem dX12_saddle_240 : decode cX12_saddle 240 = .ok (.iload 5, 2) ∧ 240 + 2 = 242 := ⟨by decide +kernel, rfl⟩
set_option maxRecDepth 20000 in
theorem dX12_saddle_242 : decode cX12_saddle 242 = .ok (.laload, 1) ∧ 242 + 1 = 243 := ⟨by decide +kernel, rfl⟩
set_option maxRecDepth 20000 in
theorem dX12_saddle_243 : decode cX12_saddle 243 = .ok (.lcmp, 1) ∧ 243 + 1 = 244 := ⟨by decide +kernel, rfl⟩
set_option maxRecDepth 20000 in
theorem dX12_saddle_244 : decode cX12_saddle 244 = .ok (.ifCond .ne 49, 3) ∧ 244 + 3 = 247 ∧ ((244 : Nat) : Int) + (49) = ((293 : Nat) : Int) := ⟨by decide +kernel, rfl, by decide⟩
set_option maxRecDepth 20000 in
theorem dX12_saddle_247 : decode cX12_saddle 247 = .ok (.aload_n 0, 1) ∧ 247 + 1 = 248 := ⟨by decide +kernel, rfl⟩
set_option maxRecDepth 20000 in
theorem dX12_saddle_248 : decode cX12_saddle 248 = .ok (.getfield 94, 3) ∧ 248 + 3 = 251 := ⟨by decide +kernel, rfl⟩
set_option maxRecDepth 20000 in
theorem dX12_saddle_251 : decode cX12_saddle 251 = .ok (.sipush 256, 3) ∧ 251 + 3 = 254 := ⟨by decide +kernel, rfl⟩
set_option maxRecDepth 20000 in
theorem dX12_saddle_254 : decode cX12_saddle 254 = .ok (.iload 4, 2) ∧ 254 + 2 = 256 := ⟨by decide +kernel, rfl⟩
set_option maxRecDepth 20000 in
theorem dX12_saddle_256 : decode cX12_saddle 256 = .ok (.imul, 1) ∧ 256 + 1 = 257 := ⟨by decide +kernel, rfl⟩
set_option maxRecDepth 20000 in
theorem dX12_saddle_257 : decode cX12_saddle 257 = .ok (.iload 5, 2) ∧ 257 + 2 = 259 := ⟨by decide +kernel, rfl⟩
set_option maxRecDepth 20000 in
theorem dX12_saddle_259 : decode cX12_saddle 259 = .ok (.iadd, 1) ∧ 259 + 1 = 260 := ⟨by decide +kernel, rfl⟩
set_option maxRecDepth 20000 in
theorem dX12_saddle_260 : decode cX12_saddle 260 = .ok (.laload, 1) ∧ 260 + 1 = 261 := ⟨by decide +kernel, rfl⟩
set_option maxRecDepth 20000 in
theorem dX12_saddle_261 : decode cX12_saddle 261 = .ok (.aload_n 0, 1) ∧ 261 + 1 = 262 := ⟨by decide +kernel, rfl⟩
set_option maxRecDepth 20000 in
theorem dX12_saddle_262 : decode cX12_saddle 262 = .ok (.getfield 103, 3) ∧ 262 + 3 = 265 := ⟨by decide +kernel, rfl⟩
set_option maxRecDepth 20000 in
theorem dX12_saddle_265 : decode cX12_saddle 265 = .ok (.iload 4, 2) ∧ 265 + 2 = 267 := ⟨by decide +kernel, rfl⟩
set_option maxRecDepth 20000 in
theorem dX12_saddle_267 : decode cX12_saddle 267 = .ok (.laload, 1) ∧ 267 + 1 = 268 := ⟨by decide +kernel, rfl⟩
set_option maxRecDepth 20000 in
theorem dX12_saddle_268 : decode cX12_saddle 268 = .ok (.lcmp, 1) ∧ 268 + 1 = 269 := ⟨by decide +kernel, rfl⟩
set_option maxRecDepth 20000 in
theorem dX12_saddle_269 : decode cX12_saddle 269 = .ok (.ifCond .ne 24, 3) ∧ 269 + 3 = 272 ∧ ((269 : Nat) : Int) + (24) = ((293 : Nat) : Int) := ⟨by decide +kernel, rfl, by decide⟩
set_option maxRecDepth 20000 in
theorem dX12_saddle_272 : decode cX12_saddle 272 = .ok (.iload_n 2, 1) ∧ 272 + 1 = 273 := ⟨by decide +kernel, rfl⟩
set_option maxRecDepth 20000 in
theorem dX12_saddle_273 : decode cX12_saddle 273 = .ok (.ifCond .ne 15, 3) ∧ 273 + 3 = 276 ∧ ((273 : Nat) : Int) + (15) = ((288 : Nat) : Int) := ⟨by decide +kernel, rfl, by decide⟩
set_option maxRecDepth 20000 in
theorem dX12_saddle_276 : decode cX12_saddle 276 = .ok (.sipush 256, 3) ∧ 276 + 3 = 279 := ⟨by decide +kernel, rfl⟩
set_option maxRecDepth 20000 in
theorem dX12_saddle_279 : decode cX12_saddle 279 = .ok (.iload 4, 2) ∧ 279 + 2 = 281 := ⟨by decide +kernel, rfl⟩
set_option maxRecDepth 20000 in
theorem dX12_saddle_281 : decode cX12_saddle 281 = .ok (.imul, 1) ∧ 281 + 1 = 282 := ⟨by decide +kernel, rfl⟩
set_option maxRecDepth 20000 in
theorem dX12_saddle_282 : decode cX12_saddle 282 = .ok (.iload 5, 2) ∧ 282 + 2 = 284 := ⟨by decide +kernel, rfl⟩
set_option maxRecDepth 20000 in
theorem dX12_saddle_284 : decode cX12_saddle 284 = .ok (.iadd, 1) ∧ 284 + 1 = 285 := ⟨by decide +kernel, rfl⟩
set_option maxRecDepth 20000 in
theorem dX12_saddle_285 : decode cX12_saddle 285 = .ok (.goto 4, 3) ∧ ((285 : Nat) : Int) + (4) = ((289 : Nat) : Int) := ⟨by decide +kernel, by decide⟩
set_option maxRecDepth 20000 in
theorem dX12_saddle_288 : decode cX12_saddle 288 = .ok (.iload_n 3, 1) ∧ 288 + 1 = 289 := ⟨by decide +kernel, rfl⟩
set_option maxRecDepth 20000 in
theorem dX12_saddle_289 : decode cX12_saddle 289 = .ok (.istore_n 3, 1) ∧ 289 + 1 = 290 := ⟨by decide +kernel, rfl⟩
set_option maxRecDepth 20000 in
theorem dX12_saddle_290 : decode cX12_saddle 290 = .ok (.iinc 2 1, 3) ∧ 290 + 3 = 293 := ⟨by decide +kernel, rfl⟩
set_option maxRecDepth 20000 in
theorem dX12_saddle_293 : decode cX12_saddle 293 = .ok (.iinc 5 1, 3) ∧ 293 + 3 = 296 := ⟨by decide +kernel, rfl⟩
set_option maxRecDepth 20000 in
theorem dX12_saddle_296 : decode cX12_saddle 296 = .ok (.goto (-102), 3) ∧ ((296 : Nat) : Int) + (-102) = ((194 : Nat) : Int) := ⟨by decide +kernel, by decide⟩
set_option maxRecDepth 20000 in
theorem dX12_saddle_299 : decode cX12_saddle 299 = .ok (.iinc 4 1, 3) ∧ 299 + 3 = 302 := ⟨by decide +kernel, rfl⟩
set_option maxRecDepth 20000 in
theorem dX12_saddle_302 : decode cX12_saddle 302 = .ok (.goto (-119), 3) ∧ ((302 : Nat) : Int) + (-119) = ((183 : Nat) : Int) := ⟨by decide +kernel, by decide⟩
set_option maxRecDepth 20000 in
theorem dX12_saddle_305 : decode cX12_saddle 305 = .ok (.iload_n 1, 1) ∧ 305 + 1 = 306 := ⟨by decide +kernel, rfl⟩
set_option maxRecDepth 20000 in
theorem dX12_saddle_306 : decode cX12_saddle 306 = .ok (.iconst 2, 1) ∧ 306 + 1 = 307 := ⟨by decide +kernel, rfl⟩
set_option maxRecDepth 20000 in
theorem dX12_saddle_307 : decode cX12_saddle 307 = .ok (.if_icmp .ne 7, 3) ∧ 307 + 3 = 310 ∧ ((307 : Nat) : Int) + (7) = ((314 : Nat) : Int) := ⟨by decide +kernel, rfl, by decide⟩
set_option maxRecDepth 20000 in
theorem dX12_saddle_310 : decode cX12_saddle 310 = .ok (.iload_n 2, 1) ∧ 310 + 1 = 311 := ⟨by decide +kernel, rfl⟩
set_option maxRecDepth 20000 in
theorem dX12_saddle_311 : decode cX12_saddle 311 = .ok (.goto 29, 3) ∧ ((311 : Nat) : Int) + (29) = ((340 : Nat) : Int) := ⟨by decide +kernel, by decide⟩
set_option maxRecDepth 20000 in
theorem dX12_saddle_314 : decode cX12_saddle 314 = .ok (.iload_n 3, 1) ∧ 314 + 1 = 315 := ⟨by decide +kernel, rfl⟩
set_option maxRecDepth 20000 in
theorem dX12_saddle_315 : decode cX12_saddle 315 = .ok (.iconst (-1), 1) ∧ 315 + 1 = 316 := ⟨by decide +kernel, rfl⟩
set_option maxRecDepth 20000 in
theorem dX12_saddle_316 : decode cX12_saddle 316 = .ok (.if_icmp .ne 7, 3) ∧ 316 + 3 = 319 ∧ ((316 : Nat) : Int) + (7) = ((323 : Nat) : Int) := ⟨by decide +kernel, rfl, by decide⟩
set_option maxRecDepth 20000 in
theorem dX12_saddle_319 : decode cX12_saddle 319 = .ok (.iconst (-1), 1) ∧ 319 + 1 = 320 := ⟨by decide +kernel, rfl⟩
set_option maxRecDepth 20000 in
theorem dX12_saddle_320 : decode cX12_saddle 320 = .ok (.goto 20, 3) ∧ ((320 : Nat) : Int) + (20) = ((340 : Nat) : Int) := ⟨by decide +kernel, by decide⟩
set_option maxRecDepth 20000 in
theorem dX12_saddle_323 : decode cX12_saddle 323 = .ok (.iload_n 1, 1) ∧ 323 + 1 = 324 := ⟨by decide +kernel, rfl⟩
set_option maxRecDepth 20000 in
theorem dX12_saddle_324 : decode cX12_saddle 324 = .ok (.ifCond .ne 11, 3) ∧ 324 + 3 = 327 ∧ ((324 : Nat) : Int) + (11) = ((335 : Nat) : Int) := ⟨by decide +kernel, rfl, by decide⟩
set_option maxRecDepth 20000 in
theorem dX12_saddle_327 : decode cX12_saddle 327 = .ok (.iload_n 3, 1) ∧ 327 + 1 = 328 := ⟨by decide +kernel, rfl⟩
set_option maxRecDepth 20000 in
theorem dX12_saddle_328 : decode cX12_saddle 328 = .ok (.sipush 256, 3) ∧ 328 + 3 = 331 := ⟨by decide +kernel, rfl⟩
set_option maxRecDepth 20000 in
theorem dX12_saddle_331 : decode cX12_saddle 331 = .ok (.idiv, 1) ∧ 331 + 1 = 332 := ⟨by decide +kernel, rfl⟩
set_option maxRecDepth 20000 in
theorem dX12_saddle_332 : decode cX12_saddle 332 = .ok (.goto 8, 3) ∧ ((332 : Nat) : Int) + (8) = ((340 : Nat) : Int) := ⟨by decide +kernel, by decide⟩
set_option maxRecDepth 20000 in
theorem dX12_saddle_335 : decode cX12_saddle 335 = .ok (.iload_n 3, 1) ∧ 335 + 1 = 336 := ⟨by decide +kernel, rfl⟩
set_option maxRecDepth 20000 in
theorem dX12_saddle_336 : decode cX12_saddle 336 = .ok (.sipush 256, 3) ∧ 336 + 3 = 339 := ⟨by decide +kernel, rfl⟩
set_option maxRecDepth 20000 in
theorem dX12_saddle_339 : decode cX12_saddle 339 = .ok (.irem, 1) ∧ 339 + 1 = 340 := ⟨by decide +kernel, rfl⟩
set_option maxRecDepth 20000 in
theorem dX12_saddle_340 : decode cX12_saddle 340 = .ok (.ireturn, 1) := by decide +kernel
set_option maxRecDepth 20000 in
theorem dX12_isEnough_0 : decode cX12_isEnough 0 = .ok (.iload_n 3, 1) ∧ 0 + 1 = 1 := ⟨by decide +kernel, rfl⟩
set_option maxRecDepth 20000 in
theorem dX12_isEnough_1 : decode cX12_isEnough 1 = .ok (.iconst 2, 1) ∧ 1 + 1 = 2 := ⟨by decide +kernel, rfl⟩
set_option maxRecDepth 20000 in
theorem dX12_isEnough_2 : decode cX12_isEnough 2 = .ok (.if_icmp .le 25, 3) ∧ 2 + 3 = 5 ∧ ((2 : Nat) : Int) + (25) = ((27 : Nat) : Int) := ⟨by decide +kernel, rfl, by decide⟩
set_option maxRecDepth 20000 in
theorem dX12_isEnough_5 : decode cX12_isEnough 5 = .ok (.lload_n 0, 1) ∧ 5 + 1 = 6 := ⟨by decide +kernel, rfl⟩
set_option maxRecDepth 20000 in
theorem dX12_isEnough_6 : decode cX12_isEnough 6 = .ok (.iload_n 2, 1) ∧ 6 + 1 = 7 := ⟨by decide +kernel, rfl⟩
set_option maxRecDepth 20000 in
theorem dX12_isEnough_7 : decode cX12_isEnough 7 = .ok (.i2l, 1) ∧ 7 + 1 = 8 := ⟨by decide +kernel, rfl⟩
set_option maxRecDepth 20000 in
theorem dX12_isEnough_8 : decode cX12_isEnough 8 = .ok (.iload_n 3, 1) ∧ 8 + 1 = 9 := ⟨by decide +kernel, rfl⟩
set_option maxRecDepth 20000 in
theorem dX12_isEnough_9 : decode cX12_isEnough 9 = .ok (.iconst 3, 1) ∧ 9 + 1 = 10 := ⟨by decide +kernel, rfl⟩
set_option maxRecDepth 20000 in
theorem dX12_isEnough_10 : decode cX12_isEnough 10 = .ok (.isub, 1) ∧ 10 + 1 = 11 := ⟨by decide +kernel, rfl⟩
set_option maxRecDepth 20000 in
theorem dX12_isEnough_11 : decode cX12_isEnough 11 = .ok (.invokestatic 431, 3) ∧ 11 + 3 = 14 := ⟨by decide +kernel, rfl⟩
set_option maxRecDepth 20000 in
theorem dX12_isEnough_14 : decode cX12_isEnough 14 = .ok (.lmul, 1) ∧ 14 + 1 = 15 := ⟨by decide +kernel, rfl⟩
set_option maxRecDepth 20000 in
theorem dX12_isEnough_15 : decode cX12_isEnough 15 = .ok (.lcmp, 1) ∧ 15 + 1 = 16 := ⟨by decide +kernel, rfl⟩
set_option maxRecDepth 20000 in
theorem dX12_isEnough_16 : decode cX12_isEnough 16 = .ok (.ifCond .lt 7, 3) ∧ 16 + 3 = 19 ∧ ((16 : Nat) : Int) + (7) = ((23 : Nat) : Int) := ⟨by decide +kernel, rfl, by decide⟩
set_option maxRecDepth 20000 in
theorem dX12_isEnough_19 : decode cX12_isEnough 19 = .ok (.iconst 1, 1) ∧ 19 + 1 = 20 := ⟨by decide +kernel, rfl⟩
set_option maxRecDepth 20000 in
theorem dX12_isEnough_20 : decode cX12_isEnough 20 = .ok (.goto 28, 3) ∧ ((20 : Nat) : Int) + (28) = ((48 : Nat) : Int) := ⟨by decide +kernel, by decide⟩
set_option maxRecDepth 20000 in
theorem dX12_isEnough_23 : decode cX12_isEnough 23 = .ok (.iconst 0, 1) ∧ 23 + 1 = 24 := ⟨by decide +kernel, rfl⟩
set_option maxRecDepth 20000 in
theorem dX12_isEnough_24 : decode cX12_isEnough 24 = .ok (.goto 24, 3) ∧ ((24 : Nat) : Int) + (24) = ((48 : Nat) : Int) := ⟨by decide +kernel, by decide⟩
set_option maxRecDepth 20000 in
theorem dX12_isEnough_27 : decode cX12_isEnough 27 = .ok (.lload_n 0, 1) ∧ 27 + 1 = 28 := ⟨by decide +kernel, rfl⟩
set_option maxRecDepth 20000 in
theorem dX12_isEnough_28 : decode cX12_isEnough 28 = .ok (.ldc2_w 223, 3) ∧ 28 + 3 = 31 := ⟨by decide +kernel, rfl⟩
set_option maxRecDepth 20000 in
theorem dX12_isEnough_31 : decode cX12_isEnough 31 = .ok (.lmul, 1) ∧ 31 + 1 = 32 := ⟨by decide +kernel, rfl⟩
set_option maxRecDepth 20000 in
theorem dX12_isEnough_32 : decode cX12_isEnough 32 = .ok (.iload_n 2, 1) ∧ 32 + 1 = 33 := ⟨by decide +kernel, rfl⟩
set_option maxRecDepth 20000 in
theorem dX12_isEnough_33 : decode cX12_isEnough 33 = .ok (.i2l, 1) ∧ 33 + 1 = 34 := ⟨by decide +kernel, rfl⟩
set_option maxRecDepth 20000 in
theorem dX12_isEnough_34 : decode cX12_isEnough 34 = .ok (.iload_n 3, 1) ∧ 34 + 1 = 35 := ⟨by decide +kernel, rfl⟩
set_option maxRecDepth 20000 in
theorem dX12_isEnough_35 : decode cX12_isEnough 35 = .ok (.invokestatic 431, 3) ∧ 35 + 3 = 38 := ⟨by decide +kernel, rfl⟩
set_option maxRecDepth 20000 in
theorem dX12_isEnough_38 : decode cX12_isEnough 38 = .ok (.lmul, 1) ∧ 38 + 1 = 39 := ⟨by decide +kernel, rfl⟩
set_option maxRecDepth 20000 in
theorem dX12_isEnough_39 : decode cX12_isEnough 39 = .ok (.lcmp, 1) ∧ 39 + 1 = 40 := ⟨by decide +kernel, rfl⟩
set_option maxRecDepth 20000 in
theorem dX12_isEnough_40 : decode cX12_isEnough 40 = .ok (.ifCond .lt 7, 3) ∧ 40 + 3 = 43 ∧ ((40 : Nat) : Int) + (7) = ((47 : Nat) : Int) := ⟨by decide +kernel, rfl, by decide⟩
set_option maxRecDepth 20000 in
theorem dX12_isEnough_43 : decode cX12_isEnough 43 = .ok (.iconst 1, 1) ∧ 43 + 1 = 44 := ⟨by decide +kernel, rfl⟩
set_option maxRecDepth 20000 in
theorem dX12_isEnough_44 : decode cX12_isEnough 44 = .ok (.goto 4, 3) ∧ ((44 : Nat) : Int) + (4) = ((48 : Nat) : Int) := ⟨by decide +kernel, by decide⟩
set_option maxRecDepth 20000 in
theorem dX12_isEnough_47 : decode cX12_isEnough 47 = .ok (.iconst 0, 1) ∧ 47 + 1 = 48 := ⟨by decide +kernel, rfl⟩
set_option maxRecDepth 20000 in
theorem dX12_isEnough_48 : decode cX12_isEnough 48 = .ok (.ireturn, 1) := by decide +kernel
set_option maxRecDepth 20000 in
theorem dX12_enough_0 : decode cX12_enough 0 = .ok (.aload_n 0, 1) ∧ 0 + 1 = 1 := ⟨by decide +kernel, rfl⟩
set_option maxRecDepth 20000 in
theorem dX12_enough_1 : decode cX12_enough 1 = .ok (.iconst 0, 1) ∧ 1 + 1 = 2 := ⟨by decide +kernel, rfl⟩
set_option maxRecDepth 20000 in
theorem dX12_enough_2 : decode cX12_enough 2 = .ok (.putfield 124, 3) ∧ 2 + 3 = 5 := ⟨by decide +kernel, rfl⟩
set_option maxRecDepth 20000 in
theorem dX12_enough_5 : decode cX12_enough 5 = .ok (.iload_n 1, 1) ∧ 5 + 1 = 6 := ⟨by decide +kernel, rfl⟩
set_option maxRecDepth 20000 in
theorem dX12_enough_6 : decode cX12_enough 6 = .ok (.invokestatic 358, 3) ∧ 6 + 3 = 9 := ⟨by decide +kernel, rfl⟩
set_option maxRecDepth 20000 in
theorem dX12_enough_9 : decode cX12_enough 9 = .ok (.ifCond .eq 25, 3) ∧ 9 + 3 = 12 ∧ ((9 : Nat) : Int) + (25) = ((34 : Nat) : Int) := ⟨by decide +kernel, rfl, by decide⟩
set_option maxRecDepth 20000 in
theorem dX12_enough_12 : decode cX12_enough 12 = .ok (.iload_n 2, 1) ∧ 12 + 1 = 13 := ⟨by decide +kernel, rfl⟩
set_option maxRecDepth 20000 in
theorem dX12_enough_13 : decode cX12_enough 13 = .ok (.i2l, 1) ∧ 13 + 1 = 14 := ⟨by decide +kernel, rfl⟩
set_option maxRecDepth 20000 in
theorem dX12_enough_14 : decode cX12_enough 14 = .ok (.lconst 0, 1) ∧ 14 + 1 = 15 := ⟨by decide +kernel, rfl⟩
set_option maxRecDepth 20000 in
theorem dX12_enough_15 : decode cX12_enough 15 = .ok (.ldc2_w 223, 3) ∧ 15 + 3 = 18 := ⟨by decide +kernel, rfl⟩
set_option maxRecDepth 20000 in
theorem dX12_enough_18 : decode cX12_enough 18 = .ok (.invokestatic 134, 3) ∧ 18 + 3 = 21 := ⟨by decide +kernel, rfl⟩
set_option maxRecDepth 20000 in
theorem dX12_enough_21 : decode cX12_enough 21 = .ok (.ifCond .eq 13, 3) ∧ 21 + 3 = 24 ∧ ((21 : Nat) : Int) + (13) = ((34 : Nat) : Int) := ⟨by decide +kernel, rfl, by decide⟩
set_option maxRecDepth 20000 in
theorem dX12_enough_24 : decode cX12_enough 24 = .ok (.iload_n 3, 1) ∧ 24 + 1 = 25 := ⟨by decide +kernel, rfl⟩
set_option maxRecDepth 20000 in
theorem dX12_enough_25 : decode cX12_enough 25 = .ok (.i2l, 1) ∧ 25 + 1 = 26 := ⟨by decide +kernel, rfl⟩
set_option maxRecDepth 20000 in
theorem dX12_enough_26 : decode cX12_enough 26 = .ok (.lconst 0, 1) ∧ 26 + 1 = 27 := ⟨by decide +kernel, rfl⟩
set_option maxRecDepth 20000 in
theorem dX12_enough_27 : decode cX12_enough 27 = .ok (.lconst 1, 1) ∧ 27 + 1 = 28 := ⟨by decide +kernel, rfl⟩
set_option maxRecDepth 20000 in
theorem dX12_enough_28 : decode cX12_enough 28 = .ok (.invokestatic 134, 3) ∧ 28 + 3 = 31 := ⟨by decide +kernel, rfl⟩
set_option maxRecDepth 20000 in
theorem dX12_enough_31 : decode cX12_enough 31 = .ok (.ifCond .ne 5, 3) ∧ 31 + 3 = 34 ∧ ((31 : Nat) : Int) + (5) = ((36 : Nat) : Int) := ⟨by decide +kernel, rfl, by decide⟩
set_option maxRecDepth 20000 in
theorem dX12_enough_34 : decode cX12_enough 34 = .ok (.iconst (-1), 1) ∧ 34 + 1 = 35 := ⟨by decide +kernel, rfl⟩
set_option maxRecDepth 20000 in
theorem dX12_enough_35 : decode cX12_enough 35 = .ok (.ireturn, 1) := by decide +kernel
set_option maxRecDepth 20000 in
theorem dX12_enough_36 : decode cX12_enough 36 = .ok (.aload_n 0, 1) ∧ 36 + 1 = 37 := ⟨by decide +kernel, rfl⟩
set_option maxRecDepth 20000 in
theorem dX12_enough_37 : decode cX12_enough 37 = .ok (.invokevirtual 401, 3) ∧ 37 + 3 = 40 := ⟨by decide +kernel, rfl⟩
set_option maxRecDepth 20000 in
theorem dX12_enough_40 : decode cX12_enough 40 = .ok (.aload_n 0, 1) ∧ 40 + 1 = 41 := ⟨by decide +kernel, rfl⟩
set_option maxRecDepth 20000 in
theorem dX12_enough_41 : decode cX12_enough 41 = .ok (.getfield 13, 3) ∧ 41 + 3 = 44 := ⟨by decide +kernel, rfl⟩
set_option maxRecDepth 20000 in
theorem dX12_enough_44 : decode cX12_enough 44 = .ok (.iconst 4, 1) ∧ 44 + 1 = 45 := ⟨by decide +kernel, rfl⟩
set_option maxRecDepth 20000 in
theorem dX12_enough_45 : decode cX12_enough 45 = .ok (.iaload, 1) ∧ 45 + 1 = 46 := ⟨by decide +kernel, rfl⟩
set_option maxRecDepth 20000 in
theorem dX12_enough_46 : decode cX12_enough 46 = .ok (.invokestatic 435, 3) ∧ 46 + 3 = 49 := ⟨by decide +kernel, rfl⟩
set_option maxRecDepth 20000 in
theorem dX12_enough_49 : decode cX12_enough 49 = .ok (.istore 4, 2) ∧ 49 + 2 = 51 := ⟨by decide +kernel, rfl⟩
set_option maxRecDepth 20000 in
theorem dX12_enough_51 : decode cX12_enough 51 = .ok (.iconst (-1), 1) ∧ 51 + 1 = 52 := ⟨by decide +kernel, rfl⟩
set_option maxRecDepth 20000 in
theorem dX12_enough_52 : decode cX12_enough 52 = .ok (.istore 5, 2) ∧ 52 + 2 = 54 := ⟨by decide +kernel, rfl⟩
set_option maxRecDepth 20000 in
theorem dX12_enough_54 : decode cX12_enough 54 = .ok (.iconst 0, 1) ∧ 54 + 1 = 55 := ⟨by decide +kernel, rfl⟩
set_option maxRecDepth 20000 in
theorem dX12_enough_55 : decode cX12_enough 55 = .ok (.istore 6, 2) ∧ 55 + 2 = 57 := ⟨by decide +kernel, rfl⟩
set_option maxRecDepth 20000 in
theorem dX12_enough_57 : decode cX12_enough 57 = .ok (.iload 6, 2) ∧ 57 + 2 = 59 := ⟨by decide +kernel, rfl⟩
set_option maxRecDepth 20000 in
theorem dX12_enough_59 : decode cX12_enough 59 = .ok (.sipush 256, 3) ∧ 59 + 3 = 62 := ⟨by decide +kernel, rfl⟩
set_option maxRecDepth 20000 in
theorem dX12_enough_62 : decode cX12_enough 62 = .ok (.if_icmp .ge 135, 3) ∧ 62 + 3 = 65 ∧ ((62 : Nat) : Int) + (135) = ((197 : Nat) : Int) := ⟨by decide +kernel, rfl, by decide⟩
set_option maxRecDepth 20000 in
theorem dX12_enough_65 : decode cX12_enough 65 = .ok (.aload_n 0, 1) ∧ 65 + 1 = 66 := ⟨by decide +kernel, rfl⟩
set_option maxRecDepth 20000 in
theorem dX12_enough_66 : decode cX12_enough 66 = .ok (.iload_n 1, 1) ∧ 66 + 1 = 67 := ⟨by decide +kernel, rfl⟩
set_option maxRecDepth 20000 in
theorem dX12_enough_67 : decode cX12_enough 67 = .ok (.iload 6, 2) ∧ 67 + 2 = 69 := ⟨by decide +kernel, rfl⟩
set_option maxRecDepth 20000 in
theorem dX12_enough_69 : decode cX12_enough 69 = .ok (.invokevirtual 404, 3) ∧ 69 + 3 = 72 := ⟨by decide +kernel, rfl⟩
set_option maxRecDepth 20000 in
theorem dX12_enough_72 : decode cX12_enough 72 = .ok (.ifCond .eq 119, 3) ∧ 72 + 3 = 75 ∧ ((72 : Nat) : Int) + (119) = ((191 : Nat) : Int) := ⟨by decide +kernel, rfl, by decide⟩
set_option maxRecDepth 20000 in
theorem dX12_enough_75 : decode cX12_enough 75 = .ok (.iload_n 1, 1) ∧ 75 + 1 = 76 := ⟨by decide +kernel, rfl⟩
set_option maxRecDepth 20000 in
theorem dX12_enough_76 : decode cX12_enough 76 = .ok (.ifCond .ne 23, 3) ∧ 76 + 3 = 79 ∧ ((76 : Nat) : Int) + (23) = ((99 : Nat) : Int) := ⟨by decide +kernel, rfl, by decide⟩
set_option maxRecDepth 20000 in
theorem dX12_enough_79 : decode cX12_enough 79 = .ok (.aload_n 0, 1) ∧ 79 + 1 = 80 := ⟨by decide +kernel, rfl⟩
set_option maxRecDepth 20000 in
theorem dX12_enough_80 : decode cX12_enough 80 = .ok (.aload_n 0, 1) ∧ 80 + 1 = 81 := ⟨by decide +kernel, rfl⟩
set_option maxRecDepth 20000 in
theorem dX12_enough_81 : decode cX12_enough 81 = .ok (.getfield 13, 3) ∧ 81 + 3 = 84 := ⟨by decide +kernel, rfl⟩
set_option maxRecDepth 20000 in
theorem dX12_enough_84 : decode cX12_enough 84 = .ok (.iconst 4, 1) ∧ 84 + 1 = 85 := ⟨by decide +kernel, rfl⟩
set_option maxRecDepth 20000 in
theorem dX12_enough_85 : decode cX12_enough 85 = .ok (.iaload, 1) ∧ 85 + 1 = 86 := ⟨by decide +kernel, rfl⟩
set_option maxRecDepth 20000 in
theorem dX12_enough_86 : decode cX12_enough 86 = .ok (.iload 6, 2) ∧ 86 + 2 = 88 := ⟨by decide +kernel, rfl⟩
set_option maxRecDepth 20000 in
theorem dX12_enough_88 : decode cX12_enough 88 = .ok (.iconst 0, 1) ∧ 88 + 1 = 89 := ⟨by decide +kernel, rfl⟩
set_option maxRecDepth 20000 in
theorem dX12_enough_89 : decode cX12_enough 89 = .ok (.aload_n 0, 1) ∧ 89 + 1 = 90 := ⟨by decide +kernel, rfl⟩
set_option maxRecDepth 20000 in
theorem dX12_enough_90 : decode cX12_enough 90 = .ok (.invokevirtual 377, 3) ∧ 90 + 3 = 93 := ⟨by decide +kernel, rfl⟩
set_option maxRecDepth 20000 in
theorem dX12_enough_93 : decode cX12_enough 93 = .ok (.invokevirtual 380, 3) ∧ 93 + 3 = 96 := ⟨by decide +kernel, rfl⟩
set_option maxRecDepth 20000 in
theorem dX12_enough_96 : decode cX12_enough 96 = .ok (.goto 26, 3) ∧ ((96 : Nat) : Int) + (26) = ((122 : Nat) : Int) := ⟨by decide +kernel, by decide⟩
set_option maxRecDepth 20000 in
theorem dX12_enough_99 : decode cX12_enough 99 = .ok (.iload 4, 2) ∧ 99 + 2 = 101 := ⟨by decide +kernel, rfl⟩
set_option maxRecDepth 20000 in
theorem dX12_enough_101 : decode cX12_enough 101 = .ok (.invokestatic 431, 3) ∧ 101 + 3 = 104 := ⟨by decide +kernel, rfl⟩
set_option maxRecDepth 20000 in
theorem dX12_enough_104 : decode cX12_enough 104 = .ok (.aload_n 0, 1) ∧ 104 + 1 = 105 := ⟨by decide +kernel, rfl⟩
set_option maxRecDepth 20000 in
theorem dX12_enough_105 : decode cX12_enough 105 = .ok (.aload_n 0, 1) ∧ 105 + 1 = 106 := ⟨by decide +kernel, rfl⟩
set_option maxRecDepth 20000 in
theorem dX12_enough_106 : decode cX12_enough 106 = .ok (.getfield 13, 3) ∧ 106 + 3 = 109 := ⟨by decide +kernel, rfl⟩
set_option maxRecDepth 20000 in
theorem dX12_enough_109 : decode cX12_enough 109 = .ok (.iconst 4, 1) ∧ 109 + 1 = 110 := ⟨by decide +kernel, rfl⟩
set_option maxRecDepth 20000 in
theorem dX12_enough_110 : decode cX12_enough 110 = .ok (.iaload, 1) ∧ 110 + 1 = 111 := ⟨by decide +kernel, rfl⟩
set_option maxRecDepth 20000 in
theorem dX12_enough_111 : decode cX12_enough 111 = .ok (.iconst 0, 1) ∧ 111 + 1 = 112 := ⟨by decide +kernel, rfl⟩
set_option maxRecDepth 20000 in
theorem dX12_enough_112 : decode cX12_enough 112 = .ok (.iload 6, 2) ∧ 112 + 2 = 114 := ⟨by decide +kernel, rfl⟩
set_option maxRecDepth 20000 in
theorem dX12_enough_114 : decode cX12_enough 114 = .ok (.aload_n 0, 1) ∧ 114 + 1 = 115 := ⟨by decide +kernel, rfl⟩
set_option maxRecDepth 20000 in
theorem dX12_enough_115 : decode cX12_enough 115 = .ok (.invokevirtual 377, 3) ∧ 115 + 3 = 118 := ⟨by decide +kernel, rfl⟩
set_option maxRecDepth 20000 in
theorem dX12_enough_118 : decode cX12_enough 118 = .ok (.invokevirtual 380, 3) ∧ 118 + 3 = 121 := ⟨by decide +kernel, rfl⟩
set_option maxRecDepth 20000 in
theorem dX12_enough_121 : decode cX12_enough 121 = .ok (.lsub, 1) ∧ 121 + 1 = 122 := ⟨by decide +kernel, rfl⟩
set_option maxRecDepth 20000 in
theorem dX12_enough_122 : decode cX12_enough 122 = .ok (.lstore 7, 2) ∧ 122 + 2 = 124 := ⟨by decide +kernel, rfl⟩
set_option maxRecDepth 20000 in
theorem dX12_enough_124 : decode cX12_enough 124 = .ok (.iload 5, 2) ∧ 124 + 2 = 126 := ⟨by decide +kernel, rfl⟩
set_option maxRecDepth 20000 in
theorem dX12_enough_126 : decode cX12_enough 126 = .ok (.iconst (-1), 1) ∧ 126 + 1 = 127 := ⟨by decide +kernel, rfl⟩
set_option maxRecDepth 20000 in
theorem dX12_enough_127 : decode cX12_enough 127 = .ok (.if_icmp .eq 32, 3) ∧ 127 + 3 = 130 ∧ ((127 : Nat) : Int) + (32) = ((159 : Nat) : Int) := ⟨by decide +kernel, rfl, by decide⟩
set_option maxRecDepth 20000 in
theorem dX12_enough_130 : decode cX12_enough 130 = .ok (.aload_n 0, 1) ∧ 130 + 1 = 131 := ⟨by decide +kernel, rfl⟩
set_option maxRecDepth 20000 in
theorem dX12_enough_131 : decode cX12_enough 131 = .ok (.getfield 90, 3) ∧ 131 + 3 = 134 := ⟨by decide +kernel, rfl⟩
set_option maxRecDepth 20000 in
theorem dX12_enough_134 : decode cX12_enough 134 = .ok (.sipush 256, 3) ∧ 134 + 3 = 137 := ⟨by decide +kernel, rfl⟩
set_option maxRecDepth 20000 in
theorem dX12_enough_137 : decode cX12_enough 137 = .ok (.iload_n 1, 1) ∧ 137 + 1 = 138 := ⟨by decide +kernel, rfl⟩
set_option maxRecDepth 20000 in
theorem dX12_enough_138 : decode cX12_enough 138 = .ok (.imul, 1) ∧ 138 + 1 = 139 := ⟨by decide +kernel, rfl⟩
set_option maxRecDepth 20000 in
theorem dX12_enough_139 : decode cX12_enough 139 = .ok (.iload 6, 2) ∧ 139 + 2 = 141 := ⟨by decide +kernel, rfl⟩
set_option maxRecDepth 20000 in
theorem dX12_enough_141 : decode cX12_enough 141 = .ok (.iadd, 1) ∧ 141 + 1 = 142 := ⟨by decide +kernel, rfl⟩
set_option maxRecDepth 20000 in
theorem dX12_enough_142 : decode cX12_enough 142 = .ok (.iaload, 1) ∧ 142 + 1 = 143 := ⟨by decide +kernel, rfl⟩
set_option maxRecDepth 20000 in
theorem dX12_enough_143 : decode cX12_enough 143 = .ok (.aload_n 0, 1) ∧ 143 + 1 = 144 := ⟨by decide +kernel, rfl⟩
set_option maxRecDepth 20000 in
theorem dX12_enough_144 : decode cX12_enough 144 = .ok (.getfield 90, 3) ∧ 144 + 3 = 147 := ⟨by decide +kernel, rfl⟩
set_option maxRecDepth 20000 in
theorem dX12_enough_147 : decode cX12_enough 147 = .ok (.sipush 256, 3) ∧ 147 + 3 = 150 := ⟨by decide +kernel, rfl⟩
set_option maxRecDepth 20000 in
theorem dX12_enough_150 : decode cX12_enough 150 = .ok (.iload_n 1, 1) ∧ 150 + 1 = 151 := ⟨by decide +kernel, rfl⟩
set_option maxRecDepth 20000 in
theorem dX12_enough_151 : decode cX12_enough 151 = .ok (.imul, 1) ∧ 151 + 1 = 152 := ⟨by decide +kernel, rfl⟩
set_option maxRecDepth 20000 in
theorem dX12_enough_152 : decode cX12_enough 152 = .ok (.iload 5, 2) ∧ 152 + 2 = 154 := ⟨by decide +kernel, rfl⟩
set_option maxRecDepth 20000 in
theorem dX12_enough_154 : decode cX12_enough 154 = .ok (.iadd, 1) ∧ 154 + 1 = 155 := ⟨by decide +kernel, rfl⟩
set_option maxRecDepth 20000 in
theorem dX12_enough_155 : decode cX12_enough 155 = .ok (.iaload, 1) ∧ 155 + 1 = 156 := ⟨by decide +kernel, rfl⟩
set_option maxRecDepth 20000 in
theorem dX12_enough_156 : decode cX12_enough 156 = .ok (.if_icmp .ge 7, 3) ∧ 156 + 3 = 159 ∧ ((156 : Nat) : Int) + (7) = ((163 : Nat) : Int) := ⟨by decide +kernel, rfl, by decide⟩
set_option maxRecDepth 20000 in
theorem dX12_enough_159 : decode cX12_enough 159 = .ok (.iconst 1, 1) ∧ 159 + 1 = 160 := ⟨by decide +kernel, rfl⟩
set_option maxRecDepth 20000 in
theorem dX12_enough_160 : decode cX12_enough 160 = .ok (.goto 4, 3) ∧ ((160 : Nat) : Int) + (4) = ((164 : Nat) : Int) := ⟨by decide +kernel, by decide⟩
set_option maxRecDepth 20000 in
theorem dX12_enough_163 : decode cX12_enough 163 = .ok (.iconst 0, 1) ∧ 163 + 1 = 164 := ⟨by decide +kernel, rfl⟩
set_option maxRecDepth 20000 in
theorem dX12_enough_164 : decode cX12_enough 164 = .ok (.istore 9, 2) ∧ 164 + 2 = 166 := ⟨by decide +kernel, rfl⟩
set_option maxRecDepth 20000 in
theorem dX12_enough_166 : decode cX12_enough 166 = .ok (.iload 9, 2) ∧ 166 + 2 = 168 := ⟨by decide +kernel, rfl⟩
set_option maxRecDepth 20000 in
theorem dX12_enough_168 : decode cX12_enough 168 = .ok (.ifCond .eq 19, 3) ∧ 168 + 3 = 171 ∧ ((168 : Nat) : Int) + (19) = ((187 : Nat) : Int) := ⟨by decide +kernel, rfl, by decide⟩
set_option maxRecDepth 20000 in
theorem dX12_enough_171 : decode cX12_enough 171 = .ok (.lload 7, 2) ∧ 171 + 2 = 173 := ⟨by decide +kernel, rfl⟩
set_option maxRecDepth 20000 in
theorem dX12_enough_173 : decode cX12_enough 173 = .ok (.iload_n 2, 1) ∧ 173 + 1 = 174 := ⟨by decide +kernel, rfl⟩
set_option maxRecDepth 20000 in
theorem dX12_enough_174 : decode cX12_enough 174 = .ok (.iload 4, 2) ∧ 174 + 2 = 176 := ⟨by decide +kernel, rfl⟩
set_option maxRecDepth 20000 in
theorem dX12_enough_176 : decode cX12_enough 176 = .ok (.invokestatic 438, 3) ∧ 176 + 3 = 179 := ⟨by decide +kernel, rfl⟩
set_option maxRecDepth 20000 in
theorem dX12_enough_179 : decode cX12_enough 179 = .ok (.ifCond .eq 8, 3) ∧ 179 + 3 = 182 ∧ ((179 : Nat) : Int) + (8) = ((187 : Nat) : Int) := ⟨by decide +kernel, rfl, by decide⟩
set_option maxRecDepth 20000 in
theorem dX12_enough_182 : decode cX12_enough 182 = .ok (.iload 6, 2) ∧ 182 + 2 = 184 := ⟨by decide +kernel, rfl⟩
set_option maxRecDepth 20000 in
theorem dX12_enough_184 : decode cX12_enough 184 = .ok (.goto 5, 3) ∧ ((184 : Nat) : Int) + (5) = ((189 : Nat) : Int) := ⟨by decide +kernel, by decide⟩
set_option maxRecDepth 20000 in
theorem dX12_enough_187 : decode cX12_enough 187 = .ok (.iload 5, 2) ∧ 187 + 2 = 189 := ⟨by decide +kernel, rfl⟩
set_option maxRecDepth 20000 in
theorem dX12_enough_189 : decode cX12_enough 189 = .ok (.istore 5, 2) ∧ 189 + 2 = 191 := ⟨by decide +kernel, rfl⟩
set_option maxRecDepth 20000 in
theorem dX12_enough_191 : decode cX12_enough 191 = .ok (.iinc 6 1, 3) ∧ 191 + 3 = 194 := ⟨by decide +kernel, rfl⟩
set_option maxRecDepth 20000 in
theorem dX12_enough_194 : decode cX12_enough 194 = .ok (.goto (-137), 3) ∧ ((194 : Nat) : Int) + (-137) = ((57 : Nat) : Int) := ⟨by decide +kernel, by decide⟩
set_option maxRecDepth 20000 in
theorem dX12_enough_197 : decode cX12_enough 197 = .ok (.iload 5, 2) ∧ 197 + 2 = 199 := ⟨by decide +kernel, rfl⟩
set_option maxRecDepth 20000 in
theorem dX12_enough_199 : decode cX12_enough 199 = .ok (.iconst (-1), 1) ∧ 199 + 1 = 200 := ⟨by decide +kernel, rfl⟩
set_option maxRecDepth 20000 in
theorem dX12_enough_200 : decode cX12_enough 200 = .ok (.if_icmp .ne 7, 3) ∧ 200 + 3 = 203 ∧ ((200 : Nat) : Int) + (7) = ((207 : Nat) : Int) := ⟨by decide +kernel, rfl, by decide⟩
set_option maxRecDepth 20000 in
theorem dX12_enough_203 : decode cX12_enough 203 = .ok (.iconst (-1), 1) ∧ 203 + 1 = 204 := ⟨by decide +kernel, rfl⟩
set_option maxRecDepth 20000 in
theorem dX12_enough_204 : decode cX12_enough 204 = .ok (.goto 25, 3) ∧ ((204 : Nat) : Int) + (25) = ((229 : Nat) : Int) := ⟨by decide +kernel, by decide⟩
set_option maxRecDepth 20000 in
theorem dX12_enough_207 : decode cX12_enough 207 = .ok (.iload_n 3, 1) ∧ 207 + 1 = 208 := ⟨by decide +kernel, rfl⟩
set_option maxRecDepth 20000 in
theorem dX12_enough_208 : decode cX12_enough 208 = .ok (.ifCond .ne 8, 3) ∧ 208 + 3 = 211 ∧ ((208 : Nat) : Int) + (8) = ((216 : Nat) : Int) := ⟨by decide +kernel, rfl, by decide⟩
set_option maxRecDepth 20000 in
theorem dX12_enough_211 : decode cX12_enough 211 = .ok (.iload 5, 2) ∧ 211 + 2 = 213 := ⟨by decide +kernel, rfl⟩
set_option maxRecDepth 20000 in
theorem dX12_enough_213 : decode cX12_enough 213 = .ok (.goto 16, 3) ∧ ((213 : Nat) : Int) + (16) = ((229 : Nat) : Int) := ⟨by decide +kernel, by decide⟩
set_option maxRecDepth 20000 in
theorem dX12_enough_216 : decode cX12_enough 216 = .ok (.aload_n 0, 1) ∧ 216 + 1 = 217 := ⟨by decide +kernel, rfl⟩
set_option maxRecDepth 20000 in
theorem dX12_enough_217 : decode cX12_enough 217 = .ok (.getfield 90, 3) ∧ 217 + 3 = 220 := ⟨by decide +kernel, rfl⟩
set_option maxRecDepth 20000 in
theorem dX12_enough_220 : decode cX12_enough 220 = .ok (.sipush 256, 3) ∧ 220 + 3 = 223 := ⟨by decide +kernel, rfl⟩
set_option maxRecDepth 20000 in
theorem dX12_enough_223 : decode cX12_enough 223 = .ok (.iload_n 1, 1) ∧ 223 + 1 = 224 := ⟨by decide +kernel, rfl⟩
set_option maxRecDepth 20000 in
theorem dX12_enough_224 : decode cX12_enough 224 = .ok (.imul, 1) ∧ 224 + 1 = 225 := ⟨by decide +kernel, rfl⟩
set_option maxRecDepth 20000 in
theorem dX12_enough_225 : decode cX12_enough 225 = .ok (.iload 5, 2) ∧ 225 + 2 = 227 := ⟨by decide +kernel, rfl⟩
set_option maxRecDepth 20000 in
theorem dX12_enough_227 : decode cX12_enough 227 = .ok (.iadd, 1) ∧ 227 + 1 = 228 := ⟨by decide +kernel, rfl⟩
set_option maxRecDepth 20000 in
theorem dX12_enough_228 : decode cX12_enough 228 = .ok (.iaload, 1) ∧ 228 + 1 = 229 := ⟨by decide +kernel, rfl⟩
set_option maxRecDepth 20000 in
theorem dX12_enough_229 : decode cX12_enough 229 = .ok (.ireturn, 1) := by decide +kernel
set_option maxRecDepth 20000 in
theorem dX12_bribe_0 : decode cX12_bribe 0 = .ok (.aload_n 0, 1) ∧ 0 + 1 = 1 := ⟨by decide +kernel, rfl⟩
set_option maxRecDepth 20000 in
theorem dX12_bribe_1 : decode cX12_bribe 1 = .ok (.iconst 0, 1) ∧ 1 + 1 = 2 := ⟨by decide +kernel, rfl⟩
set_option maxRecDepth 20000 in
theorem dX12_bribe_2 : decode cX12_bribe 2 = .ok (.putfield 124, 3) ∧ 2 + 3 = 5 := ⟨by decide +kernel, rfl⟩
set_option maxRecDepth 20000 in
theorem dX12_bribe_5 : decode cX12_bribe 5 = .ok (.iload_n 1, 1) ∧ 5 + 1 = 6 := ⟨by decide +kernel, rfl⟩
set_option maxRecDepth 20000 in
theorem dX12_bribe_6 : decode cX12_bribe 6 = .ok (.invokestatic 358, 3) ∧ 6 + 3 = 9 := ⟨by decide +kernel, rfl⟩
set_option maxRecDepth 20000 in
theorem dX12_bribe_9 : decode cX12_bribe 9 = .ok (.ifCond .eq 28, 3) ∧ 9 + 3 = 12 ∧ ((9 : Nat) : Int) + (28) = ((37 : Nat) : Int) := ⟨by decide +kernel, rfl, by decide⟩
set_option maxRecDepth 20000 in
theorem dX12_bribe_12 : decode cX12_bribe 12 = .ok (.iload_n 2, 1) ∧ 12 + 1 = 13 := ⟨by decide +kernel, rfl⟩
set_option maxRecDepth 20000 in
theorem dX12_bribe_13 : decode cX12_bribe 13 = .ok (.i2l, 1) ∧ 13 + 1 = 14 := ⟨by decide +kernel, rfl⟩
set_option maxRecDepth 20000 in
theorem dX12_bribe_14 : decode cX12_bribe 14 = .ok (.lconst 0, 1) ∧ 14 + 1 = 15 := ⟨by decide +kernel, rfl⟩
set_option maxRecDepth 20000 in
theorem dX12_bribe_15 : decode cX12_bribe 15 = .ok (.ldc2_w 392, 3) ∧ 15 + 3 = 18 := ⟨by decide +kernel, rfl⟩
set_option maxRecDepth 20000 in
theorem dX12_bribe_18 : decode cX12_bribe 18 = .ok (.invokestatic 134, 3) ∧ 18 + 3 = 21 := ⟨by decide +kernel, rfl⟩
set_option maxRecDepth 20000 in
theorem dX12_bribe_21 : decode cX12_bribe 21 = .ok (.ifCond .eq 16, 3) ∧ 21 + 3 = 24 ∧ ((21 : Nat) : Int) + (16) = ((37 : Nat) : Int) := ⟨by decide +kernel, rfl, by decide⟩
set_option maxRecDepth 20000 in
theorem dX12_bribe_24 : decode cX12_bribe 24 = .ok (.iload_n 2, 1) ∧ 24 + 1 = 25 := ⟨by decide +kernel, rfl⟩
set_option maxRecDepth 20000 in
theorem dX12_bribe_25 : decode cX12_bribe 25 = .ok (.aload_n 0, 1) ∧ 25 + 1 = 26 := ⟨by decide +kernel, rfl⟩
set_option maxRecDepth 20000 in
theorem dX12_bribe_26 : decode cX12_bribe 26 = .ok (.getfield 13, 3) ∧ 26 + 3 = 29 := ⟨by decide +kernel, rfl⟩
set_option maxRecDepth 20000 in
theorem dX12_bribe_29 : decode cX12_bribe 29 = .ok (.iconst 4, 1) ∧ 29 + 1 = 30 := ⟨by decide +kernel, rfl⟩
set_option maxRecDepth 20000 in
theorem dX12_bribe_30 : decode cX12_bribe 30 = .ok (.iaload, 1) ∧ 30 + 1 = 31 := ⟨by decide +kernel, rfl⟩
set_option maxRecDepth 20000 in
theorem dX12_bribe_31 : decode cX12_bribe 31 = .ok (.iconst (-1), 1) ∧ 31 + 1 = 32 := ⟨by decide +kernel, rfl⟩
set_option maxRecDepth 20000 in
theorem dX12_bribe_32 : decode cX12_bribe 32 = .ok (.ixor, 1) ∧ 32 + 1 = 33 := ⟨by decide +kernel, rfl⟩
set_option maxRecDepth 20000 in
theorem dX12_bribe_33 : decode cX12_bribe 33 = .ok (.iand, 1) ∧ 33 + 1 = 34 := ⟨by decide +kernel, rfl⟩
set_option maxRecDepth 20000 in
theorem dX12_bribe_34 : decode cX12_bribe 34 = .ok (.ifCond .eq 9, 3) ∧ 34 + 3 = 37 ∧ ((34 : Nat) : Int) + (9) = ((43 : Nat) : Int) := ⟨by decide +kernel, rfl, by decide⟩
set_option maxRecDepth 20000 in
theorem dX12_bribe_37 : decode cX12_bribe 37 = .ok (.aload_n 0, 1) ∧ 37 + 1 = 38 := ⟨by decide +kernel, rfl⟩
set_option maxRecDepth 20000 in
theorem dX12_bribe_38 : decode cX12_bribe 38 = .ok (.iconst (-1), 1) ∧ 38 + 1 = 39 := ⟨by decide +kernel, rfl⟩
set_option maxRecDepth 20000 in
theorem dX12_bribe_39 : decode cX12_bribe 39 = .ok (.invokevirtual 138, 3) ∧ 39 + 3 = 42 := ⟨by decide +kernel, rfl⟩
set_option maxRecDepth 20000 in
theorem dX12_bribe_42 : decode cX12_bribe 42 = .ok (.ireturn, 1) := by decide +kernel
set_option maxRecDepth 20000 in
theorem dX12_bribe_43 : decode cX12_bribe 43 = .ok (.aload_n 0, 1) ∧ 43 + 1 = 44 := ⟨by decide +kernel, rfl⟩
set_option maxRecDepth 20000 in
theorem dX12_bribe_44 : decode cX12_bribe 44 = .ok (.invokevirtual 398, 3) ∧ 44 + 3 = 47 := ⟨by decide +kernel, rfl⟩
set_option maxRecDepth 20000 in
theorem dX12_bribe_47 : decode cX12_bribe 47 = .ok (.aload_n 0, 1) ∧ 47 + 1 = 48 := ⟨by decide +kernel, rfl⟩
set_option maxRecDepth 20000 in
theorem dX12_bribe_48 : decode cX12_bribe 48 = .ok (.getfield 90, 3) ∧ 48 + 3 = 51 := ⟨by decide +kernel, rfl⟩
set_option maxRecDepth 20000 in
theorem dX12_bribe_51 : decode cX12_bribe 51 = .ok (.sipush 256, 3) ∧ 51 + 3 = 54 := ⟨by decide +kernel, rfl⟩
set_option maxRecDepth 20000 in
theorem dX12_bribe_54 : decode cX12_bribe 54 = .ok (.iload_n 1, 1) ∧ 54 + 1 = 55 := ⟨by decide +kernel, rfl⟩
set_option maxRecDepth 20000 in
theorem dX12_bribe_55 : decode cX12_bribe 55 = .ok (.imul, 1) ∧ 55 + 1 = 56 := ⟨by decide +kernel, rfl⟩
set_option maxRecDepth 20000 in
theorem dX12_bribe_56 : decode cX12_bribe 56 = .ok (.iload_n 2, 1) ∧ 56 + 1 = 57 := ⟨by decide +kernel, rfl⟩
set_option maxRecDepth 20000 in
theorem dX12_bribe_57 : decode cX12_bribe 57 = .ok (.iadd, 1) ∧ 57 + 1 = 58 := ⟨by decide +kernel, rfl⟩
set_option maxRecDepth 20000 in
theorem dX12_bribe_58 : decode cX12_bribe 58 = .ok (.iaload, 1) ∧ 58 + 1 = 59 := ⟨by decide +kernel, rfl⟩
set_option maxRecDepth 20000 in
theorem dX12_bribe_59 : decode cX12_bribe 59 = .ok (.istore_n 3, 1) ∧ 59 + 1 = 60 := ⟨by decide +kernel, rfl⟩
set_option maxRecDepth 20000 in
theorem dX12_bribe_60 : decode cX12_bribe 60 = .ok (.iload_n 3, 1) ∧ 60 + 1 = 61 := ⟨by decide +kernel, rfl⟩
set_option maxRecDepth 20000 in
theorem dX12_bribe_61 : decode cX12_bribe 61 = .ok (.aload_n 0, 1) ∧ 61 + 1 = 62 := ⟨by decide +kernel, rfl⟩
set_option maxRecDepth 20000 in
theorem dX12_bribe_62 : decode cX12_bribe 62 = .ok (.getfield 13, 3) ∧ 62 + 3 = 65 := ⟨by decide +kernel, rfl⟩
set_option maxRecDepth 20000 in
theorem dX12_bribe_65 : decode cX12_bribe 65 = .ok (.bipush 8, 2) ∧ 65 + 2 = 67 := ⟨by decide +kernel, rfl⟩
set_option maxRecDepth 20000 in
theorem dX12_bribe_67 : decode cX12_bribe 67 = .ok (.iload_n 1, 1) ∧ 67 + 1 = 68 := ⟨by decide +kernel, rfl⟩
set_option maxRecDepth 20000 in
theorem dX12_bribe_68 : decode cX12_bribe 68 = .ok (.iadd, 1) ∧ 68 + 1 = 69 := ⟨by decide +kernel, rfl⟩
set_option maxRecDepth 20000 in
theorem dX12_bribe_69 : decode cX12_bribe 69 = .ok (.iaload, 1) ∧ 69 + 1 = 70 := ⟨by decide +kernel, rfl⟩
set_option maxRecDepth 20000 in
theorem dX12_bribe_70 : decode cX12_bribe 70 = .ok (.if_icmp .le 10, 3) ∧ 70 + 3 = 73 ∧ ((70 : Nat) : Int) + (10) = ((80 : Nat) : Int) := ⟨by decide +kernel, rfl, by decide⟩
set_option maxRecDepth 20000 in
theorem dX12_bribe_73 : decode cX12_bribe 73 = .ok (.aload_n 0, 1) ∧ 73 + 1 = 74 := ⟨by decide +kernel, rfl⟩
set_option maxRecDepth 20000 in
theorem dX12_bribe_74 : decode cX12_bribe 74 = .ok (.bipush (-3), 2) ∧ 74 + 2 = 76 := ⟨by decide +kernel, rfl⟩
set_option maxRecDepth 20000 in
theorem dX12_bribe_76 : decode cX12_bribe 76 = .ok (.invokevirtual 138, 3) ∧ 76 + 3 = 79 := ⟨by decide +kernel, rfl⟩
set_option maxRecDepth 20000 in
theorem dX12_bribe_79 : decode cX12_bribe 79 = .ok (.ireturn, 1) := by decide +kernel
set_option maxRecDepth 20000 in
theorem dX12_bribe_80 : decode cX12_bribe 80 = .ok (.aload_n 0, 1) ∧ 80 + 1 = 81 := ⟨by decide +kernel, rfl⟩
set_option maxRecDepth 20000 in
theorem dX12_bribe_81 : decode cX12_bribe 81 = .ok (.getfield 13, 3) ∧ 81 + 3 = 84 := ⟨by decide +kernel, rfl⟩
set_option maxRecDepth 20000 in
theorem dX12_bribe_84 : decode cX12_bribe 84 = .ok (.bipush 8, 2) ∧ 84 + 2 = 86 := ⟨by decide +kernel, rfl⟩
set_option maxRecDepth 20000 in
theorem dX12_bribe_86 : decode cX12_bribe 86 = .ok (.iload_n 1, 1) ∧ 86 + 1 = 87 := ⟨by decide +kernel, rfl⟩
set_option maxRecDepth 20000 in
theorem dX12_bribe_87 : decode cX12_bribe 87 = .ok (.iadd, 1) ∧ 87 + 1 = 88 := ⟨by decide +kernel, rfl⟩
set_option maxRecDepth 20000 in
theorem dX12_bribe_88 : decode cX12_bribe 88 = .ok (.dup2, 1) ∧ 88 + 1 = 89 := ⟨by decide +kernel, rfl⟩
set_option maxRecDepth 20000 in
theorem dX12_bribe_89 : decode cX12_bribe 89 = .ok (.iaload, 1) ∧ 89 + 1 = 90 := ⟨by decide +kernel, rfl⟩
set_option maxRecDepth 20000 in
theorem dX12_bribe_90 : decode cX12_bribe 90 = .ok (.iload_n 3, 1) ∧ 90 + 1 = 91 := ⟨by decide +kernel, rfl⟩
set_option maxRecDepth 20000 in
theorem dX12_bribe_91 : decode cX12_bribe 91 = .ok (.isub, 1) ∧ 91 + 1 = 92 := ⟨by decide +kernel, rfl⟩
set_option maxRecDepth 20000 in
theorem dX12_bribe_92 : decode cX12_bribe 92 = .ok (.iastore, 1) ∧ 92 + 1 = 93 := ⟨by decide +kernel, rfl⟩
set_option maxRecDepth 20000 in
theorem dX12_bribe_93 : decode cX12_bribe 93 = .ok (.iconst 0, 1) ∧ 93 + 1 = 94 := ⟨by decide +kernel, rfl⟩
set_option maxRecDepth 20000 in
theorem dX12_bribe_94 : decode cX12_bribe 94 = .ok (.istore 4, 2) ∧ 94 + 2 = 96 := ⟨by decide +kernel, rfl⟩
set_option maxRecDepth 20000 in
theorem dX12_bribe_96 : decode cX12_bribe 96 = .ok (.iload 4, 2) ∧ 96 + 2 = 98 := ⟨by decide +kernel, rfl⟩
set_option maxRecDepth 20000 in
theorem dX12_bribe_98 : decode cX12_bribe 98 = .ok (.bipush 8, 2) ∧ 98 + 2 = 100 := ⟨by decide +kernel, rfl⟩
set_option maxRecDepth 20000 in
theorem dX12_bribe_100 : decode cX12_bribe 100 = .ok (.if_icmp .ge 43, 3) ∧ 100 + 3 = 103 ∧ ((100 : Nat) : Int) + (43) = ((143 : Nat) : Int) := ⟨by decide +kernel, rfl, by decide⟩
set_option maxRecDepth 20000 in
theorem dX12_bribe_103 : decode cX12_bribe 103 = .ok (.aload_n 0, 1) ∧ 103 + 1 = 104 := ⟨by decide +kernel, rfl⟩
set_option maxRecDepth 20000 in
theorem dX12_bribe_104 : decode cX12_bribe 104 = .ok (.getfield 13, 3) ∧ 104 + 3 = 107 := ⟨by decide +kernel, rfl⟩
set_option maxRecDepth 20000 in
theorem dX12_bribe_107 : decode cX12_bribe 107 = .ok (.bipush 12, 2) ∧ 107 + 2 = 109 := ⟨by decide +kernel, rfl⟩
set_option maxRecDepth 20000 in
theorem dX12_bribe_109 : decode cX12_bribe 109 = .ok (.bipush 6, 2) ∧ 109 + 2 = 111 := ⟨by decide +kernel, rfl⟩
set_option maxRecDepth 20000 in
theorem dX12_bribe_111 : decode cX12_bribe 111 = .ok (.iload 4, 2) ∧ 111 + 2 = 113 := ⟨by decide +kernel, rfl⟩
set_option maxRecDepth 20000 in
theorem dX12_bribe_113 : decode cX12_bribe 113 = .ok (.imul, 1) ∧ 113 + 1 = 114 := ⟨by decide +kernel, rfl⟩
set_option maxRecDepth 20000 in
theorem dX12_bribe_114 : decode cX12_bribe 114 = .ok (.iadd, 1) ∧ 114 + 1 = 115 := ⟨by decide +kernel, rfl⟩
set_option maxRecDepth 20000 in
theorem dX12_bribe_115 : decode cX12_bribe 115 = .ok (.iconst 5, 1) ∧ 115 + 1 = 116 := ⟨by decide +kernel, rfl⟩
set_option maxRecDepth 20000 in
theorem dX12_bribe_116 : decode cX12_bribe 116 = .ok (.iadd, 1) ∧ 116 + 1 = 117 := ⟨by decide +kernel, rfl⟩
set_option maxRecDepth 20000 in
theorem dX12_bribe_117 : decode cX12_bribe 117 = .ok (.dup2, 1) ∧ 117 + 1 = 118 := ⟨by decide +kernel, rfl⟩
set_option maxRecDepth 20000 in
theorem dX12_bribe_118 : decode cX12_bribe 118 = .ok (.iaload, 1) ∧ 118 + 1 = 119 := ⟨by decide +kernel, rfl⟩
set_option maxRecDepth 20000 in
theorem dX12_bribe_119 : decode cX12_bribe 119 = .ok (.iload_n 2, 1) ∧ 119 + 1 = 120 := ⟨by decide +kernel, rfl⟩
set_option maxRecDepth 20000 in
theorem dX12_bribe_120 : decode cX12_bribe 120 = .ok (.iload 4, 2) ∧ 120 + 2 = 122 := ⟨by decide +kernel, rfl⟩
set_option maxRecDepth 20000 in
theorem dX12_bribe_122 : decode cX12_bribe 122 = .ok (.invokestatic 364, 3) ∧ 122 + 3 = 125 := ⟨by decide +kernel, rfl⟩
set_option maxRecDepth 20000 in
theorem dX12_bribe_125 : decode cX12_bribe 125 = .ok (.ifCond .eq 9, 3) ∧ 125 + 3 = 128 ∧ ((125 : Nat) : Int) + (9) = ((134 : Nat) : Int) := ⟨by decide +kernel, rfl, by decide⟩
set_option maxRecDepth 20000 in
theorem dX12_bribe_128 : decode cX12_bribe 128 = .ok (.iconst 1, 1) ∧ 128 + 1 = 129 := ⟨by decide +kernel, rfl⟩
set_option maxRecDepth 20000 in
theorem dX12_bribe_129 : decode cX12_bribe 129 = .ok (.iload_n 1, 1) ∧ 129 + 1 = 130 := ⟨by decide +kernel, rfl⟩
set_option maxRecDepth 20000 in
theorem dX12_bribe_130 : decode cX12_bribe 130 = .ok (.ishl, 1) ∧ 130 + 1 = 131 := ⟨by decide +kernel, rfl⟩
set_option maxRecDepth 20000 in
theorem dX12_bribe_131 : decode cX12_bribe 131 = .ok (.goto 4, 3) ∧ ((131 : Nat) : Int) + (4) = ((135 : Nat) : Int) := ⟨by decide +kernel, by decide⟩
set_option maxRecDepth 20000 in
theorem dX12_bribe_134 : decode cX12_bribe 134 = .ok (.iconst 0, 1) ∧ 134 + 1 = 135 := ⟨by decide +kernel, rfl⟩
set_option maxRecDepth 20000 in
theorem dX12_bribe_135 : decode cX12_bribe 135 = .ok (.ior, 1) ∧ 135 + 1 = 136 := ⟨by decide +kernel, rfl⟩
set_option maxRecDepth 20000 in
theorem dX12_bribe_136 : decode cX12_bribe 136 = .ok (.iastore, 1) ∧ 136 + 1 = 137 := ⟨by decide +kernel, rfl⟩
set_option maxRecDepth 20000 in
theorem dX12_bribe_137 : decode cX12_bribe 137 = .ok (.iinc 4 1, 3) ∧ 137 + 3 = 140 := ⟨by decide +kernel, rfl⟩
set_option maxRecDepth 20000 in
theorem dX12_bribe_140 : decode cX12_bribe 140 = .ok (.goto (-44), 3) ∧ ((140 : Nat) : Int) + (-44) = ((96 : Nat) : Int) := ⟨by decide +kernel, by decide⟩
set_option maxRecDepth 20000 in
theorem dX12_bribe_143 : decode cX12_bribe 143 = .ok (.aload_n 0, 1) ∧ 143 + 1 = 144 := ⟨by decide +kernel, rfl⟩
set_option maxRecDepth 20000 in
theorem dX12_bribe_144 : decode cX12_bribe 144 = .ok (.iload_n 3, 1) ∧ 144 + 1 = 145 := ⟨by decide +kernel, rfl⟩
set_option maxRecDepth 20000 in
theorem dX12_bribe_145 : decode cX12_bribe 145 = .ok (.invokevirtual 138, 3) ∧ 145 + 3 = 148 := ⟨by decide +kernel, rfl⟩
set_option maxRecDepth 20000 in
theorem dX12_bribe_148 : decode cX12_bribe 148 = .ok (.ireturn, 1) := by decide +kernel
set_option maxRecDepth 20000 in
theorem dX12_findSteady_0 : decode cX12_findSteady 0 = .ok (.aload_n 0, 1) ∧ 0 + 1 = 1 := ⟨by decide +kernel, rfl⟩
set_option maxRecDepth 20000 in
theorem dX12_findSteady_1 : decode cX12_findSteady 1 = .ok (.invokevirtual 401, 3) ∧ 1 + 3 = 4 := ⟨by decide +kernel, rfl⟩
set_option maxRecDepth 20000 in
theorem dX12_findSteady_4 : decode cX12_findSteady 4 = .ok (.iconst (-1), 1) ∧ 4 + 1 = 5 := ⟨by decide +kernel, rfl⟩
set_option maxRecDepth 20000 in
theorem dX12_findSteady_5 : decode cX12_findSteady 5 = .ok (.istore_n 2, 1) ∧ 5 + 1 = 6 := ⟨by decide +kernel, rfl⟩
set_option maxRecDepth 20000 in
theorem dX12_findSteady_6 : decode cX12_findSteady 6 = .ok (.aload_n 0, 1) ∧ 6 + 1 = 7 := ⟨by decide +kernel, rfl⟩
set_option maxRecDepth 20000 in
theorem dX12_findSteady_7 : decode cX12_findSteady 7 = .ok (.iconst 0, 1) ∧ 7 + 1 = 8 := ⟨by decide +kernel, rfl⟩
set_option maxRecDepth 20000 in
theorem dX12_findSteady_8 : decode cX12_findSteady 8 = .ok (.putfield 442, 3) ∧ 8 + 3 = 11 := ⟨by decide +kernel, rfl⟩
set_option maxRecDepth 20000 in
theorem dX12_findSteady_11 : decode cX12_findSteady 11 = .ok (.iconst 0, 1) ∧ 11 + 1 = 12 := ⟨by decide +kernel, rfl⟩
set_option maxRecDepth 20000 in
theorem dX12_findSteady_12 : decode cX12_findSteady 12 = .ok (.istore_n 3, 1) ∧ 12 + 1 = 13 := ⟨by decide +kernel, rfl⟩
set_option maxRecDepth 20000 in
theorem dX12_findSteady_13 : decode cX12_findSteady 13 = .ok (.iload_n 3, 1) ∧ 13 + 1 = 14 := ⟨by decide +kernel, rfl⟩
set_option maxRecDepth 20000 in
theorem dX12_findSteady_14 : decode cX12_findSteady 14 = .ok (.iconst 1, 1) ∧ 14 + 1 = 15 := ⟨by decide +kernel, rfl⟩
set_option maxRecDepth 20000 in
theorem dX12_findSteady_15 : decode cX12_findSteady 15 = .ok (.aload_n 0, 1) ∧ 15 + 1 = 16 := ⟨by decide +kernel, rfl⟩
set_option maxRecDepth 20000 in
theorem dX12_findSteady_16 : decode cX12_findSteady 16 = .ok (.getfield 13, 3) ∧ 16 + 3 = 19 := ⟨by decide +kernel, rfl⟩
set_option maxRecDepth 20000 in
theorem dX12_findSteady_19 : decode cX12_findSteady 19 = .ok (.iconst 0, 1) ∧ 19 + 1 = 20 := ⟨by decide +kernel, rfl⟩
set_option maxRecDepth 20000 in
theorem dX12_findSteady_20 : decode cX12_findSteady 20 = .ok (.iaload, 1) ∧ 20 + 1 = 21 := ⟨by decide +kernel, rfl⟩
set_option maxRecDepth 20000 in
theorem dX12_findSteady_21 : decode cX12_findSteady 21 = .ok (.ishl, 1) ∧ 21 + 1 = 22 := ⟨by decide +kernel, rfl⟩
set_option maxRecDepth 20000 in
theorem dX12_findSteady_22 : decode cX12_findSteady 22 = .ok (.if_icmp .ge 191, 3) ∧ 22 + 3 = 25 ∧ ((22 : Nat) : Int) + (191) = ((213 : Nat) : Int) := ⟨by decide +kernel, rfl, by decide⟩
set_option maxRecDepth 20000 in
theorem dX12_findSteady_25 : decode cX12_findSteady 25 = .ok (.iload_n 3, 1) ∧ 25 + 1 = 26 := ⟨by decide +kernel, rfl⟩
set_option maxRecDepth 20000 in
theorem dX12_findSteady_26 : decode cX12_findSteady 26 = .ok (.invokestatic 435, 3) ∧ 26 + 3 = 29 := ⟨by decide +kernel, rfl⟩
set_option maxRecDepth 20000 in
theorem dX12_findSteady_29 : decode cX12_findSteady 29 = .ok (.iload_n 1, 1) ∧ 29 + 1 = 30 := ⟨by decide +kernel, rfl⟩
set_option maxRecDepth 20000 in
theorem dX12_findSteady_30 : decode cX12_findSteady 30 = .ok (.if_icmp .ne 177, 3) ∧ 30 + 3 = 33 ∧ ((30 : Nat) : Int) + (177) = ((207 : Nat) : Int) := ⟨by decide +kernel, rfl, by decide⟩
set_option maxRecDepth 20000 in
theorem dX12_findSteady_33 : decode cX12_findSteady 33 = .ok (.ldc2_w 221, 3) ∧ 33 + 3 = 36 := ⟨by decide +kernel, rfl⟩
set_option maxRecDepth 20000 in
theorem dX12_findSteady_36 : decode cX12_findSteady 36 = .ok (.lstore 4, 2) ∧ 36 + 2 = 38 := ⟨by decide +kernel, rfl⟩
set_option maxRecDepth 20000 in
theorem dX12_findSteady_38 : decode cX12_findSteady 38 = .ok (.ldc2_w 417, 3) ∧ 38 + 3 = 41 := ⟨by decide +kernel, rfl⟩
set_option maxRecDepth 20000 in
theorem dX12_findSteady_41 : decode cX12_findSteady 41 = .ok (.lstore 6, 2) ∧ 41 + 2 = 43 := ⟨by decide +kernel, rfl⟩
set_option maxRecDepth 20000 in
theorem dX12_findSteady_43 : decode cX12_findSteady 43 = .ok (.iconst 0, 1) ∧ 43 + 1 = 44 := ⟨by decide +kernel, rfl⟩
set_option maxRecDepth 20000 in
theorem dX12_findSteady_44 : decode cX12_findSteady 44 = .ok (.istore 8, 2) ∧ 44 + 2 = 46 := ⟨by decide +kernel, rfl⟩
set_option maxRecDepth 20000 in
theorem dX12_findSteady_46 : decode cX12_findSteady 46 = .ok (.iload 8, 2) ∧ 46 + 2 = 48 := ⟨by decide +kernel, rfl⟩
set_option maxRecDepth 20000 in
theorem dX12_findSteady_48 : decode cX12_findSteady 48 = .ok (.sipush 256, 3) ∧ 48 + 3 = 51 := ⟨by decide +kernel, rfl⟩
set_option maxRecDepth 20000 in
theorem dX12_findSteady_51 : decode cX12_findSteady 51 = .ok (.if_icmp .ge 95, 3) ∧ 51 + 3 = 54 ∧ ((51 : Nat) : Int) + (95) = ((146 : Nat) : Int) := ⟨by decide +kernel, rfl, by decide⟩
set_option maxRecDepth 20000 in
theorem dX12_findSteady_54 : decode cX12_findSteady 54 = .ok (.aload_n 0, 1) ∧ 54 + 1 = 55 := ⟨by decide +kernel, rfl⟩
set_option maxRecDepth 20000 in
theorem dX12_findSteady_55 : decode cX12_findSteady 55 = .ok (.iconst 0, 1) ∧ 55 + 1 = 56 := ⟨by decide +kernel, rfl⟩
set_option maxRecDepth 20000 in
theorem dX12_findSteady_56 : decode cX12_findSteady 56 = .ok (.iload 8, 2) ∧ 56 + 2 = 58 := ⟨by decide +kernel, rfl⟩
set_option maxRecDepth 20000 in
theorem dX12_findSteady_58 : decode cX12_findSteady 58 = .ok (.iload_n 3, 1) ∧ 58 + 1 = 59 := ⟨by decide +kernel, rfl⟩
set_option maxRecDepth 20000 in
theorem dX12_findSteady_59 : decode cX12_findSteady 59 = .ok (.invokevirtual 394, 3) ∧ 59 + 3 = 62 := ⟨by decide +kernel, rfl⟩
set_option maxRecDepth 20000 in
theorem dX12_findSteady_62 : decode cX12_findSteady 62 = .ok (.ifCond .eq 35, 3) ∧ 62 + 3 = 65 ∧ ((62 : Nat) : Int) + (35) = ((97 : Nat) : Int) := ⟨by decide +kernel, rfl, by decide⟩
set_option maxRecDepth 20000 in
theorem dX12_findSteady_65 : decode cX12_findSteady 65 = .ok (.aload_n 0, 1) ∧ 65 + 1 = 66 := ⟨by decide +kernel, rfl⟩
set_option maxRecDepth 20000 in
theorem dX12_findSteady_66 : decode cX12_findSteady 66 = .ok (.iload_n 3, 1) ∧ 66 + 1 = 67 := ⟨by decide +kernel, rfl⟩
set_option maxRecDepth 20000 in
theorem dX12_findSteady_67 : decode cX12_findSteady 67 = .ok (.iload 8, 2) ∧ 67 + 2 = 69 := ⟨by decide +kernel, rfl⟩
set_option maxRecDepth 20000 in
theorem dX12_findSteady_69 : decode cX12_findSteady 69 = .ok (.iconst 0, 1) ∧ 69 + 1 = 70 := ⟨by decide +kernel, rfl⟩
set_option maxRecDepth 20000 in
theorem dX12_findSteady_70 : decode cX12_findSteady 70 = .ok (.iload_n 1, 1) ∧ 70 + 1 = 71 := ⟨by decide +kernel, rfl⟩
set_option maxRecDepth 20000 in
theorem dX12_findSteady_71 : decode cX12_findSteady 71 = .ok (.iconst 2, 1) ∧ 71 + 1 = 72 := ⟨by decide +kernel, rfl⟩
set_option maxRecDepth 20000 in
theorem dX12_findSteady_72 : decode cX12_findSteady 72 = .ok (.idiv, 1) ∧ 72 + 1 = 73 := ⟨by decide +kernel, rfl⟩
set_option maxRecDepth 20000 in
theorem dX12_findSteady_73 : decode cX12_findSteady 73 = .ok (.iconst 1, 1) ∧ 73 + 1 = 74 := ⟨by decide +kernel, rfl⟩
set_option maxRecDepth 20000 in
theorem dX12_findSteady_74 : decode cX12_findSteady 74 = .ok (.iadd, 1) ∧ 74 + 1 = 75 := ⟨by decide +kernel, rfl⟩
set_option maxRecDepth 20000 in
theorem dX12_findSteady_75 : decode cX12_findSteady 75 = .ok (.invokevirtual 380, 3) ∧ 75 + 3 = 78 := ⟨by decide +kernel, rfl⟩
set_option maxRecDepth 20000 in
theorem dX12_findSteady_78 : decode cX12_findSteady 78 = .ok (.lstore 9, 2) ∧ 78 + 2 = 80 := ⟨by decide +kernel, rfl⟩
set_option maxRecDepth 20000 in
theorem dX12_findSteady_80 : decode cX12_findSteady 80 = .ok (.lload 9, 2) ∧ 80 + 2 = 82 := ⟨by decide +kernel, rfl⟩
set_option maxRecDepth 20000 in
theorem dX12_findSteady_82 : decode cX12_findSteady 82 = .ok (.lload 4, 2) ∧ 82 + 2 = 84 := ⟨by decide +kernel, rfl⟩
set_option maxRecDepth 20000 in
theorem dX12_findSteady_84 : decode cX12_findSteady 84 = .ok (.lcmp, 1) ∧ 84 + 1 = 85 := ⟨by decide +kernel, rfl⟩
set_option maxRecDepth 20000 in
theorem dX12_findSteady_85 : decode cX12_findSteady 85 = .ok (.ifCond .le 8, 3) ∧ 85 + 3 = 88 ∧ ((85 : Nat) : Int) + (8) = ((93 : Nat) : Int) := ⟨by decide +kernel, rfl, by decide⟩
set_option maxRecDepth 20000 in
theorem dX12_findSteady_88 : decode cX12_findSteady 88 = .ok (.lload 9, 2) ∧ 88 + 2 = 90 := ⟨by decide +kernel, rfl⟩
set_option maxRecDepth 20000 in
theorem dX12_findSteady_90 : decode cX12_findSteady 90 = .ok (.goto 5, 3) ∧ ((90 : Nat) : Int) + (5) = ((95 : Nat) : Int) := ⟨by decide +kernel, by decide⟩
set_option maxRecDepth 20000 in
theorem dX12_findSteady_93 : decode cX12_findSteady 93 = .ok (.lload 4, 2) ∧ 93 + 2 = 95 := ⟨by decide +kernel, rfl⟩
set_option maxRecDepth 20000 in
theorem dX12_findSteady_95 : decode cX12_findSteady 95 = .ok (.lstore 4, 2) ∧ 95 + 2 = 97 := ⟨by decide +kernel, rfl⟩
set_option maxRecDepth 20000 in
theorem dX12_findSteady_97 : decode cX12_findSteady 97 = .ok (.aload_n 0, 1) ∧ 97 + 1 = 98 := ⟨by decide +kernel, rfl⟩
set_option maxRecDepth 20000 in
theorem dX12_findSteady_98 : decode cX12_findSteady 98 = .ok (.iconst 1, 1) ∧ 98 + 1 = 99 := ⟨by decide +kernel, rfl⟩
set_option maxRecDepth 20000 in
theorem dX12_findSteady_99 : decode cX12_findSteady 99 = .ok (.iload 8, 2) ∧ 99 + 2 = 101 := ⟨by decide +kernel, rfl⟩
set_option maxRecDepth 20000 in
theorem dX12_findSteady_101 : decode cX12_findSteady 101 = .ok (.iload_n 3, 1) ∧ 101 + 1 = 102 := ⟨by decide +kernel, rfl⟩
set_option maxRecDepth 20000 in
theorem dX12_findSteady_102 : decode cX12_findSteady 102 = .ok (.invokevirtual 394, 3) ∧ 102 + 3 = 105 := ⟨by decide +kernel, rfl⟩
set_option maxRecDepth 20000 in
theorem dX12_findSteady_105 : decode cX12_findSteady 105 = .ok (.ifCond .eq 35, 3) ∧ 105 + 3 = 108 ∧ ((105 : Nat) : Int) + (35) = ((140 : Nat) : Int) := ⟨by decide +kernel, rfl, by decide⟩
set_option maxRecDepth 20000 in
theorem dX12_findSteady_108 : decode cX12_findSteady 108 = .ok (.aload_n 0, 1) ∧ 108 + 1 = 109 := ⟨by decide +kernel, rfl⟩
set_option maxRecDepth 20000 in
theorem dX12_findSteady_109 : decode cX12_findSteady 109 = .ok (.iload_n 3, 1) ∧ 109 + 1 = 110 := ⟨by decide +kernel, rfl⟩
set_option maxRecDepth 20000 in
theorem dX12_findSteady_110 : decode cX12_findSteady 110 = .ok (.iconst 0, 1) ∧ 110 + 1 = 111 := ⟨by decide +kernel, rfl⟩
set_option maxRecDepth 20000 in
theorem dX12_findSteady_111 : decode cX12_findSteady 111 = .ok (.iload 8, 2) ∧ 111 + 2 = 113 := ⟨by decide +kernel, rfl⟩
set_option maxRecDepth 20000 in
theorem dX12_findSteady_113 : decode cX12_findSteady 113 = .ok (.iload_n 1, 1) ∧ 113 + 1 = 114 := ⟨by decide +kernel, rfl⟩
set_option maxRecDepth 20000 in
theorem dX12_findSteady_114 : decode cX12_findSteady 114 = .ok (.iconst 2, 1) ∧ 114 + 1 = 115 := ⟨by decide +kernel, rfl⟩
set_option maxRecDepth 20000 in
theorem dX12_findSteady_115 : decode cX12_findSteady 115 = .ok (.idiv, 1) ∧ 115 + 1 = 116 := ⟨by decide +kernel, rfl⟩
set_option maxRecDepth 20000 in
theorem dX12_findSteady_116 : decode cX12_findSteady 116 = .ok (.iconst 1, 1) ∧ 116 + 1 = 117 := ⟨by decide +kernel, rfl⟩
set_option maxRecDepth 20000 in
theorem dX12_findSteady_117 : decode cX12_findSteady 117 = .ok (.iadd, 1) ∧ 117 + 1 = 118 := ⟨by decide +kernel, rfl⟩
set_option maxRecDepth 20000 in
theorem dX12_findSteady_118 : decode cX12_findSteady 118 = .ok (.invokevirtual 380, 3) ∧ 118 + 3 = 121 := ⟨by decide +kernel, rfl⟩
set_option maxRecDepth 20000 in
theorem dX12_findSteady_121 : decode cX12_findSteady 121 = .ok (.lstore 9, 2) ∧ 121 + 2 = 123 := ⟨by decide +kernel, rfl⟩
set_option maxRecDepth 20000 in
theorem dX12_findSteady_123 : decode cX12_findSteady 123 = .ok (.lload 9, 2) ∧ 123 + 2 = 125 := ⟨by decide +kernel, rfl⟩
set_option maxRecDepth 20000 in
theorem dX12_findSteady_125 : decode cX12_findSteady 125 = .ok (.lload 6, 2) ∧ 125 + 2 = 127 := ⟨by decide +kernel, rfl⟩
set_option maxRecDepth 20000 in
theorem dX12_findSteady_127 : decode cX12_findSteady 127 = .ok (.lcmp, 1) ∧ 127 + 1 = 128 := ⟨by decide +kernel, rfl⟩
set_option maxRecDepth 20000 in
theorem dX12_findSteady_128 : decode cX12_findSteady 128 = .ok (.ifCond .ge 8, 3) ∧ 128 + 3 = 131 ∧ ((128 : Nat) : Int) + (8) = ((136 : Nat) : Int) := ⟨by decide +kernel, rfl, by decide⟩
set_option maxRecDepth 20000 in
theorem dX12_findSteady_131 : decode cX12_findSteady 131 = .ok (.lload 9, 2) ∧ 131 + 2 = 133 := ⟨by decide +kernel, rfl⟩
set_option maxRecDepth 20000 in
theorem dX12_findSteady_133 : decode cX12_findSteady 133 = .ok (.goto 5, 3) ∧ ((133 : Nat) : Int) + (5) = ((138 : Nat) : Int) := ⟨by decide +kernel, by decide⟩
set_option maxRecDepth 20000 in
theorem dX12_findSteady_136 : decode cX12_findSteady 136 = .ok (.lload 6, 2) ∧ 136 + 2 = 138 := ⟨by decide +kernel, rfl⟩
set_option maxRecDepth 20000 in
theorem dX12_findSteady_138 : decode cX12_findSteady 138 = .ok (.lstore 6, 2) ∧ 138 + 2 = 140 := ⟨by decide +kernel, rfl⟩
set_option maxRecDepth 20000 in
theorem dX12_findSteady_140 : decode cX12_findSteady 140 = .ok (.iinc 8 1, 3) ∧ 140 + 3 = 143 := ⟨by decide +kernel, rfl⟩
set_option maxRecDepth 20000 in
theorem dX12_findSteady_143 : decode cX12_findSteady 143 = .ok (.goto (-97), 3) ∧ ((143 : Nat) : Int) + (-97) = ((46 : Nat) : Int) := ⟨by decide +kernel, by decide⟩
set_option maxRecDepth 20000 in
theorem dX12_findSteady_146 : decode cX12_findSteady 146 = .ok (.iload_n 2, 1) ∧ 146 + 1 = 147 := ⟨by decide +kernel, rfl⟩
set_option maxRecDepth 20000 in
theorem dX12_findSteady_147 : decode cX12_findSteady 147 = .ok (.iconst (-1), 1) ∧ 147 + 1 = 148 := ⟨by decide +kernel, rfl⟩
set_option maxRecDepth 20000 in
theorem dX12_findSteady_148 : decode cX12_findSteady 148 = .ok (.if_icmp .eq 16, 3) ∧ 148 + 3 = 151 ∧ ((148 : Nat) : Int) + (16) = ((164 : Nat) : Int) := ⟨by decide +kernel, rfl, by decide⟩
set_option maxRecDepth 20000 in
theorem dX12_findSteady_151 : decode cX12_findSteady 151 = .ok (.lload 4, 2) ∧ 151 + 2 = 153 := ⟨by decide +kernel, rfl⟩
set_option maxRecDepth 20000 in
theorem dX12_findSteady_153 : decode cX12_findSteady 153 = .ok (.lload 6, 2) ∧ 153 + 2 = 155 := ⟨by decide +kernel, rfl⟩
set_option maxRecDepth 20000 in
theorem dX12_findSteady_155 : decode cX12_findSteady 155 = .ok (.lsub, 1) ∧ 155 + 1 = 156 := ⟨by decide +kernel, rfl⟩
set_option maxRecDepth 20000 in
theorem dX12_findSteady_156 : decode cX12_findSteady 156 = .ok (.aload_n 0, 1) ∧ 156 + 1 = 157 := ⟨by decide +kernel, rfl⟩
set_option maxRecDepth 20000 in
theorem dX12_findSteady_157 : decode cX12_findSteady 157 = .ok (.getfield 445, 3) ∧ 157 + 3 = 160 := ⟨by decide +kernel, rfl⟩
set_option maxRecDepth 20000 in
theorem dX12_findSteady_160 : decode cX12_findSteady 160 = .ok (.lcmp, 1) ∧ 160 + 1 = 161 := ⟨by decide +kernel, rfl⟩
set_option maxRecDepth 20000 in
theorem dX12_findSteady_161 : decode cX12_findSteady 161 = .ok (.ifCond .ge 19, 3) ∧ 161 + 3 = 164 ∧ ((161 : Nat) : Int) + (19) = ((180 : Nat) : Int) := ⟨by decide +kernel, rfl, by decide⟩
set_option maxRecDepth 20000 in
theorem dX12_findSteady_164 : decode cX12_findSteady 164 = .ok (.iload_n 3, 1) ∧ 164 + 1 = 165 := ⟨by decide +kernel, rfl⟩
set_option maxRecDepth 20000 in
theorem dX12_findSteady_165 : decode cX12_findSteady 165 = .ok (.istore_n 2, 1) ∧ 165 + 1 = 166 := ⟨by decide +kernel, rfl⟩
set_option maxRecDepth 20000 in
theorem dX12_findSteady_166 : decode cX12_findSteady 166 = .ok (.aload_n 0, 1) ∧ 166 + 1 = 167 := ⟨by decide +kernel, rfl⟩
set_option maxRecDepth 20000 in
theorem dX12_findSteady_167 : decode cX12_findSteady 167 = .ok (.lload 4, 2) ∧ 167 + 2 = 169 := ⟨by decide +kernel, rfl⟩
set_option maxRecDepth 20000 in
theorem dX12_findSteady_169 : decode cX12_findSteady 169 = .ok (.lload 6, 2) ∧ 169 + 2 = 171 := ⟨by decide +kernel, rfl⟩
set_option maxRecDepth 20000 in
theorem dX12_findSteady_171 : decode cX12_findSteady 171 = .ok (.lsub, 1) ∧ 171 + 1 = 172 := ⟨by decide +kernel, rfl⟩
set_option maxRecDepth 20000 in
theorem dX12_findSteady_172 : decode cX12_findSteady 172 = .ok (.putfield 445, 3) ∧ 172 + 3 = 175 := ⟨by decide +kernel, rfl⟩
set_option maxRecDepth 20000 in
theorem dX12_findSteady_175 : decode cX12_findSteady 175 = .ok (.aload_n 0, 1) ∧ 175 + 1 = 176 := ⟨by decide +kernel, rfl⟩
set_option maxRecDepth 20000 in
theorem dX12_findSteady_176 : decode cX12_findSteady 176 = .ok (.iconst 0, 1) ∧ 176 + 1 = 177 := ⟨by decide +kernel, rfl⟩
set_option maxRecDepth 20000 in
theorem dX12_findSteady_177 : decode cX12_findSteady 177 = .ok (.putfield 442, 3) ∧ 177 + 3 = 180 := ⟨by decide +kernel, rfl⟩
set_option maxRecDepth 20000 in
theorem dX12_findSteady_180 : decode cX12_findSteady 180 = .ok (.aload_n 0, 1) ∧ 180 + 1 = 181 := ⟨by decide +kernel, rfl⟩
set_option maxRecDepth 20000 in
theorem dX12_findSteady_181 : decode cX12_findSteady 181 = .ok (.dup, 1) ∧ 181 + 1 = 182 := ⟨by decide +kernel, rfl⟩
set_option maxRecDepth 20000 in
theorem dX12_findSteady_182 : decode cX12_findSteady 182 = .ok (.getfield 442, 3) ∧ 182 + 3 = 185 := ⟨by decide +kernel, rfl⟩
set_option maxRecDepth 20000 in
theorem dX12_findSteady_185 : decode cX12_findSteady 185 = .ok (.lload 4, 2) ∧ 185 + 2 = 187 := ⟨by decide +kernel, rfl⟩
set_option maxRecDepth 20000 in
theorem dX12_findSteady_187 : decode cX12_findSteady 187 = .ok (.lload 6, 2) ∧ 187 + 2 = 189 := ⟨by decide +kernel, rfl⟩
set_option maxRecDepth 20000 in
theorem dX12_findSteady_189 : decode cX12_findSteady 189 = .ok (.lsub, 1) ∧ 189 + 1 = 190 := ⟨by decide +kernel, rfl⟩
set_option maxRecDepth 20000 in
theorem dX12_findSteady_190 : decode cX12_findSteady 190 = .ok (.aload_n 0, 1) ∧ 190 + 1 = 191 := ⟨by decide +kernel, rfl⟩
set_option maxRecDepth 20000 in
theorem dX12_findSteady_191 : decode cX12_findSteady 191 = .ok (.getfield 445, 3) ∧ 191 + 3 = 194 := ⟨by decide +kernel, rfl⟩
set_option maxRecDepth 20000 in
theorem dX12_findSteady_194 : decode cX12_findSteady 194 = .ok (.lcmp, 1) ∧ 194 + 1 = 195 := ⟨by decide +kernel, rfl⟩
set_option maxRecDepth 20000 in
theorem dX12_findSteady_195 : decode cX12_findSteady 195 = .ok (.ifCond .ne 7, 3) ∧ 195 + 3 = 198 ∧ ((195 : Nat) : Int) + (7) = ((202 : Nat) : Int) := ⟨by decide +kernel, rfl, by decide⟩
set_option maxRecDepth 20000 in
theorem dX12_findSteady_198 : decode cX12_findSteady 198 = .ok (.iconst 1, 1) ∧ 198 + 1 = 199 := ⟨by decide +kernel, rfl⟩
set_option maxRecDepth 20000 in
theorem dX12_findSteady_199 : decode cX12_findSteady 199 = .ok (.goto 4, 3) ∧ ((199 : Nat) : Int) + (4) = ((203 : Nat) : Int) := ⟨by decide +kernel, by decide⟩
set_option maxRecDepth 20000 in
theorem dX12_findSteady_202 : decode cX12_findSteady 202 = .ok (.iconst 0, 1) ∧ 202 + 1 = 203 := ⟨by decide +kernel, rfl⟩
set_option maxRecDepth 20000 in
theorem dX12_findSteady_203 : decode cX12_findSteady 203 = .ok (.iadd, 1) ∧ 203 + 1 = 204 := ⟨by decide +kernel, rfl⟩
set_option maxRecDepth 20000 in
theorem dX12_findSteady_204 : decode cX12_findSteady 204 = .ok (.putfield 442, 3) ∧ 204 + 3 = 207 := ⟨by decide +kernel, rfl⟩
set_option maxRecDepth 20000 in
theorem dX12_findSteady_207 : decode cX12_findSteady 207 = .ok (.iinc 3 1, 3) ∧ 207 + 3 = 210 := ⟨by decide +kernel, rfl⟩
set_option maxRecDepth 20000 in
theorem dX12_findSteady_210 : decode cX12_findSteady 210 = .ok (.goto (-197), 3) ∧ ((210 : Nat) : Int) + (-197) = ((13 : Nat) : Int) := ⟨by decide +kernel, by decide⟩
set_option maxRecDepth 20000 in
theorem dX12_findSteady_213 : decode cX12_findSteady 213 = .ok (.iload_n 2, 1) ∧ 213 + 1 = 214 := ⟨by decide +kernel, rfl⟩
set_option maxRecDepth 20000 in
theorem dX12_findSteady_214 : decode cX12_findSteady 214 = .ok (.ireturn, 1) := by decide +kernel
set_option maxRecDepth 20000 in
theorem dX12_steady_0 : decode cX12_steady 0 = .ok (.aload_n 0, 1) ∧ 0 + 1 = 1 := ⟨by decide +kernel, rfl⟩
set_option maxRecDepth 20000 in
theorem dX12_steady_1 : decode cX12_steady 1 = .ok (.iconst 0, 1) ∧ 1 + 1 = 2 := ⟨by decide +kernel, rfl⟩
set_option maxRecDepth 20000 in
theorem dX12_steady_2 : decode cX12_steady 2 = .ok (.putfield 124, 3) ∧ 2 + 3 = 5 := ⟨by decide +kernel, rfl⟩
set_option maxRecDepth 20000 in
theorem dX12_steady_5 : decode cX12_steady 5 = .ok (.iload_n 1, 1) ∧ 5 + 1 = 6 := ⟨by decide +kernel, rfl⟩
set_option maxRecDepth 20000 in
theorem dX12_steady_6 : decode cX12_steady 6 = .ok (.i2l, 1) ∧ 6 + 1 = 7 := ⟨by decide +kernel, rfl⟩
set_option maxRecDepth 20000 in
theorem dX12_steady_7 : decode cX12_steady 7 = .ok (.lconst 1, 1) ∧ 7 + 1 = 8 := ⟨by decide +kernel, rfl⟩
set_option maxRecDepth 20000 in
theorem dX12_steady_8 : decode cX12_steady 8 = .ok (.aload_n 0, 1) ∧ 8 + 1 = 9 := ⟨by decide +kernel, rfl⟩
set_option maxRecDepth 20000 in
theorem dX12_steady_9 : decode cX12_steady 9 = .ok (.getfield 13, 3) ∧ 9 + 3 = 12 := ⟨by decide +kernel, rfl⟩
set_option maxRecDepth 20000 in
theorem dX12_steady_12 : decode cX12_steady 12 = .ok (.iconst 0, 1) ∧ 12 + 1 = 13 := ⟨by decide +kernel, rfl⟩
set_option maxRecDepth 20000 in
theorem dX12_steady_13 : decode cX12_steady 13 = .ok (.iaload, 1) ∧ 13 + 1 = 14 := ⟨by decide +kernel, rfl⟩
set_option maxRecDepth 20000 in
theorem dX12_steady_14 : decode cX12_steady 14 = .ok (.i2l, 1) ∧ 14 + 1 = 15 := ⟨by decide +kernel, rfl⟩
set_option maxRecDepth 20000 in
theorem dX12_steady_15 : decode cX12_steady 15 = .ok (.invokestatic 134, 3) ∧ 15 + 3 = 18 := ⟨by decide +kernel, rfl⟩
set_option maxRecDepth 20000 in
theorem dX12_steady_18 : decode cX12_steady 18 = .ok (.ifCond .eq 13, 3) ∧ 18 + 3 = 21 ∧ ((18 : Nat) : Int) + (13) = ((31 : Nat) : Int) := ⟨by decide +kernel, rfl, by decide⟩
set_option maxRecDepth 20000 in
theorem dX12_steady_21 : decode cX12_steady 21 = .ok (.iload_n 2, 1) ∧ 21 + 1 = 22 := ⟨by decide +kernel, rfl⟩
set_option maxRecDepth 20000 in
theorem dX12_steady_22 : decode cX12_steady 22 = .ok (.i2l, 1) ∧ 22 + 1 = 23 := ⟨by decide +kernel, rfl⟩
set_option maxRecDepth 20000 in
theorem dX12_steady_23 : decode cX12_steady 23 = .ok (.lconst 0, 1) ∧ 23 + 1 = 24 := ⟨by decide +kernel, rfl⟩
set_option maxRecDepth 20000 in
theorem dX12_steady_24 : decode cX12_steady 24 = .ok (.lconst 1, 1) ∧ 24 + 1 = 25 := ⟨by decide +kernel, rfl⟩
set_option maxRecDepth 20000 in
theorem dX12_steady_25 : decode cX12_steady 25 = .ok (.invokestatic 134, 3) ∧ 25 + 3 = 28 := ⟨by decide +kernel, rfl⟩
set_option maxRecDepth 20000 in
theorem dX12_steady_28 : decode cX12_steady 28 = .ok (.ifCond .ne 5, 3) ∧ 28 + 3 = 31 ∧ ((28 : Nat) : Int) + (5) = ((33 : Nat) : Int) := ⟨by decide +kernel, rfl, by decide⟩
set_option maxRecDepth 20000 in
theorem dX12_steady_31 : decode cX12_steady 31 = .ok (.iconst (-1), 1) ∧ 31 + 1 = 32 := ⟨by decide +kernel, rfl⟩
set_option maxRecDepth 20000 in
theorem dX12_steady_32 : decode cX12_steady 32 = .ok (.ireturn, 1) := by decide +kernel
set_option maxRecDepth 20000 in
theorem dX12_steady_33 : decode cX12_steady 33 = .ok (.aload_n 0, 1) ∧ 33 + 1 = 34 := ⟨by decide +kernel, rfl⟩
set_option maxRecDepth 20000 in
theorem dX12_steady_34 : decode cX12_steady 34 = .ok (.iload_n 1, 1) ∧ 34 + 1 = 35 := ⟨by decide +kernel, rfl⟩
set_option maxRecDepth 20000 in
theorem dX12_steady_35 : decode cX12_steady 35 = .ok (.invokevirtual 448, 3) ∧ 35 + 3 = 38 := ⟨by decide +kernel, rfl⟩
set_option maxRecDepth 20000 in
theorem dX12_steady_38 : decode cX12_steady 38 = .ok (.istore_n 3, 1) ∧ 38 + 1 = 39 := ⟨by decide +kernel, rfl⟩
set_option maxRecDepth 20000 in
theorem dX12_steady_39 : decode cX12_steady 39 = .ok (.iload_n 2, 1) ∧ 39 + 1 = 40 := ⟨by decide +kernel, rfl⟩
set_option maxRecDepth 20000 in
theorem dX12_steady_40 : decode cX12_steady 40 = .ok (.ifCond .ne 7, 3) ∧ 40 + 3 = 43 ∧ ((40 : Nat) : Int) + (7) = ((47 : Nat) : Int) := ⟨by decide +kernel, rfl, by decide⟩
set_option maxRecDepth 20000 in
theorem dX12_steady_43 : decode cX12_steady 43 = .ok (.iload_n 3, 1) ∧ 43 + 1 = 44 := ⟨by decide +kernel, rfl⟩
set_option maxRecDepth 20000 in
theorem dX12_steady_44 : decode cX12_steady 44 = .ok (.goto 7, 3) ∧ ((44 : Nat) : Int) + (7) = ((51 : Nat) : Int) := ⟨by decide +kernel, by decide⟩
set_option maxRecDepth 20000 in
theorem dX12_steady_47 : decode cX12_steady 47 = .ok (.aload_n 0, 1) ∧ 47 + 1 = 48 := ⟨by decide +kernel, rfl⟩
set_option maxRecDepth 20000 in
theorem dX12_steady_48 : decode cX12_steady 48 = .ok (.getfield 442, 3) ∧ 48 + 3 = 51 := ⟨by decide +kernel, rfl⟩
set_option maxRecDepth 20000 in
theorem dX12_steady_51 : decode cX12_steady 51 = .ok (.ireturn, 1) := by decide +kernel
set_option maxRecDepth 20000 in
theorem dX12_swing_0 : decode cX12_swing 0 = .ok (.aload_n 0, 1) ∧ 0 + 1 = 1 := ⟨by decide +kernel, rfl⟩
set_option maxRecDepth 20000 in
theorem dX12_swing_1 : decode cX12_swing 1 = .ok (.iconst 0, 1) ∧ 1 + 1 = 2 := ⟨by decide +kernel, rfl⟩
set_option maxRecDepth 20000 in
theorem dX12_swing_2 : decode cX12_swing 2 = .ok (.putfield 124, 3) ∧ 2 + 3 = 5 := ⟨by decide +kernel, rfl⟩
set_option maxRecDepth 20000 in
theorem dX12_swing_5 : decode cX12_swing 5 = .ok (.iload_n 1, 1) ∧ 5 + 1 = 6 := ⟨by decide +kernel, rfl⟩
set_option maxRecDepth 20000 in
theorem dX12_swing_6 : decode cX12_swing 6 = .ok (.i2l, 1) ∧ 6 + 1 = 7 := ⟨by decide +kernel, rfl⟩
set_option maxRecDepth 20000 in
theorem dX12_swing_7 : decode cX12_swing 7 = .ok (.lconst 1, 1) ∧ 7 + 1 = 8 := ⟨by decide +kernel, rfl⟩
set_option maxRecDepth 20000 in
theorem dX12_swing_8 : decode cX12_swing 8 = .ok (.aload_n 0, 1) ∧ 8 + 1 = 9 := ⟨by decide +kernel, rfl⟩
set_option maxRecDepth 20000 in
theorem dX12_swing_9 : decode cX12_swing 9 = .ok (.getfield 13, 3) ∧ 9 + 3 = 12 := ⟨by decide +kernel, rfl⟩
set_option maxRecDepth 20000 in
theorem dX12_swing_12 : decode cX12_swing 12 = .ok (.iconst 0, 1) ∧ 12 + 1 = 13 := ⟨by decide +kernel, rfl⟩
set_option maxRecDepth 20000 in
theorem dX12_swing_13 : decode cX12_swing 13 = .ok (.iaload, 1) ∧ 13 + 1 = 14 := ⟨by decide +kernel, rfl⟩
set_option maxRecDepth 20000 in
theorem dX12_swing_14 : decode cX12_swing 14 = .ok (.i2l, 1) ∧ 14 + 1 = 15 := ⟨by decide +kernel, rfl⟩
set_option maxRecDepth 20000 in
theorem dX12_swing_15 : decode cX12_swing 15 = .ok (.invokestatic 134, 3) ∧ 15 + 3 = 18 := ⟨by decide +kernel, rfl⟩
set_option maxRecDepth 20000 in
theorem dX12_swing_18 : decode cX12_swing 18 = .ok (.ifCond .ne 7, 3) ∧ 18 + 3 = 21 ∧ ((18 : Nat) : Int) + (7) = ((25 : Nat) : Int) := ⟨by decide +kernel, rfl, by decide⟩
set_option maxRecDepth 20000 in
theorem dX12_swing_21 : decode cX12_swing 21 = .ok (.ldc2_w 221, 3) ∧ 21 + 3 = 24 := ⟨by decide +kernel, rfl⟩
set_option maxRecDepth 20000 in
theorem dX12_swing_24 : decode cX12_swing 24 = .ok (.lreturn, 1) := by decide +kernel
set_option maxRecDepth 20000 in
theorem dX12_swing_25 : decode cX12_swing 25 = .ok (.aload_n 0, 1) ∧ 25 + 1 = 26 := ⟨by decide +kernel, rfl⟩
set_option maxRecDepth 20000 in
theorem dX12_swing_26 : decode cX12_swing 26 = .ok (.iload_n 1, 1) ∧ 26 + 1 = 27 := ⟨by decide +kernel, rfl⟩
set_option maxRecDepth 20000 in
theorem dX12_swing_27 : decode cX12_swing 27 = .ok (.invokevirtual 448, 3) ∧ 27 + 3 = 30 := ⟨by decide +kernel, rfl⟩
set_option maxRecDepth 20000 in
theorem dX12_swing_30 : decode cX12_swing 30 = .ok (.istore_n 2, 1) ∧ 30 + 1 = 31 := ⟨by decide +kernel, rfl⟩
set_option maxRecDepth 20000 in
theorem dX12_swing_31 : decode cX12_swing 31 = .ok (.iload_n 2, 1) ∧ 31 + 1 = 32 := ⟨by decide +kernel, rfl⟩
set_option maxRecDepth 20000 in
theorem dX12_swing_32 : decode cX12_swing 32 = .ok (.iconst (-1), 1) ∧ 32 + 1 = 33 := ⟨by decide +kernel, rfl⟩
set_option maxRecDepth 20000 in
theorem dX12_swing_33 : decode cX12_swing 33 = .ok (.if_icmp .ne 9, 3) ∧ 33 + 3 = 36 ∧ ((33 : Nat) : Int) + (9) = ((42 : Nat) : Int) := ⟨by decide +kernel, rfl, by decide⟩
set_option maxRecDepth 20000 in
theorem dX12_swing_36 : decode cX12_swing 36 = .ok (.ldc2_w 221, 3) ∧ 36 + 3 = 39 := ⟨by decide +kernel, rfl⟩
set_option maxRecDepth 20000 in
theorem dX12_swing_39 : decode cX12_swing 39 = .ok (.goto 7, 3) ∧ ((39 : Nat) : Int) + (7) = ((46 : Nat) : Int) := ⟨by decide +kernel, by decide⟩
set_option maxRecDepth 20000 in
theorem dX12_swing_42 : decode cX12_swing 42 = .ok (.aload_n 0, 1) ∧ 42 + 1 = 43 := ⟨by decide +kernel, rfl⟩
set_option maxRecDepth 20000 in
theorem dX12_swing_43 : decode cX12_swing 43 = .ok (.getfield 445, 3) ∧ 43 + 3 = 46 := ⟨by decide +kernel, rfl⟩
set_option maxRecDepth 20000 in
theorem dX12_swing_46 : decode cX12_swing 46 = .ok (.lreturn, 1) := by decide +kernel
set_option maxRecDepth 20000 in
theorem dX12_fairest_0 : decode cX12_fairest 0 = .ok (.aload_n 0, 1) ∧ 0 + 1 = 1 := ⟨by decide +kernel, rfl⟩
set_option maxRecDepth 20000 in
theorem dX12_fairest_1 : decode cX12_fairest 1 = .ok (.iconst 0, 1) ∧ 1 + 1 = 2 := ⟨by decide +kernel, rfl⟩
set_option maxRecDepth 20000 in
theorem dX12_fairest_2 : decode cX12_fairest 2 = .ok (.putfield 124, 3) ∧ 2 + 3 = 5 := ⟨by decide +kernel, rfl⟩
set_option maxRecDepth 20000 in
theorem dX12_fairest_5 : decode cX12_fairest 5 = .ok (.aload_n 0, 1) ∧ 5 + 1 = 6 := ⟨by decide +kernel, rfl⟩
set_option maxRecDepth 20000 in
theorem dX12_fairest_6 : decode cX12_fairest 6 = .ok (.getfield 13, 3) ∧ 6 + 3 = 9 := ⟨by decide +kernel, rfl⟩
set_option maxRecDepth 20000 in
theorem dX12_fairest_9 : decode cX12_fairest 9 = .ok (.iconst 4, 1) ∧ 9 + 1 = 10 := ⟨by decide +kernel, rfl⟩
set_option maxRecDepth 20000 in
theorem dX12_fairest_10 : decode cX12_fairest 10 = .ok (.iaload, 1) ∧ 10 + 1 = 11 := ⟨by decide +kernel, rfl⟩
set_option maxRecDepth 20000 in
theorem dX12_fairest_11 : decode cX12_fairest 11 = .ok (.invokestatic 435, 3) ∧ 11 + 3 = 14 := ⟨by decide +kernel, rfl⟩
set_option maxRecDepth 20000 in
theorem dX12_fairest_14 : decode cX12_fairest 14 = .ok (.invokestatic 431, 3) ∧ 14 + 3 = 17 := ⟨by decide +kernel, rfl⟩
set_option maxRecDepth 20000 in
theorem dX12_fairest_17 : decode cX12_fairest 17 = .ok (.lstore_n 1, 1) ∧ 17 + 1 = 18 := ⟨by decide +kernel, rfl⟩
set_option maxRecDepth 20000 in
theorem dX12_fairest_18 : decode cX12_fairest 18 = .ok (.iconst 0, 1) ∧ 18 + 1 = 19 := ⟨by decide +kernel, rfl⟩
set_option maxRecDepth 20000 in
theorem dX12_fairest_19 : decode cX12_fairest 19 = .ok (.istore_n 3, 1) ∧ 19 + 1 = 20 := ⟨by decide +kernel, rfl⟩
set_option maxRecDepth 20000 in
theorem dX12_fairest_20 : decode cX12_fairest 20 = .ok (.ldc2_w 221, 3) ∧ 20 + 3 = 23 := ⟨by decide +kernel, rfl⟩
set_option maxRecDepth 20000 in
theorem dX12_fairest_23 : decode cX12_fairest 23 = .ok (.lstore 4, 2) ∧ 23 + 2 = 25 := ⟨by decide +kernel, rfl⟩
set_option maxRecDepth 20000 in
theorem dX12_fairest_25 : decode cX12_fairest 25 = .ok (.iconst 0, 1) ∧ 25 + 1 = 26 := ⟨by decide +kernel, rfl⟩
set_option maxRecDepth 20000 in
theorem dX12_fairest_26 : decode cX12_fairest 26 = .ok (.istore 6, 2) ∧ 26 + 2 = 28 := ⟨by decide +kernel, rfl⟩
set_option maxRecDepth 20000 in
theorem dX12_fairest_28 : decode cX12_fairest 28 = .ok (.iload 6, 2) ∧ 28 + 2 = 30 := ⟨by decide +kernel, rfl⟩
set_option maxRecDepth 20000 in
theorem dX12_fairest_30 : decode cX12_fairest 30 = .ok (.bipush 24, 2) ∧ 30 + 2 = 32 := ⟨by decide +kernel, rfl⟩
set_option maxRecDepth 20000 in
theorem dX12_fairest_32 : decode cX12_fairest 32 = .ok (.if_icmp .ge 102, 3) ∧ 32 + 3 = 35 ∧ ((32 : Nat) : Int) + (102) = ((134 : Nat) : Int) := ⟨by decide +kernel, rfl, by decide⟩
set_option maxRecDepth 20000 in
theorem dX12_fairest_35 : decode cX12_fairest 35 = .ok (.aload_n 0, 1) ∧ 35 + 1 = 36 := ⟨by decide +kernel, rfl⟩
set_option maxRecDepth 20000 in
theorem dX12_fairest_36 : decode cX12_fairest 36 = .ok (.iload 6, 2) ∧ 36 + 2 = 38 := ⟨by decide +kernel, rfl⟩
set_option maxRecDepth 20000 in
theorem dX12_fairest_38 : decode cX12_fairest 38 = .ok (.invokevirtual 371, 3) ∧ 38 + 3 = 41 := ⟨by decide +kernel, rfl⟩
set_option maxRecDepth 20000 in
theorem dX12_fairest_41 : decode cX12_fairest 41 = .ok (.ldc2_w 429, 3) ∧ 41 + 3 = 44 := ⟨by decide +kernel, rfl⟩
set_option maxRecDepth 20000 in
theorem dX12_fairest_44 : decode cX12_fairest 44 = .ok (.aload_n 0, 1) ∧ 44 + 1 = 45 := ⟨by decide +kernel, rfl⟩
set_option maxRecDepth 20000 in
theorem dX12_fairest_45 : decode cX12_fairest 45 = .ok (.aload_n 0, 1) ∧ 45 + 1 = 46 := ⟨by decide +kernel, rfl⟩
set_option maxRecDepth 20000 in
theorem dX12_fairest_46 : decode cX12_fairest 46 = .ok (.getfield 13, 3) ∧ 46 + 3 = 49 := ⟨by decide +kernel, rfl⟩
set_option maxRecDepth 20000 in
theorem dX12_fairest_49 : decode cX12_fairest 49 = .ok (.iconst 4, 1) ∧ 49 + 1 = 50 := ⟨by decide +kernel, rfl⟩
set_option maxRecDepth 20000 in
theorem dX12_fairest_50 : decode cX12_fairest 50 = .ok (.iaload, 1) ∧ 50 + 1 = 51 := ⟨by decide +kernel, rfl⟩
set_option maxRecDepth 20000 in
theorem dX12_fairest_51 : decode cX12_fairest 51 = .ok (.iconst 0, 1) ∧ 51 + 1 = 52 := ⟨by decide +kernel, rfl⟩
set_option maxRecDepth 20000 in
theorem dX12_fairest_52 : decode cX12_fairest 52 = .ok (.iconst 0, 1) ∧ 52 + 1 = 53 := ⟨by decide +kernel, rfl⟩
set_option maxRecDepth 20000 in
theorem dX12_fairest_53 : decode cX12_fairest 53 = .ok (.aload_n 0, 1) ∧ 53 + 1 = 54 := ⟨by decide +kernel, rfl⟩
set_option maxRecDepth 20000 in
theorem dX12_fairest_54 : decode cX12_fairest 54 = .ok (.invokevirtual 377, 3) ∧ 54 + 3 = 57 := ⟨by decide +kernel, rfl⟩
set_option maxRecDepth 20000 in
theorem dX12_fairest_57 : decode cX12_fairest 57 = .ok (.invokevirtual 380, 3) ∧ 57 + 3 = 60 := ⟨by decide +kernel, rfl⟩
set_option maxRecDepth 20000 in
theorem dX12_fairest_60 : decode cX12_fairest 60 = .ok (.lmul, 1) ∧ 60 + 1 = 61 := ⟨by decide +kernel, rfl⟩
set_option maxRecDepth 20000 in
theorem dX12_fairest_61 : decode cX12_fairest 61 = .ok (.lload_n 1, 1) ∧ 61 + 1 = 62 := ⟨by decide +kernel, rfl⟩
set_option maxRecDepth 20000 in
theorem dX12_fairest_62 : decode cX12_fairest 62 = .ok (.lsub, 1) ∧ 62 + 1 = 63 := ⟨by decide +kernel, rfl⟩
set_option maxRecDepth 20000 in
theorem dX12_fairest_63 : decode cX12_fairest 63 = .ok (.lstore 7, 2) ∧ 63 + 2 = 65 := ⟨by decide +kernel, rfl⟩
set_option maxRecDepth 20000 in
theorem dX12_fairest_65 : decode cX12_fairest 65 = .ok (.lload 7, 2) ∧ 65 + 2 = 67 := ⟨by decide +kernel, rfl⟩
set_option maxRecDepth 20000 in
theorem dX12_fairest_67 : decode cX12_fairest 67 = .ok (.lconst 0, 1) ∧ 67 + 1 = 68 := ⟨by decide +kernel, rfl⟩
set_option maxRecDepth 20000 in
theorem dX12_fairest_68 : decode cX12_fairest 68 = .ok (.lcmp, 1) ∧ 68 + 1 = 69 := ⟨by decide +kernel, rfl⟩
set_option maxRecDepth 20000 in
theorem dX12_fairest_69 : decode cX12_fairest 69 = .ok (.ifCond .ge 9, 3) ∧ 69 + 3 = 72 ∧ ((69 : Nat) : Int) + (9) = ((78 : Nat) : Int) := ⟨by decide +kernel, rfl, by decide⟩
set_option maxRecDepth 20000 in
theorem dX12_fairest_72 : decode cX12_fairest 72 = .ok (.lload 7, 2) ∧ 72 + 2 = 74 := ⟨by decide +kernel, rfl⟩
set_option maxRecDepth 20000 in
theorem dX12_fairest_74 : decode cX12_fairest 74 = .ok (.lneg, 1) ∧ 74 + 1 = 75 := ⟨by decide +kernel, rfl⟩
set_option maxRecDepth 20000 in
theorem dX12_fairest_75 : decode cX12_fairest 75 = .ok (.goto 5, 3) ∧ ((75 : Nat) : Int) + (5) = ((80 : Nat) : Int) := ⟨by decide +kernel, by decide⟩
set_option maxRecDepth 20000 in
theorem dX12_fairest_78 : decode cX12_fairest 78 = .ok (.lload 7, 2) ∧ 78 + 2 = 80 := ⟨by decide +kernel, rfl⟩
set_option maxRecDepth 20000 in
theorem dX12_fairest_80 : decode cX12_fairest 80 = .ok (.lstore 7, 2) ∧ 80 + 2 = 82 := ⟨by decide +kernel, rfl⟩
set_option maxRecDepth 20000 in
theorem dX12_fairest_82 : decode cX12_fairest 82 = .ok (.lload 4, 2) ∧ 82 + 2 = 84 := ⟨by decide +kernel, rfl⟩
set_option maxRecDepth 20000 in
theorem dX12_fairest_84 : decode cX12_fairest 84 = .ok (.lconst 0, 1) ∧ 84 + 1 = 85 := ⟨by decide +kernel, rfl⟩
set_option maxRecDepth 20000 in
theorem dX12_fairest_85 : decode cX12_fairest 85 = .ok (.lcmp, 1) ∧ 85 + 1 = 86 := ⟨by decide +kernel, rfl⟩
set_option maxRecDepth 20000 in
theorem dX12_fairest_86 : decode cX12_fairest 86 = .ok (.ifCond .lt 11, 3) ∧ 86 + 3 = 89 ∧ ((86 : Nat) : Int) + (11) = ((97 : Nat) : Int) := ⟨by decide +kernel, rfl, by decide⟩
set_option maxRecDepth 20000 in
theorem dX12_fairest_89 : decode cX12_fairest 89 = .ok (.lload 7, 2) ∧ 89 + 2 = 91 := ⟨by decide +kernel, rfl⟩
set_option maxRecDepth 20000 in
theorem dX12_fairest_91 : decode cX12_fairest 91 = .ok (.lload 4, 2) ∧ 91 + 2 = 93 := ⟨by decide +kernel, rfl⟩
set_option maxRecDepth 20000 in
theorem dX12_fairest_93 : decode cX12_fairest 93 = .ok (.lcmp, 1) ∧ 93 + 1 = 94 := ⟨by decide +kernel, rfl⟩
set_option maxRecDepth 20000 in
theorem dX12_fairest_94 : decode cX12_fairest 94 = .ok (.ifCond .ge 8, 3) ∧ 94 + 3 = 97 ∧ ((94 : Nat) : Int) + (8) = ((102 : Nat) : Int) := ⟨by decide +kernel, rfl, by decide⟩
set_option maxRecDepth 20000 in
theorem dX12_fairest_97 : decode cX12_fairest 97 = .ok (.iload 6, 2) ∧ 97 + 2 = 99 := ⟨by decide +kernel, rfl⟩
set_option maxRecDepth 20000 in
theorem dX12_fairest_99 : decode cX12_fairest 99 = .ok (.goto 4, 3) ∧ ((99 : Nat) : Int) + (4) = ((103 : Nat) : Int) := ⟨by decide +kernel, by decide⟩
set_option maxRecDepth 20000 in
theorem dX12_fairest_102 : decode cX12_fairest 102 = .ok (.iload_n 3, 1) ∧ 102 + 1 = 103 := ⟨by decide +kernel, rfl⟩
set_option maxRecDepth 20000 in
theorem dX12_fairest_103 : decode cX12_fairest 103 = .ok (.istore_n 3, 1) ∧ 103 + 1 = 104 := ⟨by decide +kernel, rfl⟩
set_option maxRecDepth 20000 in
theorem dX12_fairest_104 : decode cX12_fairest 104 = .ok (.lload 4, 2) ∧ 104 + 2 = 106 := ⟨by decide +kernel, rfl⟩
set_option maxRecDepth 20000 in
theorem dX12_fairest_106 : decode cX12_fairest 106 = .ok (.lconst 0, 1) ∧ 106 + 1 = 107 := ⟨by decide +kernel, rfl⟩
set_option maxRecDepth 20000 in
theorem dX12_fairest_107 : decode cX12_fairest 107 = .ok (.lcmp, 1) ∧ 107 + 1 = 108 := ⟨by decide +kernel, rfl⟩
set_option maxRecDepth 20000 in
theorem dX12_fairest_108 : decode cX12_fairest 108 = .ok (.ifCond .lt 11, 3) ∧ 108 + 3 = 111 ∧ ((108 : Nat) : Int) + (11) = ((119 : Nat) : Int) := ⟨by decide +kernel, rfl, by decide⟩
set_option maxRecDepth 20000 in
theorem dX12_fairest_111 : decode cX12_fairest 111 = .ok (.lload 7, 2) ∧ 111 + 2 = 113 := ⟨by decide +kernel, rfl⟩
set_option maxRecDepth 20000 in
theorem dX12_fairest_113 : decode cX12_fairest 113 = .ok (.lload 4, 2) ∧ 113 + 2 = 115 := ⟨by decide +kernel, rfl⟩
set_option maxRecDepth 20000 in
theorem dX12_fairest_115 : decode cX12_fairest 115 = .ok (.lcmp, 1) ∧ 115 + 1 = 116 := ⟨by decide +kernel, rfl⟩
set_option maxRecDepth 20000 in
theorem dX12_fairest_116 : decode cX12_fairest 116 = .ok (.ifCond .ge 8, 3) ∧ 116 + 3 = 119 ∧ ((116 : Nat) : Int) + (8) = ((124 : Nat) : Int) := ⟨by decide +kernel, rfl, by decide⟩
set_option maxRecDepth 20000 in
theorem dX12_fairest_119 : decode cX12_fairest 119 = .ok (.lload 7, 2) ∧ 119 + 2 = 121 := ⟨by decide +kernel, rfl⟩
set_option maxRecDepth 20000 in
theorem dX12_fairest_121 : decode cX12_fairest 121 = .ok (.goto 5, 3) ∧ ((121 : Nat) : Int) + (5) = ((126 : Nat) : Int) := ⟨by decide +kernel, by decide⟩
set_option maxRecDepth 20000 in
theorem dX12_fairest_124 : decode cX12_fairest 124 = .ok (.lload 4, 2) ∧ 124 + 2 = 126 := ⟨by decide +kernel, rfl⟩
set_option maxRecDepth 20000 in
theorem dX12_fairest_126 : decode cX12_fairest 126 = .ok (.lstore 4, 2) ∧ 126 + 2 = 128 := ⟨by decide +kernel, rfl⟩
set_option maxRecDepth 20000 in
theorem dX12_fairest_128 : decode cX12_fairest 128 = .ok (.iinc 6 1, 3) ∧ 128 + 3 = 131 := ⟨by decide +kernel, rfl⟩
set_option maxRecDepth 20000 in
theorem dX12_fairest_131 : decode cX12_fairest 131 = .ok (.goto (-103), 3) ∧ ((131 : Nat) : Int) + (-103) = ((28 : Nat) : Int) := ⟨by decide +kernel, by decide⟩
set_option maxRecDepth 20000 in
theorem dX12_fairest_134 : decode cX12_fairest 134 = .ok (.iload_n 3, 1) ∧ 134 + 1 = 135 := ⟨by decide +kernel, rfl⟩
set_option maxRecDepth 20000 in
theorem dX12_fairest_135 : decode cX12_fairest 135 = .ok (.ireturn, 1) := by decide +kernel
set_option maxRecDepth 20000 in
theorem dX12_isCase_0 : decode cX12_isCase 0 = .ok (.iload_n 0, 1) ∧ 0 + 1 = 1 := ⟨by decide +kernel, rfl⟩
set_option maxRecDepth 20000 in
theorem dX12_isCase_1 : decode cX12_isCase 1 = .ok (.invokestatic 358, 3) ∧ 1 + 3 = 4 := ⟨by decide +kernel, rfl⟩
set_option maxRecDepth 20000 in
theorem dX12_isCase_4 : decode cX12_isCase 4 = .ok (.ifCond .eq 39, 3) ∧ 4 + 3 = 7 ∧ ((4 : Nat) : Int) + (39) = ((43 : Nat) : Int) := ⟨by decide +kernel, rfl, by decide⟩
set_option maxRecDepth 20000 in
theorem dX12_isCase_7 : decode cX12_isCase 7 = .ok (.iload_n 1, 1) ∧ 7 + 1 = 8 := ⟨by decide +kernel, rfl⟩
set_option maxRecDepth 20000 in
theorem dX12_isCase_8 : decode cX12_isCase 8 = .ok (.i2l, 1) ∧ 8 + 1 = 9 := ⟨by decide +kernel, rfl⟩
set_option maxRecDepth 20000 in
theorem dX12_isCase_9 : decode cX12_isCase 9 = .ok (.lconst 0, 1) ∧ 9 + 1 = 10 := ⟨by decide +kernel, rfl⟩
set_option maxRecDepth 20000 in
theorem dX12_isCase_10 : decode cX12_isCase 10 = .ok (.ldc2_w 392, 3) ∧ 10 + 3 = 13 := ⟨by decide +kernel, rfl⟩
set_option maxRecDepth 20000 in
theorem dX12_isCase_13 : decode cX12_isCase 13 = .ok (.invokestatic 134, 3) ∧ 13 + 3 = 16 := ⟨by decide +kernel, rfl⟩
set_option maxRecDepth 20000 in
theorem dX12_isCase_16 : decode cX12_isCase 16 = .ok (.ifCond .eq 27, 3) ∧ 16 + 3 = 19 ∧ ((16 : Nat) : Int) + (27) = ((43 : Nat) : Int) := ⟨by decide +kernel, rfl, by decide⟩
set_option maxRecDepth 20000 in
theorem dX12_isCase_19 : decode cX12_isCase 19 = .ok (.iload_n 2, 1) ∧ 19 + 1 = 20 := ⟨by decide +kernel, rfl⟩
set_option maxRecDepth 20000 in
theorem dX12_isCase_20 : decode cX12_isCase 20 = .ok (.i2l, 1) ∧ 20 + 1 = 21 := ⟨by decide +kernel, rfl⟩
set_option maxRecDepth 20000 in
theorem dX12_isCase_21 : decode cX12_isCase 21 = .ok (.lconst 0, 1) ∧ 21 + 1 = 22 := ⟨by decide +kernel, rfl⟩
set_option maxRecDepth 20000 in
theorem dX12_isCase_22 : decode cX12_isCase 22 = .ok (.ldc2_w 392, 3) ∧ 22 + 3 = 25 := ⟨by decide +kernel, rfl⟩
set_option maxRecDepth 20000 in
theorem dX12_isCase_25 : decode cX12_isCase 25 = .ok (.invokestatic 134, 3) ∧ 25 + 3 = 28 := ⟨by decide +kernel, rfl⟩
set_option maxRecDepth 20000 in
theorem dX12_isCase_28 : decode cX12_isCase 28 = .ok (.ifCond .eq 15, 3) ∧ 28 + 3 = 31 ∧ ((28 : Nat) : Int) + (15) = ((43 : Nat) : Int) := ⟨by decide +kernel, rfl, by decide⟩
set_option maxRecDepth 20000 in
theorem dX12_isCase_31 : decode cX12_isCase 31 = .ok (.iload_n 2, 1) ∧ 31 + 1 = 32 := ⟨by decide +kernel, rfl⟩
set_option maxRecDepth 20000 in
theorem dX12_isCase_32 : decode cX12_isCase 32 = .ok (.iload_n 1, 1) ∧ 32 + 1 = 33 := ⟨by decide +kernel, rfl⟩
set_option maxRecDepth 20000 in
theorem dX12_isCase_33 : decode cX12_isCase 33 = .ok (.iconst (-1), 1) ∧ 33 + 1 = 34 := ⟨by decide +kernel, rfl⟩
set_option maxRecDepth 20000 in
theorem dX12_isCase_34 : decode cX12_isCase 34 = .ok (.ixor, 1) ∧ 34 + 1 = 35 := ⟨by decide +kernel, rfl⟩
set_option maxRecDepth 20000 in
theorem dX12_isCase_35 : decode cX12_isCase 35 = .ok (.iand, 1) ∧ 35 + 1 = 36 := ⟨by decide +kernel, rfl⟩
set_option maxRecDepth 20000 in
theorem dX12_isCase_36 : decode cX12_isCase 36 = .ok (.ifCond .ne 7, 3) ∧ 36 + 3 = 39 ∧ ((36 : Nat) : Int) + (7) = ((43 : Nat) : Int) := ⟨by decide +kernel, rfl, by decide⟩
set_option maxRecDepth 20000 in
theorem dX12_isCase_39 : decode cX12_isCase 39 = .ok (.iconst 1, 1) ∧ 39 + 1 = 40 := ⟨by decide +kernel, rfl⟩
set_option maxRecDepth 20000 in
theorem dX12_isCase_40 : decode cX12_isCase 40 = .ok (.goto 4, 3) ∧ ((40 : Nat) : Int) + (4) = ((44 : Nat) : Int) := ⟨by decide +kernel, by decide⟩
set_option maxRecDepth 20000 in
theorem dX12_isCase_43 : decode cX12_isCase 43 = .ok (.iconst 0, 1) ∧ 43 + 1 = 44 := ⟨by decide +kernel, rfl⟩
set_option maxRecDepth 20000 in
theorem dX12_isCase_44 : decode cX12_isCase 44 = .ok (.ireturn, 1) := by decide +kernel
set_option maxRecDepth 20000 in
theorem dX12_addCase_0 : decode cX12_addCase 0 = .ok (.bipush 110, 2) ∧ 0 + 2 = 2 := ⟨by decide +kernel, rfl⟩
set_option maxRecDepth 20000 in
theorem dX12_addCase_2 : decode cX12_addCase 2 = .ok (.iconst 3, 1) ∧ 2 + 1 = 3 := ⟨by decide +kernel, rfl⟩
set_option maxRecDepth 20000 in
theorem dX12_addCase_3 : decode cX12_addCase 3 = .ok (.aload_n 0, 1) ∧ 3 + 1 = 4 := ⟨by decide +kernel, rfl⟩
set_option maxRecDepth 20000 in
theorem dX12_addCase_4 : decode cX12_addCase 4 = .ok (.getfield 13, 3) ∧ 4 + 3 = 7 := ⟨by decide +kernel, rfl⟩
set_option maxRecDepth 20000 in
theorem dX12_addCase_7 : decode cX12_addCase 7 = .ok (.bipush 11, 2) ∧ 7 + 2 = 9 := ⟨by decide +kernel, rfl⟩
set_option maxRecDepth 20000 in
theorem dX12_addCase_9 : decode cX12_addCase 9 = .ok (.iaload, 1) ∧ 9 + 1 = 10 := ⟨by decide +kernel, rfl⟩
set_option maxRecDepth 20000 in
theorem dX12_addCase_10 : decode cX12_addCase 10 = .ok (.imul, 1) ∧ 10 + 1 = 11 := ⟨by decide +kernel, rfl⟩
set_option maxRecDepth 20000 in
theorem dX12_addCase_11 : decode cX12_addCase 11 = .ok (.iadd, 1) ∧ 11 + 1 = 12 := ⟨by decide +kernel, rfl⟩
set_option maxRecDepth 20000 in
theorem dX12_addCase_12 : decode cX12_addCase 12 = .ok (.istore 4, 2) ∧ 12 + 2 = 14 := ⟨by decide +kernel, rfl⟩
set_option maxRecDepth 20000 in
theorem dX12_addCase_14 : decode cX12_addCase 14 = .ok (.aload_n 0, 1) ∧ 14 + 1 = 15 := ⟨by decide +kernel, rfl⟩
set_option maxRecDepth 20000 in
theorem dX12_addCase_15 : decode cX12_addCase 15 = .ok (.getfield 13, 3) ∧ 15 + 3 = 18 := ⟨by decide +kernel, rfl⟩
set_option maxRecDepth 20000 in
theorem dX12_addCase_18 : decode cX12_addCase 18 = .ok (.iload 4, 2) ∧ 18 + 2 = 20 := ⟨by decide +kernel, rfl⟩
set_option maxRecDepth 20000 in
theorem dX12_addCase_20 : decode cX12_addCase 20 = .ok (.iload_n 1, 1) ∧ 20 + 1 = 21 := ⟨by decide +kernel, rfl⟩
set_option maxRecDepth 20000 in
theorem dX12_addCase_21 : decode cX12_addCase 21 = .ok (.iastore, 1) ∧ 21 + 1 = 22 := ⟨by decide +kernel, rfl⟩
set_option maxRecDepth 20000 in
theorem dX12_addCase_22 : decode cX12_addCase 22 = .ok (.aload_n 0, 1) ∧ 22 + 1 = 23 := ⟨by decide +kernel, rfl⟩
set_option maxRecDepth 20000 in
theorem dX12_addCase_23 : decode cX12_addCase 23 = .ok (.getfield 13, 3) ∧ 23 + 3 = 26 := ⟨by decide +kernel, rfl⟩
set_option maxRecDepth 20000 in
theorem dX12_addCase_26 : decode cX12_addCase 26 = .ok (.iload 4, 2) ∧ 26 + 2 = 28 := ⟨by decide +kernel, rfl⟩
set_option maxRecDepth 20000 in
theorem dX12_addCase_28 : decode cX12_addCase 28 = .ok (.iconst 1, 1) ∧ 28 + 1 = 29 := ⟨by decide +kernel, rfl⟩
set_option maxRecDepth 20000 in
theorem dX12_addCase_29 : decode cX12_addCase 29 = .ok (.iadd, 1) ∧ 29 + 1 = 30 := ⟨by decide +kernel, rfl⟩
set_option maxRecDepth 20000 in
theorem dX12_addCase_30 : decode cX12_addCase 30 = .ok (.iload_n 2, 1) ∧ 30 + 1 = 31 := ⟨by decide +kernel, rfl⟩
set_option maxRecDepth 20000 in
theorem dX12_addCase_31 : decode cX12_addCase 31 = .ok (.iastore, 1) ∧ 31 + 1 = 32 := ⟨by decide +kernel, rfl⟩
set_option maxRecDepth 20000 in
theorem dX12_addCase_32 : decode cX12_addCase 32 = .ok (.aload_n 0, 1) ∧ 32 + 1 = 33 := ⟨by decide +kernel, rfl⟩
set_option maxRecDepth 20000 in
theorem dX12_addCase_33 : decode cX12_addCase 33 = .ok (.getfield 13, 3) ∧ 33 + 3 = 36 := ⟨by decide +kernel, rfl⟩
set_option maxRecDepth 20000 in
theorem dX12_addCase_36 : decode cX12_addCase 36 = .ok (.iload 4, 2) ∧ 36 + 2 = 38 := ⟨by decide +kernel, rfl⟩
set_option maxRecDepth 20000 in
theorem dX12_addCase_38 : decode cX12_addCase 38 = .ok (.iconst 2, 1) ∧ 38 + 1 = 39 := ⟨by decide +kernel, rfl⟩
set_option maxRecDepth 20000 in
theorem dX12_addCase_39 : decode cX12_addCase 39 = .ok (.iadd, 1) ∧ 39 + 1 = 40 := ⟨by decide +kernel, rfl⟩
set_option maxRecDepth 20000 in
theorem dX12_addCase_40 : decode cX12_addCase 40 = .ok (.iload_n 3, 1) ∧ 40 + 1 = 41 := ⟨by decide +kernel, rfl⟩
set_option maxRecDepth 20000 in
theorem dX12_addCase_41 : decode cX12_addCase 41 = .ok (.iastore, 1) ∧ 41 + 1 = 42 := ⟨by decide +kernel, rfl⟩
set_option maxRecDepth 20000 in
theorem dX12_addCase_42 : decode cX12_addCase 42 = .ok (.aload_n 0, 1) ∧ 42 + 1 = 43 := ⟨by decide +kernel, rfl⟩
set_option maxRecDepth 20000 in
theorem dX12_addCase_43 : decode cX12_addCase 43 = .ok (.getfield 13, 3) ∧ 43 + 3 = 46 := ⟨by decide +kernel, rfl⟩
set_option maxRecDepth 20000 in
theorem dX12_addCase_46 : decode cX12_addCase 46 = .ok (.bipush 11, 2) ∧ 46 + 2 = 48 := ⟨by decide +kernel, rfl⟩
set_option maxRecDepth 20000 in
theorem dX12_addCase_48 : decode cX12_addCase 48 = .ok (.dup2, 1) ∧ 48 + 1 = 49 := ⟨by decide +kernel, rfl⟩
set_option maxRecDepth 20000 in
theorem dX12_addCase_49 : decode cX12_addCase 49 = .ok (.iaload, 1) ∧ 49 + 1 = 50 := ⟨by decide +kernel, rfl⟩
set_option maxRecDepth 20000 in
theorem dX12_addCase_50 : decode cX12_addCase 50 = .ok (.iconst 1, 1) ∧ 50 + 1 = 51 := ⟨by decide +kernel, rfl⟩
set_option maxRecDepth 20000 in
theorem dX12_addCase_51 : decode cX12_addCase 51 = .ok (.iadd, 1) ∧ 51 + 1 = 52 := ⟨by decide +kernel, rfl⟩
set_option maxRecDepth 20000 in
theorem dX12_addCase_52 : decode cX12_addCase 52 = .ok (.iastore, 1) ∧ 52 + 1 = 53 := ⟨by decide +kernel, rfl⟩
set_option maxRecDepth 20000 in
theorem dX12_addCase_53 : decode cX12_addCase 53 = .ok (.return_, 1) := by decide +kernel
set_option maxRecDepth 20000 in
theorem dX12_judged_0 : decode cX12_judged 0 = .ok (.aload_n 0, 1) ∧ 0 + 1 = 1 := ⟨by decide +kernel, rfl⟩
set_option maxRecDepth 20000 in
theorem dX12_judged_1 : decode cX12_judged 1 = .ok (.iconst 0, 1) ∧ 1 + 1 = 2 := ⟨by decide +kernel, rfl⟩
set_option maxRecDepth 20000 in
theorem dX12_judged_2 : decode cX12_judged 2 = .ok (.putfield 124, 3) ∧ 2 + 3 = 5 := ⟨by decide +kernel, rfl⟩
set_option maxRecDepth 20000 in
theorem dX12_judged_5 : decode cX12_judged 5 = .ok (.iload_n 1, 1) ∧ 5 + 1 = 6 := ⟨by decide +kernel, rfl⟩
set_option maxRecDepth 20000 in
theorem dX12_judged_6 : decode cX12_judged 6 = .ok (.iload_n 2, 1) ∧ 6 + 1 = 7 := ⟨by decide +kernel, rfl⟩
set_option maxRecDepth 20000 in
theorem dX12_judged_7 : decode cX12_judged 7 = .ok (.iload_n 3, 1) ∧ 7 + 1 = 8 := ⟨by decide +kernel, rfl⟩
set_option maxRecDepth 20000 in
theorem dX12_judged_8 : decode cX12_judged 8 = .ok (.invokestatic 451, 3) ∧ 8 + 3 = 11 := ⟨by decide +kernel, rfl⟩
set_option maxRecDepth 20000 in
theorem dX12_judged_11 : decode cX12_judged 11 = .ok (.ifCond .ne 9, 3) ∧ 11 + 3 = 14 ∧ ((11 : Nat) : Int) + (9) = ((20 : Nat) : Int) := ⟨by decide +kernel, rfl, by decide⟩
set_option maxRecDepth 20000 in
theorem dX12_judged_14 : decode cX12_judged 14 = .ok (.aload_n 0, 1) ∧ 14 + 1 = 15 := ⟨by decide +kernel, rfl⟩
set_option maxRecDepth 20000 in
theorem dX12_judged_15 : decode cX12_judged 15 = .ok (.iconst (-1), 1) ∧ 15 + 1 = 16 := ⟨by decide +kernel, rfl⟩
set_option maxRecDepth 20000 in
theorem dX12_judged_16 : decode cX12_judged 16 = .ok (.invokevirtual 138, 3) ∧ 16 + 3 = 19 := ⟨by decide +kernel, rfl⟩
set_option maxRecDepth 20000 in
theorem dX12_judged_19 : decode cX12_judged 19 = .ok (.ireturn, 1) := by decide +kernel
set_option maxRecDepth 20000 in
theorem dX12_judged_20 : decode cX12_judged 20 = .ok (.aload_n 0, 1) ∧ 20 + 1 = 21 := ⟨by decide +kernel, rfl⟩
set_option maxRecDepth 20000 in
theorem dX12_judged_21 : decode cX12_judged 21 = .ok (.getfield 13, 3) ∧ 21 + 3 = 24 := ⟨by decide +kernel, rfl⟩
set_option maxRecDepth 20000 in
theorem dX12_judged_24 : decode cX12_judged 24 = .ok (.bipush 11, 2) ∧ 24 + 2 = 26 := ⟨by decide +kernel, rfl⟩
set_option maxRecDepth 20000 in
theorem dX12_judged_26 : decode cX12_judged 26 = .ok (.iaload, 1) ∧ 26 + 1 = 27 := ⟨by decide +kernel, rfl⟩
set_option maxRecDepth 20000 in
theorem dX12_judged_27 : decode cX12_judged 27 = .ok (.bipush 20, 2) ∧ 27 + 2 = 29 := ⟨by decide +kernel, rfl⟩
set_option maxRecDepth 20000 in
theorem dX12_judged_29 : decode cX12_judged 29 = .ok (.if_icmp .ne 10, 3) ∧ 29 + 3 = 32 ∧ ((29 : Nat) : Int) + (10) = ((39 : Nat) : Int) := ⟨by decide +kernel, rfl, by decide⟩
set_option maxRecDepth 20000 in
theorem dX12_judged_32 : decode cX12_judged 32 = .ok (.aload_n 0, 1) ∧ 32 + 1 = 33 := ⟨by decide +kernel, rfl⟩
set_option maxRecDepth 20000 in
theorem dX12_judged_33 : decode cX12_judged 33 = .ok (.bipush (-5), 2) ∧ 33 + 2 = 35 := ⟨by decide +kernel, rfl⟩
set_option maxRecDepth 20000 in
theorem dX12_judged_35 : decode cX12_judged 35 = .ok (.invokevirtual 138, 3) ∧ 35 + 3 = 38 := ⟨by decide +kernel, rfl⟩
set_option maxRecDepth 20000 in
theorem dX12_judged_38 : decode cX12_judged 38 = .ok (.ireturn, 1) := by decide +kernel
set_option maxRecDepth 20000 in
theorem dX12_judged_39 : decode cX12_judged 39 = .ok (.aload_n 0, 1) ∧ 39 + 1 = 40 := ⟨by decide +kernel, rfl⟩
set_option maxRecDepth 20000 in
theorem dX12_judged_40 : decode cX12_judged 40 = .ok (.iload_n 1, 1) ∧ 40 + 1 = 41 := ⟨by decide +kernel, rfl⟩
set_option maxRecDepth 20000 in
theorem dX12_judged_41 : decode cX12_judged 41 = .ok (.iload_n 2, 1) ∧ 41 + 1 = 42 := ⟨by decide +kernel, rfl⟩
set_option maxRecDepth 20000 in
theorem dX12_judged_42 : decode cX12_judged 42 = .ok (.iload_n 3, 1) ∧ 42 + 1 = 43 := ⟨by decide +kernel, rfl⟩
set_option maxRecDepth 20000 in
theorem dX12_judged_43 : decode cX12_judged 43 = .ok (.invokevirtual 454, 3) ∧ 43 + 3 = 46 := ⟨by decide +kernel, rfl⟩
set_option maxRecDepth 20000 in
theorem dX12_judged_46 : decode cX12_judged 46 = .ok (.aload_n 0, 1) ∧ 46 + 1 = 47 := ⟨by decide +kernel, rfl⟩
set_option maxRecDepth 20000 in
theorem dX12_judged_47 : decode cX12_judged 47 = .ok (.aload_n 0, 1) ∧ 47 + 1 = 48 := ⟨by decide +kernel, rfl⟩
set_option maxRecDepth 20000 in
theorem dX12_judged_48 : decode cX12_judged 48 = .ok (.getfield 13, 3) ∧ 48 + 3 = 51 := ⟨by decide +kernel, rfl⟩
set_option maxRecDepth 20000 in
theorem dX12_judged_51 : decode cX12_judged 51 = .ok (.bipush 11, 2) ∧ 51 + 2 = 53 := ⟨by decide +kernel, rfl⟩
set_option maxRecDepth 20000 in
theorem dX12_judged_53 : decode cX12_judged 53 = .ok (.iaload, 1) ∧ 53 + 1 = 54 := ⟨by decide +kernel, rfl⟩
set_option maxRecDepth 20000 in
theorem dX12_judged_54 : decode cX12_judged 54 = .ok (.invokevirtual 138, 3) ∧ 54 + 3 = 57 := ⟨by decide +kernel, rfl⟩
set_option maxRecDepth 20000 in
theorem dX12_judged_57 : decode cX12_judged 57 = .ok (.ireturn, 1) := by decide +kernel
set_option maxRecDepth 20000 in
theorem dX12_annul_0 : decode cX12_annul 0 = .ok (.aload_n 0, 1) ∧ 0 + 1 = 1 := ⟨by decide +kernel, rfl⟩
set_option maxRecDepth 20000 in
theorem dX12_annul_1 : decode cX12_annul 1 = .ok (.iconst 0, 1) ∧ 1 + 1 = 2 := ⟨by decide +kernel, rfl⟩
set_option maxRecDepth 20000 in
theorem dX12_annul_2 : decode cX12_annul 2 = .ok (.putfield 124, 3) ∧ 2 + 3 = 5 := ⟨by decide +kernel, rfl⟩
set_option maxRecDepth 20000 in
theorem dX12_annul_5 : decode cX12_annul 5 = .ok (.iload_n 1, 1) ∧ 5 + 1 = 6 := ⟨by decide +kernel, rfl⟩
set_option maxRecDepth 20000 in
theorem dX12_annul_6 : decode cX12_annul 6 = .ok (.i2l, 1) ∧ 6 + 1 = 7 := ⟨by decide +kernel, rfl⟩
set_option maxRecDepth 20000 in
theorem dX12_annul_7 : decode cX12_annul 7 = .ok (.lconst 0, 1) ∧ 7 + 1 = 8 := ⟨by decide +kernel, rfl⟩
set_option maxRecDepth 20000 in
theorem dX12_annul_8 : decode cX12_annul 8 = .ok (.aload_n 0, 1) ∧ 8 + 1 = 9 := ⟨by decide +kernel, rfl⟩
set_option maxRecDepth 20000 in
theorem dX12_annul_9 : decode cX12_annul 9 = .ok (.getfield 13, 3) ∧ 9 + 3 = 12 := ⟨by decide +kernel, rfl⟩
set_option maxRecDepth 20000 in
theorem dX12_annul_12 : decode cX12_annul 12 = .ok (.bipush 11, 2) ∧ 12 + 2 = 14 := ⟨by decide +kernel, rfl⟩
set_option maxRecDepth 20000 in
theorem dX12_annul_14 : decode cX12_annul 14 = .ok (.iaload, 1) ∧ 14 + 1 = 15 := ⟨by decide +kernel, rfl⟩
set_option maxRecDepth 20000 in
theorem dX12_annul_15 : decode cX12_annul 15 = .ok (.i2l, 1) ∧ 15 + 1 = 16 := ⟨by decide +kernel, rfl⟩
set_option maxRecDepth 20000 in
theorem dX12_annul_16 : decode cX12_annul 16 = .ok (.lconst 1, 1) ∧ 16 + 1 = 17 := ⟨by decide +kernel, rfl⟩
set_option maxRecDepth 20000 in
theorem dX12_annul_17 : decode cX12_annul 17 = .ok (.lsub, 1) ∧ 17 + 1 = 18 := ⟨by decide +kernel, rfl⟩
set_option maxRecDepth 20000 in
theorem dX12_annul_18 : decode cX12_annul 18 = .ok (.invokestatic 134, 3) ∧ 18 + 3 = 21 := ⟨by decide +kernel, rfl⟩
set_option maxRecDepth 20000 in
theorem dX12_annul_21 : decode cX12_annul 21 = .ok (.ifCond .ne 10, 3) ∧ 21 + 3 = 24 ∧ ((21 : Nat) : Int) + (10) = ((31 : Nat) : Int) := ⟨by decide +kernel, rfl, by decide⟩
set_option maxRecDepth 20000 in
theorem dX12_annul_24 : decode cX12_annul 24 = .ok (.aload_n 0, 1) ∧ 24 + 1 = 25 := ⟨by decide +kernel, rfl⟩
set_option maxRecDepth 20000 in
theorem dX12_annul_25 : decode cX12_annul 25 = .ok (.bipush (-2), 2) ∧ 25 + 2 = 27 := ⟨by decide +kernel, rfl⟩
set_option maxRecDepth 20000 in
theorem dX12_annul_27 : decode cX12_annul 27 = .ok (.invokevirtual 138, 3) ∧ 27 + 3 = 30 := ⟨by decide +kernel, rfl⟩
set_option maxRecDepth 20000 in
theorem dX12_annul_30 : decode cX12_annul 30 = .ok (.ireturn, 1) := by decide +kernel
set_option maxRecDepth 20000 in
theorem dX12_annul_31 : decode cX12_annul 31 = .ok (.bipush 110, 2) ∧ 31 + 2 = 33 := ⟨by decide +kernel, rfl⟩
set_option maxRecDepth 20000 in
theorem dX12_annul_33 : decode cX12_annul 33 = .ok (.iconst 3, 1) ∧ 33 + 1 = 34 := ⟨by decide +kernel, rfl⟩
set_option maxRecDepth 20000 in
theorem dX12_annul_34 : decode cX12_annul 34 = .ok (.iload_n 1, 1) ∧ 34 + 1 = 35 := ⟨by decide +kernel, rfl⟩
set_option maxRecDepth 20000 in
theorem dX12_annul_35 : decode cX12_annul 35 = .ok (.imul, 1) ∧ 35 + 1 = 36 := ⟨by decide +kernel, rfl⟩
set_option maxRecDepth 20000 in
theorem dX12_annul_36 : decode cX12_annul 36 = .ok (.iadd, 1) ∧ 36 + 1 = 37 := ⟨by decide +kernel, rfl⟩
set_option maxRecDepth 20000 in
theorem dX12_annul_37 : decode cX12_annul 37 = .ok (.istore_n 2, 1) ∧ 37 + 1 = 38 := ⟨by decide +kernel, rfl⟩
set_option maxRecDepth 20000 in
theorem dX12_annul_38 : decode cX12_annul 38 = .ok (.iload_n 2, 1) ∧ 38 + 1 = 39 := ⟨by decide +kernel, rfl⟩
set_option maxRecDepth 20000 in
theorem dX12_annul_39 : decode cX12_annul 39 = .ok (.sipush 167, 3) ∧ 39 + 3 = 42 := ⟨by decide +kernel, rfl⟩
set_option maxRecDepth 20000 in
theorem dX12_annul_42 : decode cX12_annul 42 = .ok (.if_icmp .ge 23, 3) ∧ 42 + 3 = 45 ∧ ((42 : Nat) : Int) + (23) = ((65 : Nat) : Int) := ⟨by decide +kernel, rfl, by decide⟩
set_option maxRecDepth 20000 in
theorem dX12_annul_45 : decode cX12_annul 45 = .ok (.aload_n 0, 1) ∧ 45 + 1 = 46 := ⟨by decide +kernel, rfl⟩
set_option maxRecDepth 20000 in
theorem dX12_annul_46 : decode cX12_annul 46 = .ok (.getfield 13, 3) ∧ 46 + 3 = 49 := ⟨by decide +kernel, rfl⟩
set_option maxRecDepth 20000 in
theorem dX12_annul_49 : decode cX12_annul 49 = .ok (.iload_n 2, 1) ∧ 49 + 1 = 50 := ⟨by decide +kernel, rfl⟩
set_option maxRecDepth 20000 in
theorem dX12_annul_50 : decode cX12_annul 50 = .ok (.aload_n 0, 1) ∧ 50 + 1 = 51 := ⟨by decide +kernel, rfl⟩
set_option maxRecDepth 20000 in
theorem dX12_annul_51 : decode cX12_annul 51 = .ok (.getfield 13, 3) ∧ 51 + 3 = 54 := ⟨by decide +kernel, rfl⟩
set_option maxRecDepth 20000 in
theorem dX12_annul_54 : decode cX12_annul 54 = .ok (.iload_n 2, 1) ∧ 54 + 1 = 55 := ⟨by decide +kernel, rfl⟩
set_option maxRecDepth 20000 in
theorem dX12_annul_55 : decode cX12_annul 55 = .ok (.iconst 3, 1) ∧ 55 + 1 = 56 := ⟨by decide +kernel, rfl⟩
set_option maxRecDepth 20000 in
theorem dX12_annul_56 : decode cX12_annul 56 = .ok (.iadd, 1) ∧ 56 + 1 = 57 := ⟨by decide +kernel, rfl⟩
set_option maxRecDepth 20000 in
theorem dX12_annul_57 : decode cX12_annul 57 = .ok (.iaload, 1) ∧ 57 + 1 = 58 := ⟨by decide +kernel, rfl⟩
set_option maxRecDepth 20000 in
theorem dX12_annul_58 : decode cX12_annul 58 = .ok (.iastore, 1) ∧ 58 + 1 = 59 := ⟨by decide +kernel, rfl⟩
set_option maxRecDepth 20000 in
theorem dX12_annul_59 : decode cX12_annul 59 = .ok (.iinc 2 1, 3) ∧ 59 + 3 = 62 := ⟨by decide +kernel, rfl⟩
set_option maxRecDepth 20000 in
theorem dX12_annul_62 : decode cX12_annul 62 = .ok (.goto (-24), 3) ∧ ((62 : Nat) : Int) + (-24) = ((38 : Nat) : Int) := ⟨by decide +kernel, by decide⟩
set_option maxRecDepth 20000 in
theorem dX12_annul_65 : decode cX12_annul 65 = .ok (.aload_n 0, 1) ∧ 65 + 1 = 66 := ⟨by decide +kernel, rfl⟩
set_option maxRecDepth 20000 in
theorem dX12_annul_66 : decode cX12_annul 66 = .ok (.getfield 13, 3) ∧ 66 + 3 = 69 := ⟨by decide +kernel, rfl⟩
set_option maxRecDepth 20000 in
theorem dX12_annul_69 : decode cX12_annul 69 = .ok (.bipush 11, 2) ∧ 69 + 2 = 71 := ⟨by decide +kernel, rfl⟩
set_option maxRecDepth 20000 in
theorem dX12_annul_71 : decode cX12_annul 71 = .ok (.dup2, 1) ∧ 71 + 1 = 72 := ⟨by decide +kernel, rfl⟩
set_option maxRecDepth 20000 in
theorem dX12_annul_72 : decode cX12_annul 72 = .ok (.iaload, 1) ∧ 72 + 1 = 73 := ⟨by decide +kernel, rfl⟩
set_option maxRecDepth 20000 in
theorem dX12_annul_73 : decode cX12_annul 73 = .ok (.iconst 1, 1) ∧ 73 + 1 = 74 := ⟨by decide +kernel, rfl⟩
set_option maxRecDepth 20000 in
theorem dX12_annul_74 : decode cX12_annul 74 = .ok (.isub, 1) ∧ 74 + 1 = 75 := ⟨by decide +kernel, rfl⟩
set_option maxRecDepth 20000 in
theorem dX12_annul_75 : decode cX12_annul 75 = .ok (.iastore, 1) ∧ 75 + 1 = 76 := ⟨by decide +kernel, rfl⟩
set_option maxRecDepth 20000 in
theorem dX12_annul_76 : decode cX12_annul 76 = .ok (.aload_n 0, 1) ∧ 76 + 1 = 77 := ⟨by decide +kernel, rfl⟩
set_option maxRecDepth 20000 in
theorem dX12_annul_77 : decode cX12_annul 77 = .ok (.aload_n 0, 1) ∧ 77 + 1 = 78 := ⟨by decide +kernel, rfl⟩
set_option maxRecDepth 20000 in
theorem dX12_annul_78 : decode cX12_annul 78 = .ok (.getfield 13, 3) ∧ 78 + 3 = 81 := ⟨by decide +kernel, rfl⟩
set_option maxRecDepth 20000 in
theorem dX12_annul_81 : decode cX12_annul 81 = .ok (.bipush 11, 2) ∧ 81 + 2 = 83 := ⟨by decide +kernel, rfl⟩
set_option maxRecDepth 20000 in
theorem dX12_annul_83 : decode cX12_annul 83 = .ok (.iaload, 1) ∧ 83 + 1 = 84 := ⟨by decide +kernel, rfl⟩
set_option maxRecDepth 20000 in
theorem dX12_annul_84 : decode cX12_annul 84 = .ok (.invokevirtual 138, 3) ∧ 84 + 3 = 87 := ⟨by decide +kernel, rfl⟩
set_option maxRecDepth 20000 in
theorem dX12_annul_87 : decode cX12_annul 87 = .ok (.ireturn, 1) := by decide +kernel
set_option maxRecDepth 20000 in
theorem dX12_row_0 : decode cX12_row 0 = .ok (.aload_n 0, 1) ∧ 0 + 1 = 1 := ⟨by decide +kernel, rfl⟩
set_option maxRecDepth 20000 in
theorem dX12_row_1 : decode cX12_row 1 = .ok (.iconst 0, 1) ∧ 1 + 1 = 2 := ⟨by decide +kernel, rfl⟩
set_option maxRecDepth 20000 in
theorem dX12_row_2 : decode cX12_row 2 = .ok (.putfield 124, 3) ∧ 2 + 3 = 5 := ⟨by decide +kernel, rfl⟩
set_option maxRecDepth 20000 in
theorem dX12_row_5 : decode cX12_row 5 = .ok (.aload_n 0, 1) ∧ 5 + 1 = 6 := ⟨by decide +kernel, rfl⟩
set_option maxRecDepth 20000 in
theorem dX12_row_6 : decode cX12_row 6 = .ok (.getfield 184, 3) ∧ 6 + 3 = 9 := ⟨by decide +kernel, rfl⟩
set_option maxRecDepth 20000 in
theorem dX12_row_9 : decode cX12_row 9 = .ok (.istore_n 1, 1) ∧ 9 + 1 = 10 := ⟨by decide +kernel, rfl⟩
set_option maxRecDepth 20000 in
theorem dX12_row_10 : decode cX12_row 10 = .ok (.aload_n 0, 1) ∧ 10 + 1 = 11 := ⟨by decide +kernel, rfl⟩
set_option maxRecDepth 20000 in
theorem dX12_row_11 : decode cX12_row 11 = .ok (.iconst 0, 1) ∧ 11 + 1 = 12 := ⟨by decide +kernel, rfl⟩
set_option maxRecDepth 20000 in
theorem dX12_row_12 : decode cX12_row 12 = .ok (.putfield 184, 3) ∧ 12 + 3 = 15 := ⟨by decide +kernel, rfl⟩
set_option maxRecDepth 20000 in
theorem dX12_row_15 : decode cX12_row 15 = .ok (.iload_n 1, 1) ∧ 15 + 1 = 16 := ⟨by decide +kernel, rfl⟩
set_option maxRecDepth 20000 in
theorem dX12_row_16 : decode cX12_row 16 = .ok (.ifCond .ne 10, 3) ∧ 16 + 3 = 19 ∧ ((16 : Nat) : Int) + (10) = ((26 : Nat) : Int) := ⟨by decide +kernel, rfl, by decide⟩
set_option maxRecDepth 20000 in
theorem dX12_row_19 : decode cX12_row 19 = .ok (.aload_n 0, 1) ∧ 19 + 1 = 20 := ⟨by decide +kernel, rfl⟩
set_option maxRecDepth 20000 in
theorem dX12_row_20 : decode cX12_row 20 = .ok (.bipush (-6), 2) ∧ 20 + 2 = 22 := ⟨by decide +kernel, rfl⟩
set_option maxRecDepth 20000 in
theorem dX12_row_22 : decode cX12_row 22 = .ok (.invokevirtual 138, 3) ∧ 22 + 3 = 25 := ⟨by decide +kernel, rfl⟩
set_option maxRecDepth 20000 in
theorem dX12_row_25 : decode cX12_row 25 = .ok (.ireturn, 1) := by decide +kernel
set_option maxRecDepth 20000 in
theorem dX12_row_26 : decode cX12_row 26 = .ok (.aload_n 0, 1) ∧ 26 + 1 = 27 := ⟨by decide +kernel, rfl⟩
set_option maxRecDepth 20000 in
theorem dX12_row_27 : decode cX12_row 27 = .ok (.iconst 0, 1) ∧ 27 + 1 = 28 := ⟨by decide +kernel, rfl⟩
set_option maxRecDepth 20000 in
theorem dX12_row_28 : decode cX12_row 28 = .ok (.putfield 457, 3) ∧ 28 + 3 = 31 := ⟨by decide +kernel, rfl⟩
set_option maxRecDepth 20000 in
theorem dX12_row_31 : decode cX12_row 31 = .ok (.iconst 0, 1) ∧ 31 + 1 = 32 := ⟨by decide +kernel, rfl⟩
set_option maxRecDepth 20000 in
theorem dX12_row_32 : decode cX12_row 32 = .ok (.istore_n 2, 1) ∧ 32 + 1 = 33 := ⟨by decide +kernel, rfl⟩
set_option maxRecDepth 20000 in
theorem dX12_row_33 : decode cX12_row 33 = .ok (.iconst 0, 1) ∧ 33 + 1 = 34 := ⟨by decide +kernel, rfl⟩
set_option maxRecDepth 20000 in
theorem dX12_row_34 : decode cX12_row 34 = .ok (.istore_n 3, 1) ∧ 34 + 1 = 35 := ⟨by decide +kernel, rfl⟩
set_option maxRecDepth 20000 in
theorem dX12_row_35 : decode cX12_row 35 = .ok (.iload_n 3, 1) ∧ 35 + 1 = 36 := ⟨by decide +kernel, rfl⟩
set_option maxRecDepth 20000 in
theorem dX12_row_36 : decode cX12_row 36 = .ok (.iload_n 1, 1) ∧ 36 + 1 = 37 := ⟨by decide +kernel, rfl⟩
set_option maxRecDepth 20000 in
theorem dX12_row_37 : decode cX12_row 37 = .ok (.if_icmp .ge 122, 3) ∧ 37 + 3 = 40 ∧ ((37 : Nat) : Int) + (122) = ((159 : Nat) : Int) := ⟨by decide +kernel, rfl, by decide⟩
set_option maxRecDepth 20000 in
theorem dX12_row_40 : decode cX12_row 40 = .ok (.iload_n 3, 1) ∧ 40 + 1 = 41 := ⟨by decide +kernel, rfl⟩
set_option maxRecDepth 20000 in
theorem dX12_row_41 : decode cX12_row 41 = .ok (.iconst 2, 1) ∧ 41 + 1 = 42 := ⟨by decide +kernel, rfl⟩
set_option maxRecDepth 20000 in
theorem dX12_row_42 : decode cX12_row 42 = .ok (.iadd, 1) ∧ 42 + 1 = 43 := ⟨by decide +kernel, rfl⟩
set_option maxRecDepth 20000 in
theorem dX12_row_43 : decode cX12_row 43 = .ok (.iload_n 1, 1) ∧ 43 + 1 = 44 := ⟨by decide +kernel, rfl⟩
set_option maxRecDepth 20000 in
theorem dX12_row_44 : decode cX12_row 44 = .ok (.if_icmp .ge 19, 3) ∧ 44 + 3 = 47 ∧ ((44 : Nat) : Int) + (19) = ((63 : Nat) : Int) := ⟨by decide +kernel, rfl, by decide⟩
set_option maxRecDepth 20000 in
theorem dX12_row_47 : decode cX12_row 47 = .ok (.aload_n 0, 1) ∧ 47 + 1 = 48 := ⟨by decide +kernel, rfl⟩
set_option maxRecDepth 20000 in
theorem dX12_row_48 : decode cX12_row 48 = .ok (.getfield 13, 3) ∧ 48 + 3 = 51 := ⟨by decide +kernel, rfl⟩
set_option maxRecDepth 20000 in
theorem dX12_row_51 : decode cX12_row 51 = .ok (.bipush 11, 2) ∧ 51 + 2 = 53 := ⟨by decide +kernel, rfl⟩
set_option maxRecDepth 20000 in
theorem dX12_row_53 : decode cX12_row 53 = .ok (.iaload, 1) ∧ 53 + 1 = 54 := ⟨by decide +kernel, rfl⟩
set_option maxRecDepth 20000 in
theorem dX12_row_54 : decode cX12_row 54 = .ok (.bipush 20, 2) ∧ 54 + 2 = 56 := ⟨by decide +kernel, rfl⟩
set_option maxRecDepth 20000 in
theorem dX12_row_56 : decode cX12_row 56 = .ok (.if_icmp .ge 7, 3) ∧ 56 + 3 = 59 ∧ ((56 : Nat) : Int) + (7) = ((63 : Nat) : Int) := ⟨by decide +kernel, rfl, by decide⟩
set_option maxRecDepth 20000 in
theorem dX12_row_59 : decode cX12_row 59 = .ok (.iconst 1, 1) ∧ 59 + 1 = 60 := ⟨by decide +kernel, rfl⟩
set_option maxRecDepth 20000 in
theorem dX12_row_60 : decode cX12_row 60 = .ok (.goto 4, 3) ∧ ((60 : Nat) : Int) + (4) = ((64 : Nat) : Int) := ⟨by decide +kernel, by decide⟩
set_option maxRecDepth 20000 in
theorem dX12_row_63 : decode cX12_row 63 = .ok (.iconst 0, 1) ∧ 63 + 1 = 64 := ⟨by decide +kernel, rfl⟩
set_option maxRecDepth 20000 in
theorem dX12_row_64 : decode cX12_row 64 = .ok (.istore 4, 2) ∧ 64 + 2 = 66 := ⟨by decide +kernel, rfl⟩
set_option maxRecDepth 20000 in
theorem dX12_row_66 : decode cX12_row 66 = .ok (.iload 4, 2) ∧ 66 + 2 = 68 := ⟨by decide +kernel, rfl⟩
set_option maxRecDepth 20000 in
theorem dX12_row_68 : decode cX12_row 68 = .ok (.ifCond .eq 35, 3) ∧ 68 + 3 = 71 ∧ ((68 : Nat) : Int) + (35) = ((103 : Nat) : Int) := ⟨by decide +kernel, rfl, by decide⟩
set_option maxRecDepth 20000 in
theorem dX12_row_71 : decode cX12_row 71 = .ok (.aload_n 0, 1) ∧ 71 + 1 = 72 := ⟨by decide +kernel, rfl⟩
set_option maxRecDepth 20000 in
theorem dX12_row_72 : decode cX12_row 72 = .ok (.getfield 23, 3) ∧ 72 + 3 = 75 := ⟨by decide +kernel, rfl⟩
set_option maxRecDepth 20000 in
theorem dX12_row_75 : decode cX12_row 75 = .ok (.iload_n 3, 1) ∧ 75 + 1 = 76 := ⟨by decide +kernel, rfl⟩
set_option maxRecDepth 20000 in
theorem dX12_row_76 : decode cX12_row 76 = .ok (.iaload, 1) ∧ 76 + 1 = 77 := ⟨by decide +kernel, rfl⟩
set_option maxRecDepth 20000 in
theorem dX12_row_77 : decode cX12_row 77 = .ok (.aload_n 0, 1) ∧ 77 + 1 = 78 := ⟨by decide +kernel, rfl⟩
set_option maxRecDepth 20000 in
theorem dX12_row_78 : decode cX12_row 78 = .ok (.getfield 23, 3) ∧ 78 + 3 = 81 := ⟨by decide +kernel, rfl⟩
set_option maxRecDepth 20000 in
theorem dX12_row_81 : decode cX12_row 81 = .ok (.iload_n 3, 1) ∧ 81 + 1 = 82 := ⟨by decide +kernel, rfl⟩
set_option maxRecDepth 20000 in
theorem dX12_row_82 : decode cX12_row 82 = .ok (.iconst 1, 1) ∧ 82 + 1 = 83 := ⟨by decide +kernel, rfl⟩
set_option maxRecDepth 20000 in
theorem dX12_row_83 : decode cX12_row 83 = .ok (.iadd, 1) ∧ 83 + 1 = 84 := ⟨by decide +kernel, rfl⟩
set_option maxRecDepth 20000 in
theorem dX12_row_84 : decode cX12_row 84 = .ok (.iaload, 1) ∧ 84 + 1 = 85 := ⟨by decide +kernel, rfl⟩
set_option maxRecDepth 20000 in
theorem dX12_row_85 : decode cX12_row 85 = .ok (.aload_n 0, 1) ∧ 85 + 1 = 86 := ⟨by decide +kernel, rfl⟩
set_option maxRecDepth 20000 in
theorem dX12_row_86 : decode cX12_row 86 = .ok (.getfield 23, 3) ∧ 86 + 3 = 89 := ⟨by decide +kernel, rfl⟩
set_option maxRecDepth 20000 in
theorem dX12_row_89 : decode cX12_row 89 = .ok (.iload_n 3, 1) ∧ 89 + 1 = 90 := ⟨by decide +kernel, rfl⟩
set_option maxRecDepth 20000 in
theorem dX12_row_90 : decode cX12_row 90 = .ok (.iconst 2, 1) ∧ 90 + 1 = 91 := ⟨by decide +kernel, rfl⟩
set_option maxRecDepth 20000 in
theorem dX12_row_91 : decode cX12_row 91 = .ok (.iadd, 1) ∧ 91 + 1 = 92 := ⟨by decide +kernel, rfl⟩
set_option maxRecDepth 20000 in
theorem dX12_row_92 : decode cX12_row 92 = .ok (.iaload, 1) ∧ 92 + 1 = 93 := ⟨by decide +kernel, rfl⟩
set_option maxRecDepth 20000 in
theorem dX12_row_93 : decode cX12_row 93 = .ok (.invokestatic 451, 3) ∧ 93 + 3 = 96 := ⟨by decide +kernel, rfl⟩
set_option maxRecDepth 20000 in
theorem dX12_row_96 : decode cX12_row 96 = .ok (.ifCond .eq 7, 3) ∧ 96 + 3 = 99 ∧ ((96 : Nat) : Int) + (7) = ((103 : Nat) : Int) := ⟨by decide +kernel, rfl, by decide⟩
set_option maxRecDepth 20000 in
theorem dX12_row_99 : decode cX12_row 99 = .ok (.iconst 1, 1) ∧ 99 + 1 = 100 := ⟨by decide +kernel, rfl⟩
set_option maxRecDepth 20000 in
theorem dX12_row_100 : decode cX12_row 100 = .ok (.goto 4, 3) ∧ ((100 : Nat) : Int) + (4) = ((104 : Nat) : Int) := ⟨by decide +kernel, by decide⟩
set_option maxRecDepth 20000 in
theorem dX12_row_103 : decode cX12_row 103 = .ok (.iconst 0, 1) ∧ 103 + 1 = 104 := ⟨by decide +kernel, rfl⟩
set_option maxRecDepth 20000 in
theorem dX12_row_104 : decode cX12_row 104 = .ok (.istore 4, 2) ∧ 104 + 2 = 106 := ⟨by decide +kernel, rfl⟩
set_option maxRecDepth 20000 in
theorem dX12_row_106 : decode cX12_row 106 = .ok (.iload 4, 2) ∧ 106 + 2 = 108 := ⟨by decide +kernel, rfl⟩
set_option maxRecDepth 20000 in
theorem dX12_row_108 : decode cX12_row 108 = .ok (.ifCond .eq 35, 3) ∧ 108 + 3 = 111 ∧ ((108 : Nat) : Int) + (35) = ((143 : Nat) : Int) := ⟨by decide +kernel, rfl, by decide⟩
set_option maxRecDepth 20000 in
theorem dX12_row_111 : decode cX12_row 111 = .ok (.aload_n 0, 1) ∧ 111 + 1 = 112 := ⟨by decide +kernel, rfl⟩
set_option maxRecDepth 20000 in
theorem dX12_row_112 : decode cX12_row 112 = .ok (.aload_n 0, 1) ∧ 112 + 1 = 113 := ⟨by decide +kernel, rfl⟩
set_option maxRecDepth 20000 in
theorem dX12_row_113 : decode cX12_row 113 = .ok (.getfield 23, 3) ∧ 113 + 3 = 116 := ⟨by decide +kernel, rfl⟩
set_option maxRecDepth 20000 in
theorem dX12_row_116 : decode cX12_row 116 = .ok (.iload_n 3, 1) ∧ 116 + 1 = 117 := ⟨by decide +kernel, rfl⟩
set_option maxRecDepth 20000 in
theorem dX12_row_117 : decode cX12_row 117 = .ok (.iaload, 1) ∧ 117 + 1 = 118 := ⟨by decide +kernel, rfl⟩
set_option maxRecDepth 20000 in
theorem dX12_row_118 : decode cX12_row 118 = .ok (.aload_n 0, 1) ∧ 118 + 1 = 119 := ⟨by decide +kernel, rfl⟩
set_option maxRecDepth 20000 in
theorem dX12_row_119 : decode cX12_row 119 = .ok (.getfield 23, 3) ∧ 119 + 3 = 122 := ⟨by decide +kernel, rfl⟩
set_option maxRecDepth 20000 in
theorem dX12_row_122 : decode cX12_row 122 = .ok (.iload_n 3, 1) ∧ 122 + 1 = 123 := ⟨by decide +kernel, rfl⟩
set_option maxRecDepth 20000 in
theorem dX12_row_123 : decode cX12_row 123 = .ok (.iconst 1, 1) ∧ 123 + 1 = 124 := ⟨by decide +kernel, rfl⟩
set_option maxRecDepth 20000 in
theorem dX12_row_124 : decode cX12_row 124 = .ok (.iadd, 1) ∧ 124 + 1 = 125 := ⟨by decide +kernel, rfl⟩
set_option maxRecDepth 20000 in
theorem dX12_row_125 : decode cX12_row 125 = .ok (.iaload, 1) ∧ 125 + 1 = 126 := ⟨by decide +kernel, rfl⟩
set_option maxRecDepth 20000 in
theorem dX12_row_126 : decode cX12_row 126 = .ok (.aload_n 0, 1) ∧ 126 + 1 = 127 := ⟨by decide +kernel, rfl⟩
set_option maxRecDepth 20000 in
theorem dX12_row_127 : decode cX12_row 127 = .ok (.getfield 23, 3) ∧ 127 + 3 = 130 := ⟨by decide +kernel, rfl⟩
set_option maxRecDepth 20000 in
theorem dX12_row_130 : decode cX12_row 130 = .ok (.iload_n 3, 1) ∧ 130 + 1 = 131 := ⟨by decide +kernel, rfl⟩
set_option maxRecDepth 20000 in
theorem dX12_row_131 : decode cX12_row 131 = .ok (.iconst 2, 1) ∧ 131 + 1 = 132 := ⟨by decide +kernel, rfl⟩
set_option maxRecDepth 20000 in
theorem dX12_row_132 : decode cX12_row 132 = .ok (.iadd, 1) ∧ 132 + 1 = 133 := ⟨by decide +kernel, rfl⟩
set_option maxRecDepth 20000 in
theorem dX12_row_133 : decode cX12_row 133 = .ok (.iaload, 1) ∧ 133 + 1 = 134 := ⟨by decide +kernel, rfl⟩
set_option maxRecDepth 20000 in
theorem dX12_row_134 : decode cX12_row 134 = .ok (.invokevirtual 454, 3) ∧ 134 + 3 = 137 := ⟨by decide +kernel, rfl⟩
set_option maxRecDepth 20000 in
theorem dX12_row_137 : decode cX12_row 137 = .ok (.iinc 2 1, 3) ∧ 137 + 3 = 140 := ⟨by decide +kernel, rfl⟩
set_option maxRecDepth 20000 in
theorem dX12_row_140 : decode cX12_row 140 = .ok (.goto 13, 3) ∧ ((140 : Nat) : Int) + (13) = ((153 : Nat) : Int) := ⟨by decide +kernel, by decide⟩
set_option maxRecDepth 20000 in
theorem dX12_row_143 : decode cX12_row 143 = .ok (.aload_n 0, 1) ∧ 143 + 1 = 144 := ⟨by decide +kernel, rfl⟩
set_option maxRecDepth 20000 in
theorem dX12_row_144 : decode cX12_row 144 = .ok (.dup, 1) ∧ 144 + 1 = 145 := ⟨by decide +kernel, rfl⟩
set_option maxRecDepth 20000 in
theorem dX12_row_145 : decode cX12_row 145 = .ok (.getfield 457, 3) ∧ 145 + 3 = 148 := ⟨by decide +kernel, rfl⟩
set_option maxRecDepth 20000 in
theorem dX12_row_148 : decode cX12_row 148 = .ok (.iconst 1, 1) ∧ 148 + 1 = 149 := ⟨by decide +kernel, rfl⟩
set_option maxRecDepth 20000 in
theorem dX12_row_149 : decode cX12_row 149 = .ok (.iadd, 1) ∧ 149 + 1 = 150 := ⟨by decide +kernel, rfl⟩
set_option maxRecDepth 20000 in
theorem dX12_row_150 : decode cX12_row 150 = .ok (.putfield 457, 3) ∧ 150 + 3 = 153 := ⟨by decide +kernel, rfl⟩
set_option maxRecDepth 20000 in
theorem dX12_row_153 : decode cX12_row 153 = .ok (.iinc 3 3, 3) ∧ 153 + 3 = 156 := ⟨by decide +kernel, rfl⟩
set_option maxRecDepth 20000 in
theorem dX12_row_156 : decode cX12_row 156 = .ok (.goto (-121), 3) ∧ ((156 : Nat) : Int) + (-121) = ((35 : Nat) : Int) := ⟨by decide +kernel, by decide⟩
set_option maxRecDepth 20000 in
theorem dX12_row_159 : decode cX12_row 159 = .ok (.aload_n 0, 1) ∧ 159 + 1 = 160 := ⟨by decide +kernel, rfl⟩
set_option maxRecDepth 20000 in
theorem dX12_row_160 : decode cX12_row 160 = .ok (.iload_n 2, 1) ∧ 160 + 1 = 161 := ⟨by decide +kernel, rfl⟩
set_option maxRecDepth 20000 in
theorem dX12_row_161 : decode cX12_row 161 = .ok (.invokevirtual 138, 3) ∧ 161 + 3 = 164 := ⟨by decide +kernel, rfl⟩
set_option maxRecDepth 20000 in
theorem dX12_row_164 : decode cX12_row 164 = .ok (.ireturn, 1) := by decide +kernel
set_option maxRecDepth 20000 in
theorem dX12_quashed_0 : decode cX12_quashed 0 = .ok (.aload_n 0, 1) ∧ 0 + 1 = 1 := ⟨by decide +kernel, rfl⟩
set_option maxRecDepth 20000 in
theorem dX12_quashed_1 : decode cX12_quashed 1 = .ok (.iconst 0, 1) ∧ 1 + 1 = 2 := ⟨by decide +kernel, rfl⟩
set_option maxRecDepth 20000 in
theorem dX12_quashed_2 : decode cX12_quashed 2 = .ok (.putfield 124, 3) ∧ 2 + 3 = 5 := ⟨by decide +kernel, rfl⟩
set_option maxRecDepth 20000 in
theorem dX12_quashed_5 : decode cX12_quashed 5 = .ok (.aload_n 0, 1) ∧ 5 + 1 = 6 := ⟨by decide +kernel, rfl⟩
set_option maxRecDepth 20000 in
theorem dX12_quashed_6 : decode cX12_quashed 6 = .ok (.getfield 457, 3) ∧ 6 + 3 = 9 := ⟨by decide +kernel, rfl⟩
set_option maxRecDepth 20000 in
theorem dX12_quashed_9 : decode cX12_quashed 9 = .ok (.ireturn, 1) := by decide +kernel
set_option maxRecDepth 20000 in
theorem dX12_rightIn_0 : decode cX12_rightIn 0 = .ok (.aload_n 0, 1) ∧ 0 + 1 = 1 := ⟨by decide +kernel, rfl⟩
set_option maxRecDepth 20000 in
theorem dX12_rightIn_1 : decode cX12_rightIn 1 = .ok (.getfield 13, 3) ∧ 1 + 3 = 4 := ⟨by decide +kernel, rfl⟩
set_option maxRecDepth 20000 in
theorem dX12_rightIn_4 : decode cX12_rightIn 4 = .ok (.bipush 110, 2) ∧ 4 + 2 = 6 := ⟨by decide +kernel, rfl⟩
set_option maxRecDepth 20000 in
theorem dX12_rightIn_6 : decode cX12_rightIn 6 = .ok (.iconst 3, 1) ∧ 6 + 1 = 7 := ⟨by decide +kernel, rfl⟩
set_option maxRecDepth 20000 in
theorem dX12_rightIn_7 : decode cX12_rightIn 7 = .ok (.iload_n 1, 1) ∧ 7 + 1 = 8 := ⟨by decide +kernel, rfl⟩
set_option maxRecDepth 20000 in
theorem dX12_rightIn_8 : decode cX12_rightIn 8 = .ok (.imul, 1) ∧ 8 + 1 = 9 := ⟨by decide +kernel, rfl⟩
set_option maxRecDepth 20000 in
theorem dX12_rightIn_9 : decode cX12_rightIn 9 = .ok (.iadd, 1) ∧ 9 + 1 = 10 := ⟨by decide +kernel, rfl⟩
set_option maxRecDepth 20000 in
theorem dX12_rightIn_10 : decode cX12_rightIn 10 = .ok (.iconst 1, 1) ∧ 10 + 1 = 11 := ⟨by decide +kernel, rfl⟩
set_option maxRecDepth 20000 in
theorem dX12_rightIn_11 : decode cX12_rightIn 11 = .ok (.iadd, 1) ∧ 11 + 1 = 12 := ⟨by decide +kernel, rfl⟩
set_option maxRecDepth 20000 in
theorem dX12_rightIn_12 : decode cX12_rightIn 12 = .ok (.iaload, 1) ∧ 12 + 1 = 13 := ⟨by decide +kernel, rfl⟩
set_option maxRecDepth 20000 in
theorem dX12_rightIn_13 : decode cX12_rightIn 13 = .ok (.istore_n 2, 1) ∧ 13 + 1 = 14 := ⟨by decide +kernel, rfl⟩
set_option maxRecDepth 20000 in
theorem dX12_rightIn_14 : decode cX12_rightIn 14 = .ok (.aload_n 0, 1) ∧ 14 + 1 = 15 := ⟨by decide +kernel, rfl⟩
set_option maxRecDepth 20000 in
theorem dX12_rightIn_15 : decode cX12_rightIn 15 = .ok (.getfield 13, 3) ∧ 15 + 3 = 18 := ⟨by decide +kernel, rfl⟩
set_option maxRecDepth 20000 in
theorem dX12_rightIn_18 : decode cX12_rightIn 18 = .ok (.bipush 110, 2) ∧ 18 + 2 = 20 := ⟨by decide +kernel, rfl⟩
set_option maxRecDepth 20000 in
theorem dX12_rightIn_20 : decode cX12_rightIn 20 = .ok (.iconst 3, 1) ∧ 20 + 1 = 21 := ⟨by decide +kernel, rfl⟩
set_option maxRecDepth 20000 in
theorem dX12_rightIn_21 : decode cX12_rightIn 21 = .ok (.iload_n 1, 1) ∧ 21 + 1 = 22 := ⟨by decide +kernel, rfl⟩
set_option maxRecDepth 20000 in
theorem dX12_rightIn_22 : decode cX12_rightIn 22 = .ok (.imul, 1) ∧ 22 + 1 = 23 := ⟨by decide +kernel, rfl⟩
set_option maxRecDepth 20000 in
theorem dX12_rightIn_23 : decode cX12_rightIn 23 = .ok (.iadd, 1) ∧ 23 + 1 = 24 := ⟨by decide +kernel, rfl⟩
set_option maxRecDepth 20000 in
theorem dX12_rightIn_24 : decode cX12_rightIn 24 = .ok (.iconst 2, 1) ∧ 24 + 1 = 25 := ⟨by decide +kernel, rfl⟩
set_option maxRecDepth 20000 in
theorem dX12_rightIn_25 : decode cX12_rightIn 25 = .ok (.iadd, 1) ∧ 25 + 1 = 26 := ⟨by decide +kernel, rfl⟩
set_option maxRecDepth 20000 in
theorem dX12_rightIn_26 : decode cX12_rightIn 26 = .ok (.iaload, 1) ∧ 26 + 1 = 27 := ⟨by decide +kernel, rfl⟩
set_option maxRecDepth 20000 in
theorem dX12_rightIn_27 : decode cX12_rightIn 27 = .ok (.istore_n 3, 1) ∧ 27 + 1 = 28 := ⟨by decide +kernel, rfl⟩
set_option maxRecDepth 20000 in
theorem dX12_rightIn_28 : decode cX12_rightIn 28 = .ok (.aload_n 0, 1) ∧ 28 + 1 = 29 := ⟨by decide +kernel, rfl⟩
set_option maxRecDepth 20000 in
theorem dX12_rightIn_29 : decode cX12_rightIn 29 = .ok (.getfield 13, 3) ∧ 29 + 3 = 32 := ⟨by decide +kernel, rfl⟩
set_option maxRecDepth 20000 in
theorem dX12_rightIn_32 : decode cX12_rightIn 32 = .ok (.bipush 110, 2) ∧ 32 + 2 = 34 := ⟨by decide +kernel, rfl⟩
set_option maxRecDepth 20000 in
theorem dX12_rightIn_34 : decode cX12_rightIn 34 = .ok (.iconst 3, 1) ∧ 34 + 1 = 35 := ⟨by decide +kernel, rfl⟩
set_option maxRecDepth 20000 in
theorem dX12_rightIn_35 : decode cX12_rightIn 35 = .ok (.iload_n 1, 1) ∧ 35 + 1 = 36 := ⟨by decide +kernel, rfl⟩
set_option maxRecDepth 20000 in
theorem dX12_rightIn_36 : decode cX12_rightIn 36 = .ok (.imul, 1) ∧ 36 + 1 = 37 := ⟨by decide +kernel, rfl⟩
set_option maxRecDepth 20000 in
theorem dX12_rightIn_37 : decode cX12_rightIn 37 = .ok (.iadd, 1) ∧ 37 + 1 = 38 := ⟨by decide +kernel, rfl⟩
set_option maxRecDepth 20000 in
theorem dX12_rightIn_38 : decode cX12_rightIn 38 = .ok (.iaload, 1) ∧ 38 + 1 = 39 := ⟨by decide +kernel, rfl⟩
set_option maxRecDepth 20000 in
theorem dX12_rightIn_39 : decode cX12_rightIn 39 = .ok (.ifCond .ne 7, 3) ∧ 39 + 3 = 42 ∧ ((39 : Nat) : Int) + (7) = ((46 : Nat) : Int) := ⟨by decide +kernel, rfl, by decide⟩
set_option maxRecDepth 20000 in
theorem dX12_rightIn_42 : decode cX12_rightIn 42 = .ok (.iload_n 3, 1) ∧ 42 + 1 = 43 := ⟨by decide +kernel, rfl⟩
set_option maxRecDepth 20000 in
theorem dX12_rightIn_43 : decode cX12_rightIn 43 = .ok (.goto 8, 3) ∧ ((43 : Nat) : Int) + (8) = ((51 : Nat) : Int) := ⟨by decide +kernel, by decide⟩
set_option maxRecDepth 20000 in
theorem dX12_rightIn_46 : decode cX12_rightIn 46 = .ok (.iload_n 2, 1) ∧ 46 + 1 = 47 := ⟨by decide +kernel, rfl⟩
set_option maxRecDepth 20000 in
theorem dX12_rightIn_47 : decode cX12_rightIn 47 = .ok (.iload_n 3, 1) ∧ 47 + 1 = 48 := ⟨by decide +kernel, rfl⟩
set_option maxRecDepth 20000 in
theorem dX12_rightIn_48 : decode cX12_rightIn 48 = .ok (.iconst (-1), 1) ∧ 48 + 1 = 49 := ⟨by decide +kernel, rfl⟩
set_option maxRecDepth 20000 in
theorem dX12_rightIn_49 : decode cX12_rightIn 49 = .ok (.ixor, 1) ∧ 49 + 1 = 50 := ⟨by decide +kernel, rfl⟩
set_option maxRecDepth 20000 in
theorem dX12_rightIn_50 : decode cX12_rightIn 50 = .ok (.iand, 1) ∧ 50 + 1 = 51 := ⟨by decide +kernel, rfl⟩
set_option maxRecDepth 20000 in
theorem dX12_rightIn_51 : decode cX12_rightIn 51 = .ok (.ireturn, 1) := by decide +kernel
set_option maxRecDepth 20000 in
theorem dX12_rights_0 : decode cX12_rights 0 = .ok (.iconst 0, 1) ∧ 0 + 1 = 1 := ⟨by decide +kernel, rfl⟩
set_option maxRecDepth 20000 in
theorem dX12_rights_1 : decode cX12_rights 1 = .ok (.istore_n 2, 1) ∧ 1 + 1 = 2 := ⟨by decide +kernel, rfl⟩
set_option maxRecDepth 20000 in
theorem dX12_rights_2 : decode cX12_rights 2 = .ok (.iconst 0, 1) ∧ 2 + 1 = 3 := ⟨by decide +kernel, rfl⟩
set_option maxRecDepth 20000 in
theorem dX12_rights_3 : decode cX12_rights 3 = .ok (.istore_n 3, 1) ∧ 3 + 1 = 4 := ⟨by decide +kernel, rfl⟩
set_option maxRecDepth 20000 in
theorem dX12_rights_4 : decode cX12_rights 4 = .ok (.iload_n 3, 1) ∧ 4 + 1 = 5 := ⟨by decide +kernel, rfl⟩
set_option maxRecDepth 20000 in
theorem dX12_rights_5 : decode cX12_rights 5 = .ok (.aload_n 0, 1) ∧ 5 + 1 = 6 := ⟨by decide +kernel, rfl⟩
set_option maxRecDepth 20000 in
theorem dX12_rights_6 : decode cX12_rights 6 = .ok (.getfield 13, 3) ∧ 6 + 3 = 9 := ⟨by decide +kernel, rfl⟩
set_option maxRecDepth 20000 in
theorem dX12_rights_9 : decode cX12_rights 9 = .ok (.bipush 11, 2) ∧ 9 + 2 = 11 := ⟨by decide +kernel, rfl⟩
set_option maxRecDepth 20000 in
theorem dX12_rights_11 : decode cX12_rights 11 = .ok (.iaload, 1) ∧ 11 + 1 = 12 := ⟨by decide +kernel, rfl⟩
set_option maxRecDepth 20000 in
theorem dX12_rights_12 : decode cX12_rights 12 = .ok (.if_icmp .ge 33, 3) ∧ 12 + 3 = 15 ∧ ((12 : Nat) : Int) + (33) = ((45 : Nat) : Int) := ⟨by decide +kernel, rfl, by decide⟩
set_option maxRecDepth 20000 in
theorem dX12_rights_15 : decode cX12_rights 15 = .ok (.iload_n 2, 1) ∧ 15 + 1 = 16 := ⟨by decide +kernel, rfl⟩
set_option maxRecDepth 20000 in
theorem dX12_rights_16 : decode cX12_rights 16 = .ok (.iload_n 3, 1) ∧ 16 + 1 = 17 := ⟨by decide +kernel, rfl⟩
set_option maxRecDepth 20000 in
theorem dX12_rights_17 : decode cX12_rights 17 = .ok (.aload_n 0, 1) ∧ 17 + 1 = 18 := ⟨by decide +kernel, rfl⟩
set_option maxRecDepth 20000 in
theorem dX12_rights_18 : decode cX12_rights 18 = .ok (.getfield 106, 3) ∧ 18 + 3 = 21 := ⟨by decide +kernel, rfl⟩
set_option maxRecDepth 20000 in
theorem dX12_rights_21 : decode cX12_rights 21 = .ok (.if_icmp .ne 7, 3) ∧ 21 + 3 = 24 ∧ ((21 : Nat) : Int) + (7) = ((28 : Nat) : Int) := ⟨by decide +kernel, rfl, by decide⟩
set_option maxRecDepth 20000 in
theorem dX12_rights_24 : decode cX12_rights 24 = .ok (.iconst 0, 1) ∧ 24 + 1 = 25 := ⟨by decide +kernel, rfl⟩
set_option maxRecDepth 20000 in
theorem dX12_rights_25 : decode cX12_rights 25 = .ok (.goto 12, 3) ∧ ((25 : Nat) : Int) + (12) = ((37 : Nat) : Int) := ⟨by decide +kernel, by decide⟩
set_option maxRecDepth 20000 in
theorem dX12_rights_28 : decode cX12_rights 28 = .ok (.aload_n 0, 1) ∧ 28 + 1 = 29 := ⟨by decide +kernel, rfl⟩
set_option maxRecDepth 20000 in
theorem dX12_rights_29 : decode cX12_rights 29 = .ok (.iload_n 3, 1) ∧ 29 + 1 = 30 := ⟨by decide +kernel, rfl⟩
set_option maxRecDepth 20000 in
theorem dX12_rights_30 : decode cX12_rights 30 = .ok (.invokevirtual 460, 3) ∧ 30 + 3 = 33 := ⟨by decide +kernel, rfl⟩
set_option maxRecDepth 20000 in
theorem dX12_rights_33 : decode cX12_rights 33 = .ok (.iload_n 1, 1) ∧ 33 + 1 = 34 := ⟨by decide +kernel, rfl⟩
set_option maxRecDepth 20000 in
theorem dX12_rights_34 : decode cX12_rights 34 = .ok (.ishr, 1) ∧ 34 + 1 = 35 := ⟨by decide +kernel, rfl⟩
set_option maxRecDepth 20000 in
theorem dX12_rights_35 : decode cX12_rights 35 = .ok (.iconst 1, 1) ∧ 35 + 1 = 36 := ⟨by decide +kernel, rfl⟩
set_option maxRecDepth 20000 in
theorem dX12_rights_36 : decode cX12_rights 36 = .ok (.iand, 1) ∧ 36 + 1 = 37 := ⟨by decide +kernel, rfl⟩
set_option maxRecDepth 20000 in
theorem dX12_rights_37 : decode cX12_rights 37 = .ok (.iadd, 1) ∧ 37 + 1 = 38 := ⟨by decide +kernel, rfl⟩
set_option maxRecDepth 20000 in
theorem dX12_rights_38 : decode cX12_rights 38 = .ok (.istore_n 2, 1) ∧ 38 + 1 = 39 := ⟨by decide +kernel, rfl⟩
set_option maxRecDepth 20000 in
theorem dX12_rights_39 : decode cX12_rights 39 = .ok (.iinc 3 1, 3) ∧ 39 + 3 = 42 := ⟨by decide +kernel, rfl⟩
set_option maxRecDepth 20000 in
theorem dX12_rights_42 : decode cX12_rights 42 = .ok (.goto (-38), 3) ∧ ((42 : Nat) : Int) + (-38) = ((4 : Nat) : Int) := ⟨by decide +kernel, by decide⟩
set_option maxRecDepth 20000 in
theorem dX12_rights_45 : decode cX12_rights 45 = .ok (.iload_n 2, 1) ∧ 45 + 1 = 46 := ⟨by decide +kernel, rfl⟩
set_option maxRecDepth 20000 in
theorem dX12_rights_46 : decode cX12_rights 46 = .ok (.ireturn, 1) := by decide +kernel
set_option maxRecDepth 20000 in
theorem dX12_wrongs_0 : decode cX12_wrongs 0 = .ok (.iconst 0, 1) ∧ 0 + 1 = 1 := ⟨by decide +kernel, rfl⟩
set_option maxRecDepth 20000 in
theorem dX12_wrongs_1 : decode cX12_wrongs 1 = .ok (.istore_n 2, 1) ∧ 1 + 1 = 2 := ⟨by decide +kernel, rfl⟩
set_option maxRecDepth 20000 in
theorem dX12_wrongs_2 : decode cX12_wrongs 2 = .ok (.iconst 0, 1) ∧ 2 + 1 = 3 := ⟨by decide +kernel, rfl⟩
set_option maxRecDepth 20000 in
theorem dX12_wrongs_3 : decode cX12_wrongs 3 = .ok (.istore_n 3, 1) ∧ 3 + 1 = 4 := ⟨by decide +kernel, rfl⟩
set_option maxRecDepth 20000 in
theorem dX12_wrongs_4 : decode cX12_wrongs 4 = .ok (.iload_n 3, 1) ∧ 4 + 1 = 5 := ⟨by decide +kernel, rfl⟩
set_option maxRecDepth 20000 in
theorem dX12_wrongs_5 : decode cX12_wrongs 5 = .ok (.aload_n 0, 1) ∧ 5 + 1 = 6 := ⟨by decide +kernel, rfl⟩
set_option maxRecDepth 20000 in
theorem dX12_wrongs_6 : decode cX12_wrongs 6 = .ok (.getfield 13, 3) ∧ 6 + 3 = 9 := ⟨by decide +kernel, rfl⟩
set_option maxRecDepth 20000 in
theorem dX12_wrongs_9 : decode cX12_wrongs 9 = .ok (.bipush 11, 2) ∧ 9 + 2 = 11 := ⟨by decide +kernel, rfl⟩
set_option maxRecDepth 20000 in
theorem dX12_wrongs_11 : decode cX12_wrongs 11 = .ok (.iaload, 1) ∧ 11 + 1 = 12 := ⟨by decide +kernel, rfl⟩
set_option maxRecDepth 20000 in
theorem dX12_wrongs_12 : decode cX12_wrongs 12 = .ok (.if_icmp .ge 49, 3) ∧ 12 + 3 = 15 ∧ ((12 : Nat) : Int) + (49) = ((61 : Nat) : Int) := ⟨by decide +kernel, rfl, by decide⟩
set_option maxRecDepth 20000 in
theorem dX12_wrongs_15 : decode cX12_wrongs 15 = .ok (.iload_n 2, 1) ∧ 15 + 1 = 16 := ⟨by decide +kernel, rfl⟩
set_option maxRecDepth 20000 in
theorem dX12_wrongs_16 : decode cX12_wrongs 16 = .ok (.iload_n 3, 1) ∧ 16 + 1 = 17 := ⟨by decide +kernel, rfl⟩
set_option maxRecDepth 20000 in
theorem dX12_wrongs_17 : decode cX12_wrongs 17 = .ok (.aload_n 0, 1) ∧ 17 + 1 = 18 := ⟨by decide +kernel, rfl⟩
set_option maxRecDepth 20000 in
theorem dX12_wrongs_18 : decode cX12_wrongs 18 = .ok (.getfield 106, 3) ∧ 18 + 3 = 21 := ⟨by decide +kernel, rfl⟩
set_option maxRecDepth 20000 in
theorem dX12_wrongs_21 : decode cX12_wrongs 21 = .ok (.if_icmp .ne 7, 3) ∧ 21 + 3 = 24 ∧ ((21 : Nat) : Int) + (7) = ((28 : Nat) : Int) := ⟨by decide +kernel, rfl, by decide⟩
set_option maxRecDepth 20000 in
theorem dX12_wrongs_24 : decode cX12_wrongs 24 = .ok (.iconst 0, 1) ∧ 24 + 1 = 25 := ⟨by decide +kernel, rfl⟩
set_option maxRecDepth 20000 in
theorem dX12_wrongs_25 : decode cX12_wrongs 25 = .ok (.goto 28, 3) ∧ ((25 : Nat) : Int) + (28) = ((53 : Nat) : Int) := ⟨by decide +kernel, by decide⟩
set_option maxRecDepth 20000 in
theorem dX12_wrongs_28 : decode cX12_wrongs 28 = .ok (.aload_n 0, 1) ∧ 28 + 1 = 29 := ⟨by decide +kernel, rfl⟩
set_option maxRecDepth 20000 in
theorem dX12_wrongs_29 : decode cX12_wrongs 29 = .ok (.getfield 13, 3) ∧ 29 + 3 = 32 := ⟨by decide +kernel, rfl⟩
set_option maxRecDepth 20000 in
theorem dX12_wrongs_32 : decode cX12_wrongs 32 = .ok (.bipush 110, 2) ∧ 32 + 2 = 34 := ⟨by decide +kernel, rfl⟩
set_option maxRecDepth 20000 in
theorem dX12_wrongs_34 : decode cX12_wrongs 34 = .ok (.iconst 3, 1) ∧ 34 + 1 = 35 := ⟨by decide +kernel, rfl⟩
set_option maxRecDepth 20000 in
theorem dX12_wrongs_35 : decode cX12_wrongs 35 = .ok (.iload_n 3, 1) ∧ 35 + 1 = 36 := ⟨by decide +kernel, rfl⟩
set_option maxRecDepth 20000 in
theorem dX12_wrongs_36 : decode cX12_wrongs 36 = .ok (.imul, 1) ∧ 36 + 1 = 37 := ⟨by decide +kernel, rfl⟩
set_option maxRecDepth 20000 in
theorem dX12_wrongs_37 : decode cX12_wrongs 37 = .ok (.iadd, 1) ∧ 37 + 1 = 38 := ⟨by decide +kernel, rfl⟩
set_option maxRecDepth 20000 in
theorem dX12_wrongs_38 : decode cX12_wrongs 38 = .ok (.iconst 1, 1) ∧ 38 + 1 = 39 := ⟨by decide +kernel, rfl⟩
set_option maxRecDepth 20000 in
theorem dX12_wrongs_39 : decode cX12_wrongs 39 = .ok (.iadd, 1) ∧ 39 + 1 = 40 := ⟨by decide +kernel, rfl⟩
set_option maxRecDepth 20000 in
theorem dX12_wrongs_40 : decode cX12_wrongs 40 = .ok (.iaload, 1) ∧ 40 + 1 = 41 := ⟨by decide +kernel, rfl⟩
set_option maxRecDepth 20000 in
theorem dX12_wrongs_41 : decode cX12_wrongs 41 = .ok (.aload_n 0, 1) ∧ 41 + 1 = 42 := ⟨by decide +kernel, rfl⟩
set_option maxRecDepth 20000 in
theorem dX12_wrongs_42 : decode cX12_wrongs 42 = .ok (.iload_n 3, 1) ∧ 42 + 1 = 43 := ⟨by decide +kernel, rfl⟩
set_option maxRecDepth 20000 in
theorem dX12_wrongs_43 : decode cX12_wrongs 43 = .ok (.invokevirtual 460, 3) ∧ 43 + 3 = 46 := ⟨by decide +kernel, rfl⟩
set_option maxRecDepth 20000 in
theorem dX12_wrongs_46 : decode cX12_wrongs 46 = .ok (.iconst (-1), 1) ∧ 46 + 1 = 47 := ⟨by decide +kernel, rfl⟩
set_option maxRecDepth 20000 in
theorem dX12_wrongs_47 : decode cX12_wrongs 47 = .ok (.ixor, 1) ∧ 47 + 1 = 48 := ⟨by decide +kernel, rfl⟩
set_option maxRecDepth 20000 in
theorem dX12_wrongs_48 : decode cX12_wrongs 48 = .ok (.iand, 1) ∧ 48 + 1 = 49 := ⟨by decide +kernel, rfl⟩
set_option maxRecDepth 20000 in
theorem dX12_wrongs_49 : decode cX12_wrongs 49 = .ok (.iload_n 1, 1) ∧ 49 + 1 = 50 := ⟨by decide +kernel, rfl⟩
set_option maxRecDepth 20000 in
theorem dX12_wrongs_50 : decode cX12_wrongs 50 = .ok (.ishr, 1) ∧ 50 + 1 = 51 := ⟨by decide +kernel, rfl⟩
set_option maxRecDepth 20000 in
theorem dX12_wrongs_51 : decode cX12_wrongs 51 = .ok (.iconst 1, 1) ∧ 51 + 1 = 52 := ⟨by decide +kernel, rfl⟩
set_option maxRecDepth 20000 in
theorem dX12_wrongs_52 : decode cX12_wrongs 52 = .ok (.iand, 1) ∧ 52 + 1 = 53 := ⟨by decide +kernel, rfl⟩
set_option maxRecDepth 20000 in
theorem dX12_wrongs_53 : decode cX12_wrongs 53 = .ok (.iadd, 1) ∧ 53 + 1 = 54 := ⟨by decide +kernel, rfl⟩
set_option maxRecDepth 20000 in
theorem dX12_wrongs_54 : decode cX12_wrongs 54 = .ok (.istore_n 2, 1) ∧ 54 + 1 = 55 := ⟨by decide +kernel, rfl⟩
set_option maxRecDepth 20000 in
theorem dX12_wrongs_55 : decode cX12_wrongs 55 = .ok (.iinc 3 1, 3) ∧ 55 + 3 = 58 := ⟨by decide +kernel, rfl⟩
set_option maxRecDepth 20000 in
theorem dX12_wrongs_58 : decode cX12_wrongs 58 = .ok (.goto (-54), 3) ∧ ((58 : Nat) : Int) + (-54) = ((4 : Nat) : Int) := ⟨by decide +kernel, by decide⟩
set_option maxRecDepth 20000 in
theorem dX12_wrongs_61 : decode cX12_wrongs 61 = .ok (.iload_n 2, 1) ∧ 61 + 1 = 62 := ⟨by decide +kernel, rfl⟩
set_option maxRecDepth 20000 in
theorem dX12_wrongs_62 : decode cX12_wrongs 62 = .ok (.ireturn, 1) := by decide +kernel
set_option maxRecDepth 20000 in
theorem dX12_right_0 : decode cX12_right 0 = .ok (.aload_n 0, 1) ∧ 0 + 1 = 1 := ⟨by decide +kernel, rfl⟩
set_option maxRecDepth 20000 in
theorem dX12_right_1 : decode cX12_right 1 = .ok (.iconst 0, 1) ∧ 1 + 1 = 2 := ⟨by decide +kernel, rfl⟩
set_option maxRecDepth 20000 in
theorem dX12_right_2 : decode cX12_right 2 = .ok (.putfield 124, 3) ∧ 2 + 3 = 5 := ⟨by decide +kernel, rfl⟩
set_option maxRecDepth 20000 in
theorem dX12_right_5 : decode cX12_right 5 = .ok (.iload_n 1, 1) ∧ 5 + 1 = 6 := ⟨by decide +kernel, rfl⟩
set_option maxRecDepth 20000 in
theorem dX12_right_6 : decode cX12_right 6 = .ok (.iconst (-1), 1) ∧ 6 + 1 = 7 := ⟨by decide +kernel, rfl⟩
set_option maxRecDepth 20000 in
theorem dX12_right_7 : decode cX12_right 7 = .ok (.if_icmp .ne 71, 3) ∧ 7 + 3 = 10 ∧ ((7 : Nat) : Int) + (71) = ((78 : Nat) : Int) := ⟨by decide +kernel, rfl, by decide⟩
set_option maxRecDepth 20000 in
theorem dX12_right_10 : decode cX12_right 10 = .ok (.iload_n 2, 1) ∧ 10 + 1 = 11 := ⟨by decide +kernel, rfl⟩
set_option maxRecDepth 20000 in
theorem dX12_right_11 : decode cX12_right 11 = .ok (.ifCond .ne 67, 3) ∧ 11 + 3 = 14 ∧ ((11 : Nat) : Int) + (67) = ((78 : Nat) : Int) := ⟨by decide +kernel, rfl, by decide⟩
set_option maxRecDepth 20000 in
theorem dX12_right_14 : decode cX12_right 14 = .ok (.iconst 0, 1) ∧ 14 + 1 = 15 := ⟨by decide +kernel, rfl⟩
set_option maxRecDepth 20000 in
theorem dX12_right_15 : decode cX12_right 15 = .ok (.istore_n 3, 1) ∧ 15 + 1 = 16 := ⟨by decide +kernel, rfl⟩
set_option maxRecDepth 20000 in
theorem dX12_right_16 : decode cX12_right 16 = .ok (.iconst 0, 1) ∧ 16 + 1 = 17 := ⟨by decide +kernel, rfl⟩
set_option maxRecDepth 20000 in
theorem dX12_right_17 : decode cX12_right 17 = .ok (.istore 4, 2) ∧ 17 + 2 = 19 := ⟨by decide +kernel, rfl⟩
set_option maxRecDepth 20000 in
theorem dX12_right_19 : decode cX12_right 19 = .ok (.iload 4, 2) ∧ 19 + 2 = 21 := ⟨by decide +kernel, rfl⟩
set_option maxRecDepth 20000 in
theorem dX12_right_21 : decode cX12_right 21 = .ok (.aload_n 0, 1) ∧ 21 + 1 = 22 := ⟨by decide +kernel, rfl⟩
set_option maxRecDepth 20000 in
theorem dX12_right_22 : decode cX12_right 22 = .ok (.getfield 13, 3) ∧ 22 + 3 = 25 := ⟨by decide +kernel, rfl⟩
set_option maxRecDepth 20000 in
theorem dX12_right_25 : decode cX12_right 25 = .ok (.bipush 11, 2) ∧ 25 + 2 = 27 := ⟨by decide +kernel, rfl⟩
set_option maxRecDepth 20000 in
theorem dX12_right_27 : decode cX12_right 27 = .ok (.iaload, 1) ∧ 27 + 1 = 28 := ⟨by decide +kernel, rfl⟩
set_option maxRecDepth 20000 in
theorem dX12_right_28 : decode cX12_right 28 = .ok (.if_icmp .ge 48, 3) ∧ 28 + 3 = 31 ∧ ((28 : Nat) : Int) + (48) = ((76 : Nat) : Int) := ⟨by decide +kernel, rfl, by decide⟩
set_option maxRecDepth 20000 in
theorem dX12_right_31 : decode cX12_right 31 = .ok (.iload_n 3, 1) ∧ 31 + 1 = 32 := ⟨by decide +kernel, rfl⟩
set_option maxRecDepth 20000 in
theorem dX12_right_32 : decode cX12_right 32 = .ok (.iconst 2, 1) ∧ 32 + 1 = 33 := ⟨by decide +kernel, rfl⟩
set_option maxRecDepth 20000 in
theorem dX12_right_33 : decode cX12_right 33 = .ok (.aload_n 0, 1) ∧ 33 + 1 = 34 := ⟨by decide +kernel, rfl⟩
set_option maxRecDepth 20000 in
theorem dX12_right_34 : decode cX12_right 34 = .ok (.iload 4, 2) ∧ 34 + 2 = 36 := ⟨by decide +kernel, rfl⟩
set_option maxRecDepth 20000 in
theorem dX12_right_36 : decode cX12_right 36 = .ok (.invokevirtual 460, 3) ∧ 36 + 3 = 39 := ⟨by decide +kernel, rfl⟩
set_option maxRecDepth 20000 in
theorem dX12_right_39 : decode cX12_right 39 = .ok (.invokestatic 435, 3) ∧ 39 + 3 = 42 := ⟨by decide +kernel, rfl⟩
set_option maxRecDepth 20000 in
theorem dX12_right_42 : decode cX12_right 42 = .ok (.imul, 1) ∧ 42 + 1 = 43 := ⟨by decide +kernel, rfl⟩
set_option maxRecDepth 20000 in
theorem dX12_right_43 : decode cX12_right 43 = .ok (.aload_n 0, 1) ∧ 43 + 1 = 44 := ⟨by decide +kernel, rfl⟩
set_option maxRecDepth 20000 in
theorem dX12_right_44 : decode cX12_right 44 = .ok (.getfield 13, 3) ∧ 44 + 3 = 47 := ⟨by decide +kernel, rfl⟩
set_option maxRecDepth 20000 in
theorem dX12_right_47 : decode cX12_right 47 = .ok (.bipush 110, 2) ∧ 47 + 2 = 49 := ⟨by decide +kernel, rfl⟩
set_option maxRecDepth 20000 in
theorem dX12_right_49 : decode cX12_right 49 = .ok (.iconst 3, 1) ∧ 49 + 1 = 50 := ⟨by decide +kernel, rfl⟩
set_option maxRecDepth 20000 in
theorem dX12_right_50 : decode cX12_right 50 = .ok (.iload 4, 2) ∧ 50 + 2 = 52 := ⟨by decide +kernel, rfl⟩
set_option maxRecDepth 20000 in
theorem dX12_right_52 : decode cX12_right 52 = .ok (.imul, 1) ∧ 52 + 1 = 53 := ⟨by decide +kernel, rfl⟩
set_option maxRecDepth 20000 in
theorem dX12_right_53 : decode cX12_right 53 = .ok (.iadd, 1) ∧ 53 + 1 = 54 := ⟨by decide +kernel, rfl⟩
set_option maxRecDepth 20000 in
theorem dX12_right_54 : decode cX12_right 54 = .ok (.iconst 1, 1) ∧ 54 + 1 = 55 := ⟨by decide +kernel, rfl⟩
set_option maxRecDepth 20000 in
theorem dX12_right_55 : decode cX12_right 55 = .ok (.iadd, 1) ∧ 55 + 1 = 56 := ⟨by decide +kernel, rfl⟩
set_option maxRecDepth 20000 in
theorem dX12_right_56 : decode cX12_right 56 = .ok (.iaload, 1) ∧ 56 + 1 = 57 := ⟨by decide +kernel, rfl⟩
set_option maxRecDepth 20000 in
theorem dX12_right_57 : decode cX12_right 57 = .ok (.invokestatic 435, 3) ∧ 57 + 3 = 60 := ⟨by decide +kernel, rfl⟩
set_option maxRecDepth 20000 in
theorem dX12_right_60 : decode cX12_right 60 = .ok (.if_icmp .le 7, 3) ∧ 60 + 3 = 63 ∧ ((60 : Nat) : Int) + (7) = ((67 : Nat) : Int) := ⟨by decide +kernel, rfl, by decide⟩
set_option maxRecDepth 20000 in
theorem dX12_right_63 : decode cX12_right 63 = .ok (.iconst 1, 1) ∧ 63 + 1 = 64 := ⟨by decide +kernel, rfl⟩
set_option maxRecDepth 20000 in
theorem dX12_right_64 : decode cX12_right 64 = .ok (.goto 4, 3) ∧ ((64 : Nat) : Int) + (4) = ((68 : Nat) : Int) := ⟨by decide +kernel, by decide⟩
set_option maxRecDepth 20000 in
theorem dX12_right_67 : decode cX12_right 67 = .ok (.iconst 0, 1) ∧ 67 + 1 = 68 := ⟨by decide +kernel, rfl⟩
set_option maxRecDepth 20000 in
theorem dX12_right_68 : decode cX12_right 68 = .ok (.iadd, 1) ∧ 68 + 1 = 69 := ⟨by decide +kernel, rfl⟩
set_option maxRecDepth 20000 in
theorem dX12_right_69 : decode cX12_right 69 = .ok (.istore_n 3, 1) ∧ 69 + 1 = 70 := ⟨by decide +kernel, rfl⟩
set_option maxRecDepth 20000 in
theorem dX12_right_70 : decode cX12_right 70 = .ok (.iinc 4 1, 3) ∧ 70 + 3 = 73 := ⟨by decide +kernel, rfl⟩
set_option maxRecDepth 20000 in
theorem dX12_right_73 : decode cX12_right 73 = .ok (.goto (-54), 3) ∧ ((73 : Nat) : Int) + (-54) = ((19 : Nat) : Int) := ⟨by decide +kernel, by decide⟩
set_option maxRecDepth 20000 in
theorem dX12_right_76 : decode cX12_right 76 = .ok (.iload_n 3, 1) ∧ 76 + 1 = 77 := ⟨by decide +kernel, rfl⟩
set_option maxRecDepth 20000 in
theorem dX12_right_77 : decode cX12_right 77 = .ok (.ireturn, 1) := by decide +kernel
set_option maxRecDepth 20000 in
theorem dX12_right_78 : decode cX12_right 78 = .ok (.iload_n 1, 1) ∧ 78 + 1 = 79 := ⟨by decide +kernel, rfl⟩
set_option maxRecDepth 20000 in
theorem dX12_right_79 : decode cX12_right 79 = .ok (.i2l, 1) ∧ 79 + 1 = 80 := ⟨by decide +kernel, rfl⟩
set_option maxRecDepth 20000 in
theorem dX12_right_80 : decode cX12_right 80 = .ok (.lconst 0, 1) ∧ 80 + 1 = 81 := ⟨by decide +kernel, rfl⟩
set_option maxRecDepth 20000 in
theorem dX12_right_81 : decode cX12_right 81 = .ok (.ldc2_w 384, 3) ∧ 81 + 3 = 84 := ⟨by decide +kernel, rfl⟩
set_option maxRecDepth 20000 in
theorem dX12_right_84 : decode cX12_right 84 = .ok (.invokestatic 134, 3) ∧ 84 + 3 = 87 := ⟨by decide +kernel, rfl⟩
set_option maxRecDepth 20000 in
theorem dX12_right_87 : decode cX12_right 87 = .ok (.ifCond .eq 13, 3) ∧ 87 + 3 = 90 ∧ ((87 : Nat) : Int) + (13) = ((100 : Nat) : Int) := ⟨by decide +kernel, rfl, by decide⟩
set_option maxRecDepth 20000 in
theorem dX12_right_90 : decode cX12_right 90 = .ok (.iload_n 2, 1) ∧ 90 + 1 = 91 := ⟨by decide +kernel, rfl⟩
set_option maxRecDepth 20000 in
theorem dX12_right_91 : decode cX12_right 91 = .ok (.i2l, 1) ∧ 91 + 1 = 92 := ⟨by decide +kernel, rfl⟩
set_option maxRecDepth 20000 in
theorem dX12_right_92 : decode cX12_right 92 = .ok (.lconst 0, 1) ∧ 92 + 1 = 93 := ⟨by decide +kernel, rfl⟩
set_option maxRecDepth 20000 in
theorem dX12_right_93 : decode cX12_right 93 = .ok (.lconst 1, 1) ∧ 93 + 1 = 94 := ⟨by decide +kernel, rfl⟩
set_option maxRecDepth 20000 in
theorem dX12_right_94 : decode cX12_right 94 = .ok (.invokestatic 134, 3) ∧ 94 + 3 = 97 := ⟨by decide +kernel, rfl⟩
set_option maxRecDepth 20000 in
theorem dX12_right_97 : decode cX12_right 97 = .ok (.ifCond .ne 7, 3) ∧ 97 + 3 = 100 ∧ ((97 : Nat) : Int) + (7) = ((104 : Nat) : Int) := ⟨by decide +kernel, rfl, by decide⟩
set_option maxRecDepth 20000 in
theorem dX12_right_100 : decode cX12_right 100 = .ok (.iconst (-1), 1) ∧ 100 + 1 = 101 := ⟨by decide +kernel, rfl⟩
set_option maxRecDepth 20000 in
theorem dX12_right_101 : decode cX12_right 101 = .ok (.goto 20, 3) ∧ ((101 : Nat) : Int) + (20) = ((121 : Nat) : Int) := ⟨by decide +kernel, by decide⟩
set_option maxRecDepth 20000 in
theorem dX12_right_104 : decode cX12_right 104 = .ok (.iload_n 2, 1) ∧ 104 + 1 = 105 := ⟨by decide +kernel, rfl⟩
set_option maxRecDepth 20000 in
theorem dX12_right_105 : decode cX12_right 105 = .ok (.ifCond .ne 11, 3) ∧ 105 + 3 = 108 ∧ ((105 : Nat) : Int) + (11) = ((116 : Nat) : Int) := ⟨by decide +kernel, rfl, by decide⟩
set_option maxRecDepth 20000 in
theorem dX12_right_108 : decode cX12_right 108 = .ok (.aload_n 0, 1) ∧ 108 + 1 = 109 := ⟨by decide +kernel, rfl⟩
set_option maxRecDepth 20000 in
theorem dX12_right_109 : decode cX12_right 109 = .ok (.iload_n 1, 1) ∧ 109 + 1 = 110 := ⟨by decide +kernel, rfl⟩
set_option maxRecDepth 20000 in
theorem dX12_right_110 : decode cX12_right 110 = .ok (.invokevirtual 463, 3) ∧ 110 + 3 = 113 := ⟨by decide +kernel, rfl⟩
set_option maxRecDepth 20000 in
theorem dX12_right_113 : decode cX12_right 113 = .ok (.goto 8, 3) ∧ ((113 : Nat) : Int) + (8) = ((121 : Nat) : Int) := ⟨by decide +kernel, by decide⟩
set_option maxRecDepth 20000 in
theorem dX12_right_116 : decode cX12_right 116 = .ok (.aload_n 0, 1) ∧ 116 + 1 = 117 := ⟨by decide +kernel, rfl⟩
set_option maxRecDepth 20000 in
theorem dX12_right_117 : decode cX12_right 117 = .ok (.iload_n 1, 1) ∧ 117 + 1 = 118 := ⟨by decide +kernel, rfl⟩
set_option maxRecDepth 20000 in
theorem dX12_right_118 : decode cX12_right 118 = .ok (.invokevirtual 466, 3) ∧ 118 + 3 = 121 := ⟨by decide +kernel, rfl⟩
set_option maxRecDepth 20000 in
theorem dX12_right_121 : decode cX12_right 121 = .ok (.ireturn, 1) := by decide +kernel
set_option maxRecDepth 20000 in
theorem dX12_isAhead_0 : decode cX12_isAhead 0 = .ok (.aload_n 0, 1) ∧ 0 + 1 = 1 := ⟨by decide +kernel, rfl⟩
set_option maxRecDepth 20000 in
theorem dX12_isAhead_1 : decode cX12_isAhead 1 = .ok (.iload_n 1, 1) ∧ 1 + 1 = 2 := ⟨by decide +kernel, rfl⟩
set_option maxRecDepth 20000 in
theorem dX12_isAhead_2 : decode cX12_isAhead 2 = .ok (.invokevirtual 463, 3) ∧ 2 + 3 = 5 := ⟨by decide +kernel, rfl⟩
set_option maxRecDepth 20000 in
theorem dX12_isAhead_5 : decode cX12_isAhead 5 = .ok (.iconst 1, 1) ∧ 5 + 1 = 6 := ⟨by decide +kernel, rfl⟩
set_option maxRecDepth 20000 in
theorem dX12_isAhead_6 : decode cX12_isAhead 6 = .ok (.iadd, 1) ∧ 6 + 1 = 7 := ⟨by decide +kernel, rfl⟩
set_option maxRecDepth 20000 in
theorem dX12_isAhead_7 : decode cX12_isAhead 7 = .ok (.aload_n 0, 1) ∧ 7 + 1 = 8 := ⟨by decide +kernel, rfl⟩
set_option maxRecDepth 20000 in
theorem dX12_isAhead_8 : decode cX12_isAhead 8 = .ok (.iload_n 2, 1) ∧ 8 + 1 = 9 := ⟨by decide +kernel, rfl⟩
set_option maxRecDepth 20000 in
theorem dX12_isAhead_9 : decode cX12_isAhead 9 = .ok (.invokevirtual 463, 3) ∧ 9 + 3 = 12 := ⟨by decide +kernel, rfl⟩
set_option maxRecDepth 20000 in
theorem dX12_isAhead_12 : decode cX12_isAhead 12 = .ok (.aload_n 0, 1) ∧ 12 + 1 = 13 := ⟨by decide +kernel, rfl⟩
set_option maxRecDepth 20000 in
theorem dX12_isAhead_13 : decode cX12_isAhead 13 = .ok (.iload_n 2, 1) ∧ 13 + 1 = 14 := ⟨by decide +kernel, rfl⟩
set_option maxRecDepth 20000 in
theorem dX12_isAhead_14 : decode cX12_isAhead 14 = .ok (.invokevirtual 466, 3) ∧ 14 + 3 = 17 := ⟨by decide +kernel, rfl⟩
set_option maxRecDepth 20000 in
theorem dX12_isAhead_17 : decode cX12_isAhead 17 = .ok (.iadd, 1) ∧ 17 + 1 = 18 := ⟨by decide +kernel, rfl⟩
set_option maxRecDepth 20000 in
theorem dX12_isAhead_18 : decode cX12_isAhead 18 = .ok (.iconst 2, 1) ∧ 18 + 1 = 19 := ⟨by decide +kernel, rfl⟩
set_option maxRecDepth 20000 in
theorem dX12_isAhead_19 : decode cX12_isAhead 19 = .ok (.iadd, 1) ∧ 19 + 1 = 20 := ⟨by decide +kernel, rfl⟩
set_option maxRecDepth 20000 in
theorem dX12_isAhead_20 : decode cX12_isAhead 20 = .ok (.imul, 1) ∧ 20 + 1 = 21 := ⟨by decide +kernel, rfl⟩
set_option maxRecDepth 20000 in
theorem dX12_isAhead_21 : decode cX12_isAhead 21 = .ok (.istore_n 3, 1) ∧ 21 + 1 = 22 := ⟨by decide +kernel, rfl⟩
set_option maxRecDepth 20000 in
theorem dX12_isAhead_22 : decode cX12_isAhead 22 = .ok (.aload_n 0, 1) ∧ 22 + 1 = 23 := ⟨by decide +kernel, rfl⟩
set_option maxRecDepth 20000 in
theorem dX12_isAhead_23 : decode cX12_isAhead 23 = .ok (.iload_n 2, 1) ∧ 23 + 1 = 24 := ⟨by decide +kernel, rfl⟩
set_option maxRecDepth 20000 in
theorem dX12_isAhead_24 : decode cX12_isAhead 24 = .ok (.invokevirtual 463, 3) ∧ 24 + 3 = 27 := ⟨by decide +kernel, rfl⟩
set_option maxRecDepth 20000 in
theorem dX12_isAhead_27 : decode cX12_isAhead 27 = .ok (.iconst 1, 1) ∧ 27 + 1 = 28 := ⟨by decide +kernel, rfl⟩
set_option maxRecDepth 20000 in
theorem dX12_isAhead_28 : decode cX12_isAhead 28 = .ok (.iadd, 1) ∧ 28 + 1 = 29 := ⟨by decide +kernel, rfl⟩
set_option maxRecDepth 20000 in
theorem dX12_isAhead_29 : decode cX12_isAhead 29 = .ok (.aload_n 0, 1) ∧ 29 + 1 = 30 := ⟨by decide +kernel, rfl⟩
set_option maxRecDepth 20000 in
theorem dX12_isAhead_30 : decode cX12_isAhead 30 = .ok (.iload_n 1, 1) ∧ 30 + 1 = 31 := ⟨by decide +kernel, rfl⟩
set_option maxRecDepth 20000 in
theorem dX12_isAhead_31 : decode cX12_isAhead 31 = .ok (.invokevirtual 463, 3) ∧ 31 + 3 = 34 := ⟨by decide +kernel, rfl⟩
set_option maxRecDepth 20000 in
theorem dX12_isAhead_34 : decode cX12_isAhead 34 = .ok (.aload_n 0, 1) ∧ 34 + 1 = 35 := ⟨by decide +kernel, rfl⟩
set_option maxRecDepth 20000 in
theorem dX12_isAhead_35 : decode cX12_isAhead 35 = .ok (.iload_n 1, 1) ∧ 35 + 1 = 36 := ⟨by decide +kernel, rfl⟩
set_option maxRecDepth 20000 in
theorem dX12_isAhead_36 : decode cX12_isAhead 36 = .ok (.invokevirtual 466, 3) ∧ 36 + 3 = 39 := ⟨by decide +kernel, rfl⟩
set_option maxRecDepth 20000 in
theorem dX12_isAhead_39 : decode cX12_isAhead 39 = .ok (.iadd, 1) ∧ 39 + 1 = 40 := ⟨by decide +kernel, rfl⟩
set_option maxRecDepth 20000 in
theorem dX12_isAhead_40 : decode cX12_isAhead 40 = .ok (.iconst 2, 1) ∧ 40 + 1 = 41 := ⟨by decide +kernel, rfl⟩
set_option maxRecDepth 20000 in
theorem dX12_isAhead_41 : decode cX12_isAhead 41 = .ok (.iadd, 1) ∧ 41 + 1 = 42 := ⟨by decide +kernel, rfl⟩
set_option maxRecDepth 20000 in
theorem dX12_isAhead_42 : decode cX12_isAhead 42 = .ok (.imul, 1) ∧ 42 + 1 = 43 := ⟨by decide +kernel, rfl⟩
set_option maxRecDepth 20000 in
theorem dX12_isAhead_43 : decode cX12_isAhead 43 = .ok (.istore 4, 2) ∧ 43 + 2 = 45 := ⟨by decide +kernel, rfl⟩
set_option maxRecDepth 20000 in
theorem dX12_isAhead_45 : decode cX12_isAhead 45 = .ok (.iload_n 3, 1) ∧ 45 + 1 = 46 := ⟨by decide +kernel, rfl⟩
set_option maxRecDepth 20000 in
theorem dX12_isAhead_46 : decode cX12_isAhead 46 = .ok (.iload 4, 2) ∧ 46 + 2 = 48 := ⟨by decide +kernel, rfl⟩
set_option maxRecDepth 20000 in
theorem dX12_isAhead_48 : decode cX12_isAhead 48 = .ok (.if_icmp .gt 14, 3) ∧ 48 + 3 = 51 ∧ ((48 : Nat) : Int) + (14) = ((62 : Nat) : Int) := ⟨by decide +kernel, rfl, by decide⟩
set_option maxRecDepth 20000 in
theorem dX12_isAhead_51 : decode cX12_isAhead 51 = .ok (.iload_n 3, 1) ∧ 51 + 1 = 52 := ⟨by decide +kernel, rfl⟩
set_option maxRecDepth 20000 in
theorem dX12_isAhead_52 : decode cX12_isAhead 52 = .ok (.iload 4, 2) ∧ 52 + 2 = 54 := ⟨by decide +kernel, rfl⟩
set_option maxRecDepth 20000 in
theorem dX12_isAhead_54 : decode cX12_isAhead 54 = .ok (.if_icmp .ne 12, 3) ∧ 54 + 3 = 57 ∧ ((54 : Nat) : Int) + (12) = ((66 : Nat) : Int) := ⟨by decide +kernel, rfl, by decide⟩
set_option maxRecDepth 20000 in
theorem dX12_isAhead_57 : decode cX12_isAhead 57 = .ok (.iload_n 1, 1) ∧ 57 + 1 = 58 := ⟨by decide +kernel, rfl⟩
set_option maxRecDepth 20000 in
theorem dX12_isAhead_58 : decode cX12_isAhead 58 = .ok (.iload_n 2, 1) ∧ 58 + 1 = 59 := ⟨by decide +kernel, rfl⟩
set_option maxRecDepth 20000 in
theorem dX12_isAhead_59 : decode cX12_isAhead 59 = .ok (.if_icmp .ge 7, 3) ∧ 59 + 3 = 62 ∧ ((59 : Nat) : Int) + (7) = ((66 : Nat) : Int) := ⟨by decide +kernel, rfl, by decide⟩
set_option maxRecDepth 20000 in
theorem dX12_isAhead_62 : decode cX12_isAhead 62 = .ok (.iconst 1, 1) ∧ 62 + 1 = 63 := ⟨by decide +kernel, rfl⟩
set_option maxRecDepth 20000 in
theorem dX12_isAhead_63 : decode cX12_isAhead 63 = .ok (.goto 4, 3) ∧ ((63 : Nat) : Int) + (4) = ((67 : Nat) : Int) := ⟨by decide +kernel, by decide⟩
set_option maxRecDepth 20000 in
theorem dX12_isAhead_66 : decode cX12_isAhead 66 = .ok (.iconst 0, 1) ∧ 66 + 1 = 67 := ⟨by decide +kernel, rfl⟩
set_option maxRecDepth 20000 in
theorem dX12_isAhead_67 : decode cX12_isAhead 67 = .ok (.ireturn, 1) := by decide +kernel
set_option maxRecDepth 20000 in
theorem dX12_trusted_0 : decode cX12_trusted 0 = .ok (.aload_n 0, 1) ∧ 0 + 1 = 1 := ⟨by decide +kernel, rfl⟩
set_option maxRecDepth 20000 in
theorem dX12_trusted_1 : decode cX12_trusted 1 = .ok (.iconst 0, 1) ∧ 1 + 1 = 2 := ⟨by decide +kernel, rfl⟩
set_option maxRecDepth 20000 in
theorem dX12_trusted_2 : decode cX12_trusted 2 = .ok (.putfield 124, 3) ∧ 2 + 3 = 5 := ⟨by decide +kernel, rfl⟩
set_option maxRecDepth 20000 in
theorem dX12_trusted_5 : decode cX12_trusted 5 = .ok (.iconst 0, 1) ∧ 5 + 1 = 6 := ⟨by decide +kernel, rfl⟩
set_option maxRecDepth 20000 in
theorem dX12_trusted_6 : decode cX12_trusted 6 = .ok (.istore_n 2, 1) ∧ 6 + 1 = 7 := ⟨by decide +kernel, rfl⟩
set_option maxRecDepth 20000 in
theorem dX12_trusted_7 : decode cX12_trusted 7 = .ok (.iload_n 2, 1) ∧ 7 + 1 = 8 := ⟨by decide +kernel, rfl⟩
set_option maxRecDepth 20000 in
theorem dX12_trusted_8 : decode cX12_trusted 8 = .ok (.aload_n 0, 1) ∧ 8 + 1 = 9 := ⟨by decide +kernel, rfl⟩
set_option maxRecDepth 20000 in
theorem dX12_trusted_9 : decode cX12_trusted 9 = .ok (.getfield 13, 3) ∧ 9 + 3 = 12 := ⟨by decide +kernel, rfl⟩
set_option maxRecDepth 20000 in
theorem dX12_trusted_12 : decode cX12_trusted 12 = .ok (.iconst 0, 1) ∧ 12 + 1 = 13 := ⟨by decide +kernel, rfl⟩
set_option maxRecDepth 20000 in
theorem dX12_trusted_13 : decode cX12_trusted 13 = .ok (.iaload, 1) ∧ 13 + 1 = 14 := ⟨by decide +kernel, rfl⟩
set_option maxRecDepth 20000 in
theorem dX12_trusted_14 : decode cX12_trusted 14 = .ok (.if_icmp .ge 62, 3) ∧ 14 + 3 = 17 ∧ ((14 : Nat) : Int) + (62) = ((76 : Nat) : Int) := ⟨by decide +kernel, rfl, by decide⟩
set_option maxRecDepth 20000 in
theorem dX12_trusted_17 : decode cX12_trusted 17 = .ok (.iconst 0, 1) ∧ 17 + 1 = 18 := ⟨by decide +kernel, rfl⟩
set_option maxRecDepth 20000 in
theorem dX12_trusted_18 : decode cX12_trusted 18 = .ok (.istore_n 3, 1) ∧ 18 + 1 = 19 := ⟨by decide +kernel, rfl⟩
set_option maxRecDepth 20000 in
theorem dX12_trusted_19 : decode cX12_trusted 19 = .ok (.iconst 0, 1) ∧ 19 + 1 = 20 := ⟨by decide +kernel, rfl⟩
set_option maxRecDepth 20000 in
theorem dX12_trusted_20 : decode cX12_trusted 20 = .ok (.istore 4, 2) ∧ 20 + 2 = 22 := ⟨by decide +kernel, rfl⟩
set_option maxRecDepth 20000 in
theorem dX12_trusted_22 : decode cX12_trusted 22 = .ok (.iload 4, 2) ∧ 22 + 2 = 24 := ⟨by decide +kernel, rfl⟩
set_option maxRecDepth 20000 in
theorem dX12_trusted_24 : decode cX12_trusted 24 = .ok (.aload_n 0, 1) ∧ 24 + 1 = 25 := ⟨by decide +kernel, rfl⟩
set_option maxRecDepth 20000 in
theorem dX12_trusted_25 : decode cX12_trusted 25 = .ok (.getfield 13, 3) ∧ 25 + 3 = 28 := ⟨by decide +kernel, rfl⟩
set_option maxRecDepth 20000 in
theorem dX12_trusted_28 : decode cX12_trusted 28 = .ok (.iconst 0, 1) ∧ 28 + 1 = 29 := ⟨by decide +kernel, rfl⟩
set_option maxRecDepth 20000 in
theorem dX12_trusted_29 : decode cX12_trusted 29 = .ok (.iaload, 1) ∧ 29 + 1 = 30 := ⟨by decide +kernel, rfl⟩
set_option maxRecDepth 20000 in
theorem dX12_trusted_30 : decode cX12_trusted 30 = .ok (.if_icmp .ge 33, 3) ∧ 30 + 3 = 33 ∧ ((30 : Nat) : Int) + (33) = ((63 : Nat) : Int) := ⟨by decide +kernel, rfl, by decide⟩
set_option maxRecDepth 20000 in
theorem dX12_trusted_33 : decode cX12_trusted 33 = .ok (.iload_n 3, 1) ∧ 33 + 1 = 34 := ⟨by decide +kernel, rfl⟩
set_option maxRecDepth 20000 in
theorem dX12_trusted_34 : decode cX12_trusted 34 = .ok (.iload 4, 2) ∧ 34 + 2 = 36 := ⟨by decide +kernel, rfl⟩
set_option maxRecDepth 20000 in
theorem dX12_trusted_36 : decode cX12_trusted 36 = .ok (.iload_n 2, 1) ∧ 36 + 1 = 37 := ⟨by decide +kernel, rfl⟩
set_option maxRecDepth 20000 in
theorem dX12_trusted_37 : decode cX12_trusted 37 = .ok (.if_icmp .eq 17, 3) ∧ 37 + 3 = 40 ∧ ((37 : Nat) : Int) + (17) = ((54 : Nat) : Int) := ⟨by decide +kernel, rfl, by decide⟩
set_option maxRecDepth 20000 in
theorem dX12_trusted_40 : decode cX12_trusted 40 = .ok (.aload_n 0, 1) ∧ 40 + 1 = 41 := ⟨by decide +kernel, rfl⟩
set_option maxRecDepth 20000 in
theorem dX12_trusted_41 : decode cX12_trusted 41 = .ok (.iload 4, 2) ∧ 41 + 2 = 43 := ⟨by decide +kernel, rfl⟩
set_option maxRecDepth 20000 in
theorem dX12_trusted_43 : decode cX12_trusted 43 = .ok (.iload_n 2, 1) ∧ 43 + 1 = 44 := ⟨by decide +kernel, rfl⟩
set_option maxRecDepth 20000 in
theorem dX12_trusted_44 : decode cX12_trusted 44 = .ok (.invokevirtual 469, 3) ∧ 44 + 3 = 47 := ⟨by decide +kernel, rfl⟩
set_option maxRecDepth 20000 in
theorem dX12_trusted_47 : decode cX12_trusted 47 = .ok (.ifCond .eq 7, 3) ∧ 47 + 3 = 50 ∧ ((47 : Nat) : Int) + (7) = ((54 : Nat) : Int) := ⟨by decide +kernel, rfl, by decide⟩
set_option maxRecDepth 20000 in
theorem dX12_trusted_50 : decode cX12_trusted 50 = .ok (.iconst 1, 1) ∧ 50 + 1 = 51 := ⟨by decide +kernel, rfl⟩
set_option maxRecDepth 20000 in
theorem dX12_trusted_51 : decode cX12_trusted 51 = .ok (.goto 4, 3) ∧ ((51 : Nat) : Int) + (4) = ((55 : Nat) : Int) := ⟨by decide +kernel, by decide⟩
set_option maxRecDepth 20000 in
theorem dX12_trusted_54 : decode cX12_trusted 54 = .ok (.iconst 0, 1) ∧ 54 + 1 = 55 := ⟨by decide +kernel, rfl⟩
set_option maxRecDepth 20000 in
theorem dX12_trusted_55 : decode cX12_trusted 55 = .ok (.iadd, 1) ∧ 55 + 1 = 56 := ⟨by decide +kernel, rfl⟩
set_option maxRecDepth 20000 in
theorem dX12_trusted_56 : decode cX12_trusted 56 = .ok (.istore_n 3, 1) ∧ 56 + 1 = 57 := ⟨by decide +kernel, rfl⟩
set_option maxRecDepth 20000 in
theorem dX12_trusted_57 : decode cX12_trusted 57 = .ok (.iinc 4 1, 3) ∧ 57 + 3 = 60 := ⟨by decide +kernel, rfl⟩
set_option maxRecDepth 20000 in
theorem dX12_trusted_60 : decode cX12_trusted 60 = .ok (.goto (-38), 3) ∧ ((60 : Nat) : Int) + (-38) = ((22 : Nat) : Int) := ⟨by decide +kernel, by decide⟩
set_option maxRecDepth 20000 in
theorem dX12_trusted_63 : decode cX12_trusted 63 = .ok (.iload_n 3, 1) ∧ 63 + 1 = 64 := ⟨by decide +kernel, rfl⟩
set_option maxRecDepth 20000 in
theorem dX12_trusted_64 : decode cX12_trusted 64 = .ok (.iload_n 1, 1) ∧ 64 + 1 = 65 := ⟨by decide +kernel, rfl⟩
set_option maxRecDepth 20000 in
theorem dX12_trusted_65 : decode cX12_trusted 65 = .ok (.if_icmp .ne 5, 3) ∧ 65 + 3 = 68 ∧ ((65 : Nat) : Int) + (5) = ((70 : Nat) : Int) := ⟨by decide +kernel, rfl, by decide⟩
set_option maxRecDepth 20000 in
theorem dX12_trusted_68 : decode cX12_trusted 68 = .ok (.iload_n 2, 1) ∧ 68 + 1 = 69 := ⟨by decide +kernel, rfl⟩
set_option maxRecDepth 20000 in
theorem dX12_trusted_69 : decode cX12_trusted 69 = .ok (.ireturn, 1) := by decide +kernel
set_option maxRecDepth 20000 in
theorem dX12_trusted_70 : decode cX12_trusted 70 = .ok (.iinc 2 1, 3) ∧ 70 + 3 = 73 := ⟨by decide +kernel, rfl⟩
set_option maxRecDepth 20000 in
theorem dX12_trusted_73 : decode cX12_trusted 73 = .ok (.goto (-66), 3) ∧ ((73 : Nat) : Int) + (-66) = ((7 : Nat) : Int) := ⟨by decide +kernel, by decide⟩
set_option maxRecDepth 20000 in
theorem dX12_trusted_76 : decode cX12_trusted 76 = .ok (.iconst (-1), 1) ∧ 76 + 1 = 77 := ⟨by decide +kernel, rfl⟩
set_option maxRecDepth 20000 in
theorem dX12_trusted_77 : decode cX12_trusted 77 = .ok (.ireturn, 1) := by decide +kernel
set_option maxRecDepth 20000 in
theorem dX12_common_0 : decode cX12_common 0 = .ok (.lload_n 0, 1) ∧ 0 + 1 = 1 := ⟨by decide +kernel, rfl⟩
set_option maxRecDepth 20000 in
theorem dX12_common_1 : decode cX12_common 1 = .ok (.lstore 4, 2) ∧ 1 + 2 = 3 := ⟨by decide +kernel, rfl⟩
set_option maxRecDepth 20000 in
theorem dX12_common_3 : decode cX12_common 3 = .ok (.lload_n 2, 1) ∧ 3 + 1 = 4 := ⟨by decide +kernel, rfl⟩
set_option maxRecDepth 20000 in
theorem dX12_common_4 : decode cX12_common 4 = .ok (.lstore 6, 2) ∧ 4 + 2 = 6 := ⟨by decide +kernel, rfl⟩
set_option maxRecDepth 20000 in
theorem dX12_common_6 : decode cX12_common 6 = .ok (.lload 6, 2) ∧ 6 + 2 = 8 := ⟨by decide +kernel, rfl⟩
set_option maxRecDepth 20000 in
theorem dX12_common_8 : decode cX12_common 8 = .ok (.lconst 0, 1) ∧ 8 + 1 = 9 := ⟨by decide +kernel, rfl⟩
set_option maxRecDepth 20000 in
theorem dX12_common_9 : decode cX12_common 9 = .ok (.lcmp, 1) ∧ 9 + 1 = 10 := ⟨by decide +kernel, rfl⟩
set_option maxRecDepth 20000 in
theorem dX12_common_10 : decode cX12_common 10 = .ok (.ifCond .eq 21, 3) ∧ 10 + 3 = 13 ∧ ((10 : Nat) : Int) + (21) = ((31 : Nat) : Int) := ⟨by decide +kernel, rfl, by decide⟩
set_option maxRecDepth 20000 in
theorem dX12_common_13 : decode cX12_common 13 = .ok (.lload 4, 2) ∧ 13 + 2 = 15 := ⟨by decide +kernel, rfl⟩
set_option maxRecDepth 20000 in
theorem dX12_common_15 : decode cX12_common 15 = .ok (.lload 6, 2) ∧ 15 + 2 = 17 := ⟨by decide +kernel, rfl⟩
set_option maxRecDepth 20000 in
theorem dX12_common_17 : decode cX12_common 17 = .ok (.lrem, 1) ∧ 17 + 1 = 18 := ⟨by decide +kernel, rfl⟩
set_option maxRecDepth 20000 in
theorem dX12_common_18 : decode cX12_common 18 = .ok (.lstore 8, 2) ∧ 18 + 2 = 20 := ⟨by decide +kernel, rfl⟩
set_option maxRecDepth 20000 in
theorem dX12_common_20 : decode cX12_common 20 = .ok (.lload 6, 2) ∧ 20 + 2 = 22 := ⟨by decide +kernel, rfl⟩
set_option maxRecDepth 20000 in
theorem dX12_common_22 : decode cX12_common 22 = .ok (.lstore 4, 2) ∧ 22 + 2 = 24 := ⟨by decide +kernel, rfl⟩
set_option maxRecDepth 20000 in
theorem dX12_common_24 : decode cX12_common 24 = .ok (.lload 8, 2) ∧ 24 + 2 = 26 := ⟨by decide +kernel, rfl⟩
set_option maxRecDepth 20000 in
theorem dX12_common_26 : decode cX12_common 26 = .ok (.lstore 6, 2) ∧ 26 + 2 = 28 := ⟨by decide +kernel, rfl⟩
set_option maxRecDepth 20000 in
theorem dX12_common_28 : decode cX12_common 28 = .ok (.goto (-22), 3) ∧ ((28 : Nat) : Int) + (-22) = ((6 : Nat) : Int) := ⟨by decide +kernel, by decide⟩
set_option maxRecDepth 20000 in
theorem dX12_common_31 : decode cX12_common 31 = .ok (.lload 4, 2) ∧ 31 + 2 = 33 := ⟨by decide +kernel, rfl⟩
set_option maxRecDepth 20000 in
theorem dX12_common_33 : decode cX12_common 33 = .ok (.lreturn, 1) := by decide +kernel
set_option maxRecDepth 20000 in
theorem dX12_agree_0 : decode cX12_agree 0 = .ok (.aload_n 0, 1) ∧ 0 + 1 = 1 := ⟨by decide +kernel, rfl⟩
set_option maxRecDepth 20000 in
theorem dX12_agree_1 : decode cX12_agree 1 = .ok (.iconst 0, 1) ∧ 1 + 1 = 2 := ⟨by decide +kernel, rfl⟩
set_option maxRecDepth 20000 in
theorem dX12_agree_2 : decode cX12_agree 2 = .ok (.putfield 124, 3) ∧ 2 + 3 = 5 := ⟨by decide +kernel, rfl⟩
set_option maxRecDepth 20000 in
theorem dX12_agree_5 : decode cX12_agree 5 = .ok (.iload_n 1, 1) ∧ 5 + 1 = 6 := ⟨by decide +kernel, rfl⟩
set_option maxRecDepth 20000 in
theorem dX12_agree_6 : decode cX12_agree 6 = .ok (.i2l, 1) ∧ 6 + 1 = 7 := ⟨by decide +kernel, rfl⟩
set_option maxRecDepth 20000 in
theorem dX12_agree_7 : decode cX12_agree 7 = .ok (.lconst 0, 1) ∧ 7 + 1 = 8 := ⟨by decide +kernel, rfl⟩
set_option maxRecDepth 20000 in
theorem dX12_agree_8 : decode cX12_agree 8 = .ok (.ldc2_w 384, 3) ∧ 8 + 3 = 11 := ⟨by decide +kernel, rfl⟩
set_option maxRecDepth 20000 in
theorem dX12_agree_11 : decode cX12_agree 11 = .ok (.invokestatic 134, 3) ∧ 11 + 3 = 14 := ⟨by decide +kernel, rfl⟩
set_option maxRecDepth 20000 in
theorem dX12_agree_14 : decode cX12_agree 14 = .ok (.ifCond .eq 25, 3) ∧ 14 + 3 = 17 ∧ ((14 : Nat) : Int) + (25) = ((39 : Nat) : Int) := ⟨by decide +kernel, rfl, by decide⟩
set_option maxRecDepth 20000 in
theorem dX12_agree_17 : decode cX12_agree 17 = .ok (.iload_n 2, 1) ∧ 17 + 1 = 18 := ⟨by decide +kernel, rfl⟩
set_option maxRecDepth 20000 in
theorem dX12_agree_18 : decode cX12_agree 18 = .ok (.i2l, 1) ∧ 18 + 1 = 19 := ⟨by decide +kernel, rfl⟩
set_option maxRecDepth 20000 in
theorem dX12_agree_19 : decode cX12_agree 19 = .ok (.lconst 0, 1) ∧ 19 + 1 = 20 := ⟨by decide +kernel, rfl⟩
set_option maxRecDepth 20000 in
theorem dX12_agree_20 : decode cX12_agree 20 = .ok (.ldc2_w 384, 3) ∧ 20 + 3 = 23 := ⟨by decide +kernel, rfl⟩
set_option maxRecDepth 20000 in
theorem dX12_agree_23 : decode cX12_agree 23 = .ok (.invokestatic 134, 3) ∧ 23 + 3 = 26 := ⟨by decide +kernel, rfl⟩
set_option maxRecDepth 20000 in
theorem dX12_agree_26 : decode cX12_agree 26 = .ok (.ifCond .eq 13, 3) ∧ 26 + 3 = 29 ∧ ((26 : Nat) : Int) + (13) = ((39 : Nat) : Int) := ⟨by decide +kernel, rfl, by decide⟩
set_option maxRecDepth 20000 in
theorem dX12_agree_29 : decode cX12_agree 29 = .ok (.iload_n 3, 1) ∧ 29 + 1 = 30 := ⟨by decide +kernel, rfl⟩
set_option maxRecDepth 20000 in
theorem dX12_agree_30 : decode cX12_agree 30 = .ok (.i2l, 1) ∧ 30 + 1 = 31 := ⟨by decide +kernel, rfl⟩
set_option maxRecDepth 20000 in
theorem dX12_agree_31 : decode cX12_agree 31 = .ok (.lconst 0, 1) ∧ 31 + 1 = 32 := ⟨by decide +kernel, rfl⟩
set_option maxRecDepth 20000 in
theorem dX12_agree_32 : decode cX12_agree 32 = .ok (.lconst 1, 1) ∧ 32 + 1 = 33 := ⟨by decide +kernel, rfl⟩
set_option maxRecDepth 20000 in
theorem dX12_agree_33 : decode cX12_agree 33 = .ok (.invokestatic 134, 3) ∧ 33 + 3 = 36 := ⟨by decide +kernel, rfl⟩
set_option maxRecDepth 20000 in
theorem dX12_agree_36 : decode cX12_agree 36 = .ok (.ifCond .ne 5, 3) ∧ 36 + 3 = 39 ∧ ((36 : Nat) : Int) + (5) = ((41 : Nat) : Int) := ⟨by decide +kernel, rfl, by decide⟩
set_option maxRecDepth 20000 in
theorem dX12_agree_39 : decode cX12_agree 39 = .ok (.iconst (-1), 1) ∧ 39 + 1 = 40 := ⟨by decide +kernel, rfl⟩
set_option maxRecDepth 20000 in
theorem dX12_agree_40 : decode cX12_agree 40 = .ok (.ireturn, 1) := by decide +kernel
set_option maxRecDepth 20000 in
theorem dX12_agree_41 : decode cX12_agree 41 = .ok (.iconst 0, 1) ∧ 41 + 1 = 42 := ⟨by decide +kernel, rfl⟩
set_option maxRecDepth 20000 in
theorem dX12_agree_42 : decode cX12_agree 42 = .ok (.istore 4, 2) ∧ 42 + 2 = 44 := ⟨by decide +kernel, rfl⟩
set_option maxRecDepth 20000 in
theorem dX12_agree_44 : decode cX12_agree 44 = .ok (.iconst 0, 1) ∧ 44 + 1 = 45 := ⟨by decide +kernel, rfl⟩
set_option maxRecDepth 20000 in
theorem dX12_agree_45 : decode cX12_agree 45 = .ok (.istore 5, 2) ∧ 45 + 2 = 47 := ⟨by decide +kernel, rfl⟩
set_option maxRecDepth 20000 in
theorem dX12_agree_47 : decode cX12_agree 47 = .ok (.iload 5, 2) ∧ 47 + 2 = 49 := ⟨by decide +kernel, rfl⟩
set_option maxRecDepth 20000 in
theorem dX12_agree_49 : decode cX12_agree 49 = .ok (.aload_n 0, 1) ∧ 49 + 1 = 50 := ⟨by decide +kernel, rfl⟩
set_option maxRecDepth 20000 in
theorem dX12_agree_50 : decode cX12_agree 50 = .ok (.getfield 13, 3) ∧ 50 + 3 = 53 := ⟨by decide +kernel, rfl⟩
set_option maxRecDepth 20000 in
theorem dX12_agree_53 : decode cX12_agree 53 = .ok (.bipush 11, 2) ∧ 53 + 2 = 55 := ⟨by decide +kernel, rfl⟩
set_option maxRecDepth 20000 in
theorem dX12_agree_55 : decode cX12_agree 55 = .ok (.iaload, 1) ∧ 55 + 1 = 56 := ⟨by decide +kernel, rfl⟩
set_option maxRecDepth 20000 in
theorem dX12_agree_56 : decode cX12_agree 56 = .ok (.if_icmp .ge 100, 3) ∧ 56 + 3 = 59 ∧ ((56 : Nat) : Int) + (100) = ((156 : Nat) : Int) := ⟨by decide +kernel, rfl, by decide⟩
set_option maxRecDepth 20000 in
theorem dX12_agree_59 : decode cX12_agree 59 = .ok (.aload_n 0, 1) ∧ 59 + 1 = 60 := ⟨by decide +kernel, rfl⟩
set_option maxRecDepth 20000 in
theorem dX12_agree_60 : decode cX12_agree 60 = .ok (.getfield 13, 3) ∧ 60 + 3 = 63 := ⟨by decide +kernel, rfl⟩
set_option maxRecDepth 20000 in
theorem dX12_agree_63 : decode cX12_agree 63 = .ok (.bipush 110, 2) ∧ 63 + 2 = 65 := ⟨by decide +kernel, rfl⟩
set_option maxRecDepth 20000 in
theorem dX12_agree_65 : decode cX12_agree 65 = .ok (.iconst 3, 1) ∧ 65 + 1 = 66 := ⟨by decide +kernel, rfl⟩
set_option maxRecDepth 20000 in
theorem dX12_agree_66 : decode cX12_agree 66 = .ok (.iload 5, 2) ∧ 66 + 2 = 68 := ⟨by decide +kernel, rfl⟩
set_option maxRecDepth 20000 in
theorem dX12_agree_68 : decode cX12_agree 68 = .ok (.imul, 1) ∧ 68 + 1 = 69 := ⟨by decide +kernel, rfl⟩
set_option maxRecDepth 20000 in
theorem dX12_agree_69 : decode cX12_agree 69 = .ok (.iadd, 1) ∧ 69 + 1 = 70 := ⟨by decide +kernel, rfl⟩
set_option maxRecDepth 20000 in
theorem dX12_agree_70 : decode cX12_agree 70 = .ok (.iconst 1, 1) ∧ 70 + 1 = 71 := ⟨by decide +kernel, rfl⟩
set_option maxRecDepth 20000 in
theorem dX12_agree_71 : decode cX12_agree 71 = .ok (.iadd, 1) ∧ 71 + 1 = 72 := ⟨by decide +kernel, rfl⟩
set_option maxRecDepth 20000 in
theorem dX12_agree_72 : decode cX12_agree 72 = .ok (.iaload, 1) ∧ 72 + 1 = 73 := ⟨by decide +kernel, rfl⟩
set_option maxRecDepth 20000 in
theorem dX12_agree_73 : decode cX12_agree 73 = .ok (.istore 6, 2) ∧ 73 + 2 = 75 := ⟨by decide +kernel, rfl⟩
set_option maxRecDepth 20000 in
theorem dX12_agree_75 : decode cX12_agree 75 = .ok (.aload_n 0, 1) ∧ 75 + 1 = 76 := ⟨by decide +kernel, rfl⟩
set_option maxRecDepth 20000 in
theorem dX12_agree_76 : decode cX12_agree 76 = .ok (.getfield 13, 3) ∧ 76 + 3 = 79 := ⟨by decide +kernel, rfl⟩
set_option maxRecDepth 20000 in
theorem dX12_agree_79 : decode cX12_agree 79 = .ok (.bipush 110, 2) ∧ 79 + 2 = 81 := ⟨by decide +kernel, rfl⟩
set_option maxRecDepth 20000 in
theorem dX12_agree_81 : decode cX12_agree 81 = .ok (.iconst 3, 1) ∧ 81 + 1 = 82 := ⟨by decide +kernel, rfl⟩
set_option maxRecDepth 20000 in
theorem dX12_agree_82 : decode cX12_agree 82 = .ok (.iload 5, 2) ∧ 82 + 2 = 84 := ⟨by decide +kernel, rfl⟩
set_option maxRecDepth 20000 in
theorem dX12_agree_84 : decode cX12_agree 84 = .ok (.imul, 1) ∧ 84 + 1 = 85 := ⟨by decide +kernel, rfl⟩
set_option maxRecDepth 20000 in
theorem dX12_agree_85 : decode cX12_agree 85 = .ok (.iadd, 1) ∧ 85 + 1 = 86 := ⟨by decide +kernel, rfl⟩
set_option maxRecDepth 20000 in
theorem dX12_agree_86 : decode cX12_agree 86 = .ok (.iconst 2, 1) ∧ 86 + 1 = 87 := ⟨by decide +kernel, rfl⟩
set_option maxRecDepth 20000 in
theorem dX12_agree_87 : decode cX12_agree 87 = .ok (.iadd, 1) ∧ 87 + 1 = 88 := ⟨by decide +kernel, rfl⟩
set_option maxRecDepth 20000 in
theorem dX12_agree_88 : decode cX12_agree 88 = .ok (.iaload, 1) ∧ 88 + 1 = 89 := ⟨by decide +kernel, rfl⟩
set_option maxRecDepth 20000 in
theorem dX12_agree_89 : decode cX12_agree 89 = .ok (.istore 7, 2) ∧ 89 + 2 = 91 := ⟨by decide +kernel, rfl⟩
set_option maxRecDepth 20000 in
theorem dX12_agree_91 : decode cX12_agree 91 = .ok (.iload 7, 2) ∧ 91 + 2 = 93 := ⟨by decide +kernel, rfl⟩
set_option maxRecDepth 20000 in
theorem dX12_agree_93 : decode cX12_agree 93 = .ok (.iload_n 1, 1) ∧ 93 + 1 = 94 := ⟨by decide +kernel, rfl⟩
set_option maxRecDepth 20000 in
theorem dX12_agree_94 : decode cX12_agree 94 = .ok (.invokestatic 364, 3) ∧ 94 + 3 = 97 := ⟨by decide +kernel, rfl⟩
set_option maxRecDepth 20000 in
theorem dX12_agree_97 : decode cX12_agree 97 = .ok (.iload 7, 2) ∧ 97 + 2 = 99 := ⟨by decide +kernel, rfl⟩
set_option maxRecDepth 20000 in
theorem dX12_agree_99 : decode cX12_agree 99 = .ok (.iload_n 2, 1) ∧ 99 + 1 = 100 := ⟨by decide +kernel, rfl⟩
set_option maxRecDepth 20000 in
theorem dX12_agree_100 : decode cX12_agree 100 = .ok (.invokestatic 364, 3) ∧ 100 + 3 = 103 := ⟨by decide +kernel, rfl⟩
set_option maxRecDepth 20000 in
theorem dX12_agree_103 : decode cX12_agree 103 = .ok (.if_icmp .ne 7, 3) ∧ 103 + 3 = 106 ∧ ((103 : Nat) : Int) + (7) = ((110 : Nat) : Int) := ⟨by decide +kernel, rfl, by decide⟩
set_option maxRecDepth 20000 in
theorem dX12_agree_106 : decode cX12_agree 106 = .ok (.iconst 1, 1) ∧ 106 + 1 = 107 := ⟨by decide +kernel, rfl⟩
set_option maxRecDepth 20000 in
theorem dX12_agree_107 : decode cX12_agree 107 = .ok (.goto 4, 3) ∧ ((107 : Nat) : Int) + (4) = ((111 : Nat) : Int) := ⟨by decide +kernel, by decide⟩
set_option maxRecDepth 20000 in
theorem dX12_agree_110 : decode cX12_agree 110 = .ok (.iconst 0, 1) ∧ 110 + 1 = 111 := ⟨by decide +kernel, rfl⟩
set_option maxRecDepth 20000 in
theorem dX12_agree_111 : decode cX12_agree 111 = .ok (.istore 8, 2) ∧ 111 + 2 = 113 := ⟨by decide +kernel, rfl⟩
set_option maxRecDepth 20000 in
theorem dX12_agree_113 : decode cX12_agree 113 = .ok (.iload 4, 2) ∧ 113 + 2 = 115 := ⟨by decide +kernel, rfl⟩
set_option maxRecDepth 20000 in
theorem dX12_agree_115 : decode cX12_agree 115 = .ok (.iload 6, 2) ∧ 115 + 2 = 117 := ⟨by decide +kernel, rfl⟩
set_option maxRecDepth 20000 in
theorem dX12_agree_117 : decode cX12_agree 117 = .ok (.iload_n 1, 1) ∧ 117 + 1 = 118 := ⟨by decide +kernel, rfl⟩
set_option maxRecDepth 20000 in
theorem dX12_agree_118 : decode cX12_agree 118 = .ok (.invokestatic 364, 3) ∧ 118 + 3 = 121 := ⟨by decide +kernel, rfl⟩
set_option maxRecDepth 20000 in
theorem dX12_agree_121 : decode cX12_agree 121 = .ok (.ifCond .eq 25, 3) ∧ 121 + 3 = 124 ∧ ((121 : Nat) : Int) + (25) = ((146 : Nat) : Int) := ⟨by decide +kernel, rfl, by decide⟩
set_option maxRecDepth 20000 in
theorem dX12_agree_124 : decode cX12_agree 124 = .ok (.iload 6, 2) ∧ 124 + 2 = 126 := ⟨by decide +kernel, rfl⟩
set_option maxRecDepth 20000 in
theorem dX12_agree_126 : decode cX12_agree 126 = .ok (.iload_n 2, 1) ∧ 126 + 1 = 127 := ⟨by decide +kernel, rfl⟩
set_option maxRecDepth 20000 in
theorem dX12_agree_127 : decode cX12_agree 127 = .ok (.invokestatic 364, 3) ∧ 127 + 3 = 130 := ⟨by decide +kernel, rfl⟩
set_option maxRecDepth 20000 in
theorem dX12_agree_130 : decode cX12_agree 130 = .ok (.ifCond .eq 16, 3) ∧ 130 + 3 = 133 ∧ ((130 : Nat) : Int) + (16) = ((146 : Nat) : Int) := ⟨by decide +kernel, rfl, by decide⟩
set_option maxRecDepth 20000 in
theorem dX12_agree_133 : decode cX12_agree 133 = .ok (.iload_n 3, 1) ∧ 133 + 1 = 134 := ⟨by decide +kernel, rfl⟩
set_option maxRecDepth 20000 in
theorem dX12_agree_134 : decode cX12_agree 134 = .ok (.ifCond .eq 8, 3) ∧ 134 + 3 = 137 ∧ ((134 : Nat) : Int) + (8) = ((142 : Nat) : Int) := ⟨by decide +kernel, rfl, by decide⟩
set_option maxRecDepth 20000 in
theorem dX12_agree_137 : decode cX12_agree 137 = .ok (.iload 8, 2) ∧ 137 + 2 = 139 := ⟨by decide +kernel, rfl⟩
set_option maxRecDepth 20000 in
theorem dX12_agree_139 : decode cX12_agree 139 = .ok (.ifCond .eq 7, 3) ∧ 139 + 3 = 142 ∧ ((139 : Nat) : Int) + (7) = ((146 : Nat) : Int) := ⟨by decide +kernel, rfl, by decide⟩
set_option maxRecDepth 20000 in
theorem dX12_agree_142 : decode cX12_agree 142 = .ok (.iconst 1, 1) ∧ 142 + 1 = 143 := ⟨by decide +kernel, rfl⟩
set_option maxRecDepth 20000 in
theorem dX12_agree_143 : decode cX12_agree 143 = .ok (.goto 4, 3) ∧ ((143 : Nat) : Int) + (4) = ((147 : Nat) : Int) := ⟨by decide +kernel, by decide⟩
set_option maxRecDepth 20000 in
theorem dX12_agree_146 : decode cX12_agree 146 = .ok (.iconst 0, 1) ∧ 146 + 1 = 147 := ⟨by decide +kernel, rfl⟩
set_option maxRecDepth 20000 in
theorem dX12_agree_147 : decode cX12_agree 147 = .ok (.iadd, 1) ∧ 147 + 1 = 148 := ⟨by decide +kernel, rfl⟩
set_option maxRecDepth 20000 in
theorem dX12_agree_148 : decode cX12_agree 148 = .ok (.istore 4, 2) ∧ 148 + 2 = 150 := ⟨by decide +kernel, rfl⟩
set_option maxRecDepth 20000 in
theorem dX12_agree_150 : decode cX12_agree 150 = .ok (.iinc 5 1, 3) ∧ 150 + 3 = 153 := ⟨by decide +kernel, rfl⟩
set_option maxRecDepth 20000 in
theorem dX12_agree_153 : decode cX12_agree 153 = .ok (.goto (-106), 3) ∧ ((153 : Nat) : Int) + (-106) = ((47 : Nat) : Int) := ⟨by decide +kernel, by decide⟩
set_option maxRecDepth 20000 in
theorem dX12_agree_156 : decode cX12_agree 156 = .ok (.iload 4, 2) ∧ 156 + 2 = 158 := ⟨by decide +kernel, rfl⟩
set_option maxRecDepth 20000 in
theorem dX12_agree_158 : decode cX12_agree 158 = .ok (.ireturn, 1) := by decide +kernel
set_option maxRecDepth 20000 in
theorem dX12_again_0 : decode cX12_again 0 = .ok (.aload_n 0, 1) ∧ 0 + 1 = 1 := ⟨by decide +kernel, rfl⟩
set_option maxRecDepth 20000 in
theorem dX12_again_1 : decode cX12_again 1 = .ok (.iconst 0, 1) ∧ 1 + 1 = 2 := ⟨by decide +kernel, rfl⟩
set_option maxRecDepth 20000 in
theorem dX12_again_2 : decode cX12_again 2 = .ok (.putfield 124, 3) ∧ 2 + 3 = 5 := ⟨by decide +kernel, rfl⟩
set_option maxRecDepth 20000 in
theorem dX12_again_5 : decode cX12_again 5 = .ok (.iload_n 1, 1) ∧ 5 + 1 = 6 := ⟨by decide +kernel, rfl⟩
set_option maxRecDepth 20000 in
theorem dX12_again_6 : decode cX12_again 6 = .ok (.i2l, 1) ∧ 6 + 1 = 7 := ⟨by decide +kernel, rfl⟩
set_option maxRecDepth 20000 in
theorem dX12_again_7 : decode cX12_again 7 = .ok (.lconst 0, 1) ∧ 7 + 1 = 8 := ⟨by decide +kernel, rfl⟩
set_option maxRecDepth 20000 in
theorem dX12_again_8 : decode cX12_again 8 = .ok (.aload_n 0, 1) ∧ 8 + 1 = 9 := ⟨by decide +kernel, rfl⟩
set_option maxRecDepth 20000 in
theorem dX12_again_9 : decode cX12_again 9 = .ok (.getfield 13, 3) ∧ 9 + 3 = 12 := ⟨by decide +kernel, rfl⟩
set_option maxRecDepth 20000 in
theorem dX12_again_12 : decode cX12_again 12 = .ok (.bipush 11, 2) ∧ 12 + 2 = 14 := ⟨by decide +kernel, rfl⟩
set_option maxRecDepth 20000 in
theorem dX12_again_14 : decode cX12_again 14 = .ok (.iaload, 1) ∧ 14 + 1 = 15 := ⟨by decide +kernel, rfl⟩
set_option maxRecDepth 20000 in
theorem dX12_again_15 : decode cX12_again 15 = .ok (.i2l, 1) ∧ 15 + 1 = 16 := ⟨by decide +kernel, rfl⟩
set_option maxRecDepth 20000 in
theorem dX12_again_16 : decode cX12_again 16 = .ok (.lconst 1, 1) ∧ 16 + 1 = 17 := ⟨by decide +kernel, rfl⟩
set_option maxRecDepth 20000 in
theorem dX12_again_17 : decode cX12_again 17 = .ok (.lsub, 1) ∧ 17 + 1 = 18 := ⟨by decide +kernel, rfl⟩
set_option maxRecDepth 20000 in
theorem dX12_again_18 : decode cX12_again 18 = .ok (.invokestatic 134, 3) ∧ 18 + 3 = 21 := ⟨by decide +kernel, rfl⟩
set_option maxRecDepth 20000 in
theorem dX12_again_21 : decode cX12_again 21 = .ok (.ifCond .eq 13, 3) ∧ 21 + 3 = 24 ∧ ((21 : Nat) : Int) + (13) = ((34 : Nat) : Int) := ⟨by decide +kernel, rfl, by decide⟩
set_option maxRecDepth 20000 in
theorem dX12_again_24 : decode cX12_again 24 = .ok (.iload_n 2, 1) ∧ 24 + 1 = 25 := ⟨by decide +kernel, rfl⟩
set_option maxRecDepth 20000 in
theorem dX12_again_25 : decode cX12_again 25 = .ok (.i2l, 1) ∧ 25 + 1 = 26 := ⟨by decide +kernel, rfl⟩
set_option maxRecDepth 20000 in
theorem dX12_again_26 : decode cX12_again 26 = .ok (.lconst 0, 1) ∧ 26 + 1 = 27 := ⟨by decide +kernel, rfl⟩
set_option maxRecDepth 20000 in
theorem dX12_again_27 : decode cX12_again 27 = .ok (.lconst 1, 1) ∧ 27 + 1 = 28 := ⟨by decide +kernel, rfl⟩
set_option maxRecDepth 20000 in
theorem dX12_again_28 : decode cX12_again 28 = .ok (.invokestatic 134, 3) ∧ 28 + 3 = 31 := ⟨by decide +kernel, rfl⟩
set_option maxRecDepth 20000 in
theorem dX12_again_31 : decode cX12_again 31 = .ok (.ifCond .ne 7, 3) ∧ 31 + 3 = 34 ∧ ((31 : Nat) : Int) + (7) = ((38 : Nat) : Int) := ⟨by decide +kernel, rfl, by decide⟩
set_option maxRecDepth 20000 in
theorem dX12_again_34 : decode cX12_again 34 = .ok (.ldc2_w 221, 3) ∧ 34 + 3 = 37 := ⟨by decide +kernel, rfl⟩
set_option maxRecDepth 20000 in
theorem dX12_again_37 : decode cX12_again 37 = .ok (.lreturn, 1) := by decide +kernel
set_option maxRecDepth 20000 in
theorem dX12_again_38 : decode cX12_again 38 = .ok (.aload_n 0, 1) ∧ 38 + 1 = 39 := ⟨by decide +kernel, rfl⟩
set_option maxRecDepth 20000 in
theorem dX12_again_39 : decode cX12_again 39 = .ok (.iload_n 1, 1) ∧ 39 + 1 = 40 := ⟨by decide +kernel, rfl⟩
set_option maxRecDepth 20000 in
theorem dX12_again_40 : decode cX12_again 40 = .ok (.putfield 106, 3) ∧ 40 + 3 = 43 := ⟨by decide +kernel, rfl⟩
set_option maxRecDepth 20000 in
theorem dX12_again_43 : decode cX12_again 43 = .ok (.aload_n 0, 1) ∧ 43 + 1 = 44 := ⟨by decide +kernel, rfl⟩
set_option maxRecDepth 20000 in
theorem dX12_again_44 : decode cX12_again 44 = .ok (.aload_n 0, 1) ∧ 44 + 1 = 45 := ⟨by decide +kernel, rfl⟩
set_option maxRecDepth 20000 in
theorem dX12_again_45 : decode cX12_again 45 = .ok (.getfield 13, 3) ∧ 45 + 3 = 48 := ⟨by decide +kernel, rfl⟩
set_option maxRecDepth 20000 in
theorem dX12_again_48 : decode cX12_again 48 = .ok (.bipush 110, 2) ∧ 48 + 2 = 50 := ⟨by decide +kernel, rfl⟩
set_option maxRecDepth 20000 in
theorem dX12_again_50 : decode cX12_again 50 = .ok (.iconst 3, 1) ∧ 50 + 1 = 51 := ⟨by decide +kernel, rfl⟩
set_option maxRecDepth 20000 in
theorem dX12_again_51 : decode cX12_again 51 = .ok (.iload_n 1, 1) ∧ 51 + 1 = 52 := ⟨by decide +kernel, rfl⟩
set_option maxRecDepth 20000 in
theorem dX12_again_52 : decode cX12_again 52 = .ok (.imul, 1) ∧ 52 + 1 = 53 := ⟨by decide +kernel, rfl⟩
set_option maxRecDepth 20000 in
theorem dX12_again_53 : decode cX12_again 53 = .ok (.iadd, 1) ∧ 53 + 1 = 54 := ⟨by decide +kernel, rfl⟩
set_option maxRecDepth 20000 in
theorem dX12_again_54 : decode cX12_again 54 = .ok (.iconst 1, 1) ∧ 54 + 1 = 55 := ⟨by decide +kernel, rfl⟩
set_option maxRecDepth 20000 in
theorem dX12_again_55 : decode cX12_again 55 = .ok (.iadd, 1) ∧ 55 + 1 = 56 := ⟨by decide +kernel, rfl⟩
set_option maxRecDepth 20000 in
theorem dX12_again_56 : decode cX12_again 56 = .ok (.iaload, 1) ∧ 56 + 1 = 57 := ⟨by decide +kernel, rfl⟩
set_option maxRecDepth 20000 in
theorem dX12_again_57 : decode cX12_again 57 = .ok (.aload_n 0, 1) ∧ 57 + 1 = 58 := ⟨by decide +kernel, rfl⟩
set_option maxRecDepth 20000 in
theorem dX12_again_58 : decode cX12_again 58 = .ok (.getfield 13, 3) ∧ 58 + 3 = 61 := ⟨by decide +kernel, rfl⟩
set_option maxRecDepth 20000 in
theorem dX12_again_61 : decode cX12_again 61 = .ok (.bipush 110, 2) ∧ 61 + 2 = 63 := ⟨by decide +kernel, rfl⟩
set_option maxRecDepth 20000 in
theorem dX12_again_63 : decode cX12_again 63 = .ok (.iconst 3, 1) ∧ 63 + 1 = 64 := ⟨by decide +kernel, rfl⟩
set_option maxRecDepth 20000 in
theorem dX12_again_64 : decode cX12_again 64 = .ok (.iload_n 1, 1) ∧ 64 + 1 = 65 := ⟨by decide +kernel, rfl⟩
set_option maxRecDepth 20000 in
theorem dX12_again_65 : decode cX12_again 65 = .ok (.imul, 1) ∧ 65 + 1 = 66 := ⟨by decide +kernel, rfl⟩
set_option maxRecDepth 20000 in
theorem dX12_again_66 : decode cX12_again 66 = .ok (.iadd, 1) ∧ 66 + 1 = 67 := ⟨by decide +kernel, rfl⟩
set_option maxRecDepth 20000 in
theorem dX12_again_67 : decode cX12_again 67 = .ok (.iconst 2, 1) ∧ 67 + 1 = 68 := ⟨by decide +kernel, rfl⟩
set_option maxRecDepth 20000 in
theorem dX12_again_68 : decode cX12_again 68 = .ok (.iadd, 1) ∧ 68 + 1 = 69 := ⟨by decide +kernel, rfl⟩
set_option maxRecDepth 20000 in
theorem dX12_again_69 : decode cX12_again 69 = .ok (.iaload, 1) ∧ 69 + 1 = 70 := ⟨by decide +kernel, rfl⟩
set_option maxRecDepth 20000 in
theorem dX12_again_70 : decode cX12_again 70 = .ok (.iload_n 2, 1) ∧ 70 + 1 = 71 := ⟨by decide +kernel, rfl⟩
set_option maxRecDepth 20000 in
theorem dX12_again_71 : decode cX12_again 71 = .ok (.invokevirtual 472, 3) ∧ 71 + 3 = 74 := ⟨by decide +kernel, rfl⟩
set_option maxRecDepth 20000 in
theorem dX12_again_74 : decode cX12_again 74 = .ok (.lstore_n 3, 1) ∧ 74 + 1 = 75 := ⟨by decide +kernel, rfl⟩
set_option maxRecDepth 20000 in
theorem dX12_again_75 : decode cX12_again 75 = .ok (.aload_n 0, 1) ∧ 75 + 1 = 76 := ⟨by decide +kernel, rfl⟩
set_option maxRecDepth 20000 in
theorem dX12_again_76 : decode cX12_again 76 = .ok (.iconst (-1), 1) ∧ 76 + 1 = 77 := ⟨by decide +kernel, rfl⟩
set_option maxRecDepth 20000 in
theorem dX12_again_77 : decode cX12_again 77 = .ok (.putfield 106, 3) ∧ 77 + 3 = 80 := ⟨by decide +kernel, rfl⟩
set_option maxRecDepth 20000 in
theorem dX12_again_80 : decode cX12_again 80 = .ok (.lload_n 3, 1) ∧ 80 + 1 = 81 := ⟨by decide +kernel, rfl⟩
set_option maxRecDepth 20000 in
theorem dX12_again_81 : decode cX12_again 81 = .ok (.lreturn, 1) := by decide +kernel
set_option maxRecDepth 20000 in
theorem dX12_proof_0 : decode cX12_proof 0 = .ok (.aload_n 0, 1) ∧ 0 + 1 = 1 := ⟨by decide +kernel, rfl⟩
set_option maxRecDepth 20000 in
theorem dX12_proof_1 : decode cX12_proof 1 = .ok (.iconst 0, 1) ∧ 1 + 1 = 2 := ⟨by decide +kernel, rfl⟩
set_option maxRecDepth 20000 in
theorem dX12_proof_2 : decode cX12_proof 2 = .ok (.putfield 124, 3) ∧ 2 + 3 = 5 := ⟨by decide +kernel, rfl⟩
set_option maxRecDepth 20000 in
theorem dX12_proof_5 : decode cX12_proof 5 = .ok (.iload_n 1, 1) ∧ 5 + 1 = 6 := ⟨by decide +kernel, rfl⟩
set_option maxRecDepth 20000 in
theorem dX12_proof_6 : decode cX12_proof 6 = .ok (.i2l, 1) ∧ 6 + 1 = 7 := ⟨by decide +kernel, rfl⟩
set_option maxRecDepth 20000 in
theorem dX12_proof_7 : decode cX12_proof 7 = .ok (.lconst 0, 1) ∧ 7 + 1 = 8 := ⟨by decide +kernel, rfl⟩
set_option maxRecDepth 20000 in
theorem dX12_proof_8 : decode cX12_proof 8 = .ok (.ldc2_w 392, 3) ∧ 8 + 3 = 11 := ⟨by decide +kernel, rfl⟩
set_option maxRecDepth 20000 in
theorem dX12_proof_11 : decode cX12_proof 11 = .ok (.invokestatic 134, 3) ∧ 11 + 3 = 14 := ⟨by decide +kernel, rfl⟩
set_option maxRecDepth 20000 in
theorem dX12_proof_14 : decode cX12_proof 14 = .ok (.ifCond .eq 33, 3) ∧ 14 + 3 = 17 ∧ ((14 : Nat) : Int) + (33) = ((47 : Nat) : Int) := ⟨by decide +kernel, rfl, by decide⟩
set_option maxRecDepth 20000 in
theorem dX12_proof_17 : decode cX12_proof 17 = .ok (.iload_n 2, 1) ∧ 17 + 1 = 18 := ⟨by decide +kernel, rfl⟩
set_option maxRecDepth 20000 in
theorem dX12_proof_18 : decode cX12_proof 18 = .ok (.i2l, 1) ∧ 18 + 1 = 19 := ⟨by decide +kernel, rfl⟩
set_option maxRecDepth 20000 in
theorem dX12_proof_19 : decode cX12_proof 19 = .ok (.lconst 0, 1) ∧ 19 + 1 = 20 := ⟨by decide +kernel, rfl⟩
set_option maxRecDepth 20000 in
theorem dX12_proof_20 : decode cX12_proof 20 = .ok (.ldc2_w 392, 3) ∧ 20 + 3 = 23 := ⟨by decide +kernel, rfl⟩
set_option maxRecDepth 20000 in
theorem dX12_proof_23 : decode cX12_proof 23 = .ok (.invokestatic 134, 3) ∧ 23 + 3 = 26 := ⟨by decide +kernel, rfl⟩
set_option maxRecDepth 20000 in
theorem dX12_proof_26 : decode cX12_proof 26 = .ok (.ifCond .eq 21, 3) ∧ 26 + 3 = 29 ∧ ((26 : Nat) : Int) + (21) = ((47 : Nat) : Int) := ⟨by decide +kernel, rfl, by decide⟩
set_option maxRecDepth 20000 in
theorem dX12_proof_29 : decode cX12_proof 29 = .ok (.iload_n 2, 1) ∧ 29 + 1 = 30 := ⟨by decide +kernel, rfl⟩
set_option maxRecDepth 20000 in
theorem dX12_proof_30 : decode cX12_proof 30 = .ok (.iload_n 1, 1) ∧ 30 + 1 = 31 := ⟨by decide +kernel, rfl⟩
set_option maxRecDepth 20000 in
theorem dX12_proof_31 : decode cX12_proof 31 = .ok (.iconst (-1), 1) ∧ 31 + 1 = 32 := ⟨by decide +kernel, rfl⟩
set_option maxRecDepth 20000 in
theorem dX12_proof_32 : decode cX12_proof 32 = .ok (.ixor, 1) ∧ 32 + 1 = 33 := ⟨by decide +kernel, rfl⟩
set_option maxRecDepth 20000 in
theorem dX12_proof_33 : decode cX12_proof 33 = .ok (.iand, 1) ∧ 33 + 1 = 34 := ⟨by decide +kernel, rfl⟩
set_option maxRecDepth 20000 in
theorem dX12_proof_34 : decode cX12_proof 34 = .ok (.ifCond .ne 13, 3) ∧ 34 + 3 = 37 ∧ ((34 : Nat) : Int) + (13) = ((47 : Nat) : Int) := ⟨by decide +kernel, rfl, by decide⟩
set_option maxRecDepth 20000 in
theorem dX12_proof_37 : decode cX12_proof 37 = .ok (.iload_n 3, 1) ∧ 37 + 1 = 38 := ⟨by decide +kernel, rfl⟩
set_option maxRecDepth 20000 in
theorem dX12_proof_38 : decode cX12_proof 38 = .ok (.i2l, 1) ∧ 38 + 1 = 39 := ⟨by decide +kernel, rfl⟩
set_option maxRecDepth 20000 in
theorem dX12_proof_39 : decode cX12_proof 39 = .ok (.lconst 0, 1) ∧ 39 + 1 = 40 := ⟨by decide +kernel, rfl⟩
set_option maxRecDepth 20000 in
theorem dX12_proof_40 : decode cX12_proof 40 = .ok (.lconst 1, 1) ∧ 40 + 1 = 41 := ⟨by decide +kernel, rfl⟩
set_option maxRecDepth 20000 in
theorem dX12_proof_41 : decode cX12_proof 41 = .ok (.invokestatic 134, 3) ∧ 41 + 3 = 44 := ⟨by decide +kernel, rfl⟩
set_option maxRecDepth 20000 in
theorem dX12_proof_44 : decode cX12_proof 44 = .ok (.ifCond .ne 7, 3) ∧ 44 + 3 = 47 ∧ ((44 : Nat) : Int) + (7) = ((51 : Nat) : Int) := ⟨by decide +kernel, rfl, by decide⟩
set_option maxRecDepth 20000 in
theorem dX12_proof_47 : decode cX12_proof 47 = .ok (.ldc2_w 221, 3) ∧ 47 + 3 = 50 := ⟨by decide +kernel, rfl⟩
set_option maxRecDepth 20000 in
theorem dX12_proof_50 : decode cX12_proof 50 = .ok (.lreturn, 1) := by decide +kernel
set_option maxRecDepth 20000 in
theorem dX12_proof_51 : decode cX12_proof 51 = .ok (.aload_n 0, 1) ∧ 51 + 1 = 52 := ⟨by decide +kernel, rfl⟩
set_option maxRecDepth 20000 in
theorem dX12_proof_52 : decode cX12_proof 52 = .ok (.iload_n 1, 1) ∧ 52 + 1 = 53 := ⟨by decide +kernel, rfl⟩
set_option maxRecDepth 20000 in
theorem dX12_proof_53 : decode cX12_proof 53 = .ok (.iload_n 2, 1) ∧ 53 + 1 = 54 := ⟨by decide +kernel, rfl⟩
set_option maxRecDepth 20000 in
theorem dX12_proof_54 : decode cX12_proof 54 = .ok (.iload_n 3, 1) ∧ 54 + 1 = 55 := ⟨by decide +kernel, rfl⟩
set_option maxRecDepth 20000 in
theorem dX12_proof_55 : decode cX12_proof 55 = .ok (.invokevirtual 472, 3) ∧ 55 + 3 = 58 := ⟨by decide +kernel, rfl⟩
set_option maxRecDepth 20000 in
theorem dX12_proof_58 : decode cX12_proof 58 = .ok (.lreturn, 1) := by decide +kernel
set_option maxRecDepth 20000 in
theorem dX12_proofOf_0 : decode cX12_proofOf 0 = .ok (.aload_n 0, 1) ∧ 0 + 1 = 1 := ⟨by decide +kernel, rfl⟩
set_option maxRecDepth 20000 in
theorem dX12_proofOf_1 : decode cX12_proofOf 1 = .ok (.getfield 13, 3) ∧ 1 + 3 = 4 := ⟨by decide +kernel, rfl⟩
set_option maxRecDepth 20000 in
theorem dX12_proofOf_4 : decode cX12_proofOf 4 = .ok (.bipush 10, 2) ∧ 4 + 2 = 6 := ⟨by decide +kernel, rfl⟩
set_option maxRecDepth 20000 in
theorem dX12_proofOf_6 : decode cX12_proofOf 6 = .ok (.iaload, 1) ∧ 6 + 1 = 7 := ⟨by decide +kernel, rfl⟩
set_option maxRecDepth 20000 in
theorem dX12_proofOf_7 : decode cX12_proofOf 7 = .ok (.i2l, 1) ∧ 7 + 1 = 8 := ⟨by decide +kernel, rfl⟩
set_option maxRecDepth 20000 in
theorem dX12_proofOf_8 : decode cX12_proofOf 8 = .ok (.lstore 4, 2) ∧ 8 + 2 = 10 := ⟨by decide +kernel, rfl⟩
set_option maxRecDepth 20000 in
theorem dX12_proofOf_10 : decode cX12_proofOf 10 = .ok (.ldc2_w 179, 3) ∧ 10 + 3 = 13 := ⟨by decide +kernel, rfl⟩
set_option maxRecDepth 20000 in
theorem dX12_proofOf_13 : decode cX12_proofOf 13 = .ok (.lload 4, 2) ∧ 13 + 2 = 15 := ⟨by decide +kernel, rfl⟩
set_option maxRecDepth 20000 in
theorem dX12_proofOf_15 : decode cX12_proofOf 15 = .ok (.lsub, 1) ∧ 15 + 1 = 16 := ⟨by decide +kernel, rfl⟩
set_option maxRecDepth 20000 in
theorem dX12_proofOf_16 : decode cX12_proofOf 16 = .ok (.lstore 6, 2) ∧ 16 + 2 = 18 := ⟨by decide +kernel, rfl⟩
set_option maxRecDepth 20000 in
theorem dX12_proofOf_18 : decode cX12_proofOf 18 = .ok (.iconst 0, 1) ∧ 18 + 1 = 19 := ⟨by decide +kernel, rfl⟩
set_option maxRecDepth 20000 in
theorem dX12_proofOf_19 : decode cX12_proofOf 19 = .ok (.istore 8, 2) ∧ 19 + 2 = 21 := ⟨by decide +kernel, rfl⟩
set_option maxRecDepth 20000 in
theorem dX12_proofOf_21 : decode cX12_proofOf 21 = .ok (.iload 8, 2) ∧ 21 + 2 = 23 := ⟨by decide +kernel, rfl⟩
set_option maxRecDepth 20000 in
theorem dX12_proofOf_23 : decode cX12_proofOf 23 = .ok (.bipush 8, 2) ∧ 23 + 2 = 25 := ⟨by decide +kernel, rfl⟩
set_option maxRecDepth 20000 in
theorem dX12_proofOf_25 : decode cX12_proofOf 25 = .ok (.if_icmp .ge 84, 3) ∧ 25 + 3 = 28 ∧ ((25 : Nat) : Int) + (84) = ((109 : Nat) : Int) := ⟨by decide +kernel, rfl, by decide⟩
set_option maxRecDepth 20000 in
theorem dX12_proofOf_28 : decode cX12_proofOf 28 = .ok (.iload_n 1, 1) ∧ 28 + 1 = 29 := ⟨by decide +kernel, rfl⟩
set_option maxRecDepth 20000 in
theorem dX12_proofOf_29 : decode cX12_proofOf 29 = .ok (.iload 8, 2) ∧ 29 + 2 = 31 := ⟨by decide +kernel, rfl⟩
set_option maxRecDepth 20000 in
theorem dX12_proofOf_31 : decode cX12_proofOf 31 = .ok (.invokestatic 364, 3) ∧ 31 + 3 = 34 := ⟨by decide +kernel, rfl⟩
set_option maxRecDepth 20000 in
theorem dX12_proofOf_34 : decode cX12_proofOf 34 = .ok (.ifCond .eq 69, 3) ∧ 34 + 3 = 37 ∧ ((34 : Nat) : Int) + (69) = ((103 : Nat) : Int) := ⟨by decide +kernel, rfl, by decide⟩
set_option maxRecDepth 20000 in
theorem dX12_proofOf_37 : decode cX12_proofOf 37 = .ok (.aload_n 0, 1) ∧ 37 + 1 = 38 := ⟨by decide +kernel, rfl⟩
set_option maxRecDepth 20000 in
theorem dX12_proofOf_38 : decode cX12_proofOf 38 = .ok (.iload 8, 2) ∧ 38 + 2 = 40 := ⟨by decide +kernel, rfl⟩
set_option maxRecDepth 20000 in
theorem dX12_proofOf_40 : decode cX12_proofOf 40 = .ok (.invokevirtual 463, 3) ∧ 40 + 3 = 43 := ⟨by decide +kernel, rfl⟩
set_option maxRecDepth 20000 in
theorem dX12_proofOf_43 : decode cX12_proofOf 43 = .ok (.iconst 1, 1) ∧ 43 + 1 = 44 := ⟨by decide +kernel, rfl⟩
set_option maxRecDepth 20000 in
theorem dX12_proofOf_44 : decode cX12_proofOf 44 = .ok (.iadd, 1) ∧ 44 + 1 = 45 := ⟨by decide +kernel, rfl⟩
set_option maxRecDepth 20000 in
theorem dX12_proofOf_45 : decode cX12_proofOf 45 = .ok (.istore 9, 2) ∧ 45 + 2 = 47 := ⟨by decide +kernel, rfl⟩
set_option maxRecDepth 20000 in
theorem dX12_proofOf_47 : decode cX12_proofOf 47 = .ok (.aload_n 0, 1) ∧ 47 + 1 = 48 := ⟨by decide +kernel, rfl⟩
set_option maxRecDepth 20000 in
theorem dX12_proofOf_48 : decode cX12_proofOf 48 = .ok (.iload 8, 2) ∧ 48 + 2 = 50 := ⟨by decide +kernel, rfl⟩
set_option maxRecDepth 20000 in
theorem dX12_proofOf_50 : decode cX12_proofOf 50 = .ok (.invokevirtual 466, 3) ∧ 50 + 3 = 53 := ⟨by decide +kernel, rfl⟩
set_option maxRecDepth 20000 in
theorem dX12_proofOf_53 : decode cX12_proofOf 53 = .ok (.iconst 1, 1) ∧ 53 + 1 = 54 := ⟨by decide +kernel, rfl⟩
set_option maxRecDepth 20000 in
theorem dX12_proofOf_54 : decode cX12_proofOf 54 = .ok (.iadd, 1) ∧ 54 + 1 = 55 := ⟨by decide +kernel, rfl⟩
set_option maxRecDepth 20000 in
theorem dX12_proofOf_55 : decode cX12_proofOf 55 = .ok (.istore 10, 2) ∧ 55 + 2 = 57 := ⟨by decide +kernel, rfl⟩
set_option maxRecDepth 20000 in
theorem dX12_proofOf_57 : decode cX12_proofOf 57 = .ok (.lload 4, 2) ∧ 57 + 2 = 59 := ⟨by decide +kernel, rfl⟩
set_option maxRecDepth 20000 in
theorem dX12_proofOf_59 : decode cX12_proofOf 59 = .ok (.iload_n 2, 1) ∧ 59 + 1 = 60 := ⟨by decide +kernel, rfl⟩
set_option maxRecDepth 20000 in
theorem dX12_proofOf_60 : decode cX12_proofOf 60 = .ok (.iload 8, 2) ∧ 60 + 2 = 62 := ⟨by decide +kernel, rfl⟩
set_option maxRecDepth 20000 in
theorem dX12_proofOf_62 : decode cX12_proofOf 62 = .ok (.invokestatic 364, 3) ∧ 62 + 3 = 65 := ⟨by decide +kernel, rfl⟩
set_option maxRecDepth 20000 in
theorem dX12_proofOf_65 : decode cX12_proofOf 65 = .ok (.ifCond .eq 9, 3) ∧ 65 + 3 = 68 ∧ ((65 : Nat) : Int) + (9) = ((74 : Nat) : Int) := ⟨by decide +kernel, rfl, by decide⟩
set_option maxRecDepth 20000 in
theorem dX12_proofOf_68 : decode cX12_proofOf 68 = .ok (.iload 9, 2) ∧ 68 + 2 = 70 := ⟨by decide +kernel, rfl⟩
set_option maxRecDepth 20000 in
theorem dX12_proofOf_70 : decode cX12_proofOf 70 = .ok (.i2l, 1) ∧ 70 + 1 = 71 := ⟨by decide +kernel, rfl⟩
set_option maxRecDepth 20000 in
theorem dX12_proofOf_71 : decode cX12_proofOf 71 = .ok (.goto 6, 3) ∧ ((71 : Nat) : Int) + (6) = ((77 : Nat) : Int) := ⟨by decide +kernel, by decide⟩
set_option maxRecDepth 20000 in
theorem dX12_proofOf_74 : decode cX12_proofOf 74 = .ok (.iload 10, 2) ∧ 74 + 2 = 76 := ⟨by decide +kernel, rfl⟩
set_option maxRecDepth 20000 in
theorem dX12_proofOf_76 : decode cX12_proofOf 76 = .ok (.i2l, 1) ∧ 76 + 1 = 77 := ⟨by decide +kernel, rfl⟩
set_option maxRecDepth 20000 in
theorem dX12_proofOf_77 : decode cX12_proofOf 77 = .ok (.lmul, 1) ∧ 77 + 1 = 78 := ⟨by decide +kernel, rfl⟩
set_option maxRecDepth 20000 in
theorem dX12_proofOf_78 : decode cX12_proofOf 78 = .ok (.lstore 4, 2) ∧ 78 + 2 = 80 := ⟨by decide +kernel, rfl⟩
set_option maxRecDepth 20000 in
theorem dX12_proofOf_80 : decode cX12_proofOf 80 = .ok (.lload 6, 2) ∧ 80 + 2 = 82 := ⟨by decide +kernel, rfl⟩
set_option maxRecDepth 20000 in
theorem dX12_proofOf_82 : decode cX12_proofOf 82 = .ok (.iload_n 2, 1) ∧ 82 + 1 = 83 := ⟨by decide +kernel, rfl⟩
set_option maxRecDepth 20000 in
theorem dX12_proofOf_83 : decode cX12_proofOf 83 = .ok (.iload 8, 2) ∧ 83 + 2 = 85 := ⟨by decide +kernel, rfl⟩
set_option maxRecDepth 20000 in
theorem dX12_proofOf_85 : decode cX12_proofOf 85 = .ok (.invokestatic 364, 3) ∧ 85 + 3 = 88 := ⟨by decide +kernel, rfl⟩
set_option maxRecDepth 20000 in
theorem dX12_proofOf_88 : decode cX12_proofOf 88 = .ok (.ifCond .eq 9, 3) ∧ 88 + 3 = 91 ∧ ((88 : Nat) : Int) + (9) = ((97 : Nat) : Int) := ⟨by decide +kernel, rfl, by decide⟩
set_option maxRecDepth 20000 in
theorem dX12_proofOf_91 : decode cX12_proofOf 91 = .ok (.iload 10, 2) ∧ 91 + 2 = 93 := ⟨by decide +kernel, rfl⟩
set_option maxRecDepth 20000 in
theorem dX12_proofOf_93 : decode cX12_proofOf 93 = .ok (.i2l, 1) ∧ 93 + 1 = 94 := ⟨by decide +kernel, rfl⟩
set_option maxRecDepth 20000 in
theorem dX12_proofOf_94 : decode cX12_proofOf 94 = .ok (.goto 6, 3) ∧ ((94 : Nat) : Int) + (6) = ((100 : Nat) : Int) := ⟨by decide +kernel, by decide⟩
set_option maxRecDepth 20000 in
theorem dX12_proofOf_97 : decode cX12_proofOf 97 = .ok (.iload 9, 2) ∧ 97 + 2 = 99 := ⟨by decide +kernel, rfl⟩
set_option maxRecDepth 20000 in
theorem dX12_proofOf_99 : decode cX12_proofOf 99 = .ok (.i2l, 1) ∧ 99 + 1 = 100 := ⟨by decide +kernel, rfl⟩
set_option maxRecDepth 20000 in
theorem dX12_proofOf_100 : decode cX12_proofOf 100 = .ok (.lmul, 1) ∧ 100 + 1 = 101 := ⟨by decide +kernel, rfl⟩
set_option maxRecDepth 20000 in
theorem dX12_proofOf_101 : decode cX12_proofOf 101 = .ok (.lstore 6, 2) ∧ 101 + 2 = 103 := ⟨by decide +kernel, rfl⟩
set_option maxRecDepth 20000 in
theorem dX12_proofOf_103 : decode cX12_proofOf 103 = .ok (.iinc 8 1, 3) ∧ 103 + 3 = 106 := ⟨by decide +kernel, rfl⟩
set_option maxRecDepth 20000 in
theorem dX12_proofOf_106 : decode cX12_proofOf 106 = .ok (.goto (-85), 3) ∧ ((106 : Nat) : Int) + (-85) = ((21 : Nat) : Int) := ⟨by decide +kernel, by decide⟩
set_option maxRecDepth 20000 in
theorem dX12_proofOf_109 : decode cX12_proofOf 109 = .ok (.lload 4, 2) ∧ 109 + 2 = 111 := ⟨by decide +kernel, rfl⟩
set_option maxRecDepth 20000 in
theorem dX12_proofOf_111 : decode cX12_proofOf 111 = .ok (.lload 6, 2) ∧ 111 + 2 = 113 := ⟨by decide +kernel, rfl⟩
set_option maxRecDepth 20000 in
theorem dX12_proofOf_113 : decode cX12_proofOf 113 = .ok (.ladd, 1) ∧ 113 + 1 = 114 := ⟨by decide +kernel, rfl⟩
set_option maxRecDepth 20000 in
theorem dX12_proofOf_114 : decode cX12_proofOf 114 = .ok (.lload 4, 2) ∧ 114 + 2 = 116 := ⟨by decide +kernel, rfl⟩
set_option maxRecDepth 20000 in
theorem dX12_proofOf_116 : decode cX12_proofOf 116 = .ok (.invokestatic 475, 3) ∧ 116 + 3 = 119 := ⟨by decide +kernel, rfl⟩
set_option maxRecDepth 20000 in
theorem dX12_proofOf_119 : decode cX12_proofOf 119 = .ok (.lstore 8, 2) ∧ 119 + 2 = 121 := ⟨by decide +kernel, rfl⟩
set_option maxRecDepth 20000 in
theorem dX12_proofOf_121 : decode cX12_proofOf 121 = .ok (.iload_n 3, 1) ∧ 121 + 1 = 122 := ⟨by decide +kernel, rfl⟩
set_option maxRecDepth 20000 in
theorem dX12_proofOf_122 : decode cX12_proofOf 122 = .ok (.ifCond .ne 11, 3) ∧ 122 + 3 = 125 ∧ ((122 : Nat) : Int) + (11) = ((133 : Nat) : Int) := ⟨by decide +kernel, rfl, by decide⟩
set_option maxRecDepth 20000 in
theorem dX12_proofOf_125 : decode cX12_proofOf 125 = .ok (.lload 4, 2) ∧ 125 + 2 = 127 := ⟨by decide +kernel, rfl⟩
set_option maxRecDepth 20000 in
theorem dX12_proofOf_127 : decode cX12_proofOf 127 = .ok (.lload 8, 2) ∧ 127 + 2 = 129 := ⟨by decide +kernel, rfl⟩
set_option maxRecDepth 20000 in
theorem dX12_proofOf_129 : decode cX12_proofOf 129 = .ok (.ldiv, 1) ∧ 129 + 1 = 130 := ⟨by decide +kernel, rfl⟩
set_option maxRecDepth 20000 in
theorem dX12_proofOf_130 : decode cX12_proofOf 130 = .ok (.goto 11, 3) ∧ ((130 : Nat) : Int) + (11) = ((141 : Nat) : Int) := ⟨by decide +kernel, by decide⟩
set_option maxRecDepth 20000 in
theorem dX12_proofOf_133 : decode cX12_proofOf 133 = .ok (.lload 4, 2) ∧ 133 + 2 = 135 := ⟨by decide +kernel, rfl⟩
set_option maxRecDepth 20000 in
theorem dX12_proofOf_135 : decode cX12_proofOf 135 = .ok (.lload 6, 2) ∧ 135 + 2 = 137 := ⟨by decide +kernel, rfl⟩
set_option maxRecDepth 20000 in
theorem dX12_proofOf_137 : decode cX12_proofOf 137 = .ok (.ladd, 1) ∧ 137 + 1 = 138 := ⟨by decide +kernel, rfl⟩
set_option maxRecDepth 20000 in
theorem dX12_proofOf_138 : decode cX12_proofOf 138 = .ok (.lload 8, 2) ∧ 138 + 2 = 140 := ⟨by decide +kernel, rfl⟩
set_option maxRecDepth 20000 in
theorem dX12_proofOf_140 : decode cX12_proofOf 140 = .ok (.ldiv, 1) ∧ 140 + 1 = 141 := ⟨by decide +kernel, rfl⟩
set_option maxRecDepth 20000 in
theorem dX12_proofOf_141 : decode cX12_proofOf 141 = .ok (.lreturn, 1) := by decide +kernel
set_option maxRecDepth 20000 in
theorem dX12_times_0 : decode cX12_times 0 = .ok (.lconst 0, 1) ∧ 0 + 1 = 1 := ⟨by decide +kernel, rfl⟩
set_option maxRecDepth 20000 in
theorem dX12_times_1 : decode cX12_times 1 = .ok (.lstore_n 3, 1) ∧ 1 + 1 = 2 := ⟨by decide +kernel, rfl⟩
set_option maxRecDepth 20000 in
theorem dX12_times_2 : decode cX12_times 2 = .ok (.iconst 0, 1) ∧ 2 + 1 = 3 := ⟨by decide +kernel, rfl⟩
set_option maxRecDepth 20000 in
theorem dX12_times_3 : decode cX12_times 3 = .ok (.istore 5, 2) ∧ 3 + 2 = 5 := ⟨by decide +kernel, rfl⟩
set_option maxRecDepth 20000 in
theorem dX12_times_5 : decode cX12_times 5 = .ok (.iload 5, 2) ∧ 5 + 2 = 7 := ⟨by decide +kernel, rfl⟩
set_option maxRecDepth 20000 in
theorem dX12_times_7 : decode cX12_times 7 = .ok (.bipush 100, 2) ∧ 7 + 2 = 9 := ⟨by decide +kernel, rfl⟩
set_option maxRecDepth 20000 in
theorem dX12_times_9 : decode cX12_times 9 = .ok (.if_icmp .ge 44, 3) ∧ 9 + 3 = 12 ∧ ((9 : Nat) : Int) + (44) = ((53 : Nat) : Int) := ⟨by decide +kernel, rfl, by decide⟩
set_option maxRecDepth 20000 in
theorem dX12_times_12 : decode cX12_times 12 = .ok (.aload_n 0, 1) ∧ 12 + 1 = 13 := ⟨by decide +kernel, rfl⟩
set_option maxRecDepth 20000 in
theorem dX12_times_13 : decode cX12_times 13 = .ok (.getfield 109, 3) ∧ 13 + 3 = 16 := ⟨by decide +kernel, rfl⟩
set_option maxRecDepth 20000 in
theorem dX12_times_16 : decode cX12_times 16 = .ok (.iload 5, 2) ∧ 16 + 2 = 18 := ⟨by decide +kernel, rfl⟩
set_option maxRecDepth 20000 in
theorem dX12_times_18 : decode cX12_times 18 = .ok (.iaload, 1) ∧ 18 + 1 = 19 := ⟨by decide +kernel, rfl⟩
set_option maxRecDepth 20000 in
theorem dX12_times_19 : decode cX12_times 19 = .ok (.i2l, 1) ∧ 19 + 1 = 20 := ⟨by decide +kernel, rfl⟩
set_option maxRecDepth 20000 in
theorem dX12_times_20 : decode cX12_times 20 = .ok (.lload_n 1, 1) ∧ 20 + 1 = 21 := ⟨by decide +kernel, rfl⟩
set_option maxRecDepth 20000 in
theorem dX12_times_21 : decode cX12_times 21 = .ok (.lmul, 1) ∧ 21 + 1 = 22 := ⟨by decide +kernel, rfl⟩
set_option maxRecDepth 20000 in
theorem dX12_times_22 : decode cX12_times 22 = .ok (.lload_n 3, 1) ∧ 22 + 1 = 23 := ⟨by decide +kernel, rfl⟩
set_option maxRecDepth 20000 in
theorem dX12_times_23 : decode cX12_times 23 = .ok (.ladd, 1) ∧ 23 + 1 = 24 := ⟨by decide +kernel, rfl⟩
set_option maxRecDepth 20000 in
theorem dX12_times_24 : decode cX12_times 24 = .ok (.lstore 6, 2) ∧ 24 + 2 = 26 := ⟨by decide +kernel, rfl⟩
set_option maxRecDepth 20000 in
theorem dX12_times_26 : decode cX12_times 26 = .ok (.aload_n 0, 1) ∧ 26 + 1 = 27 := ⟨by decide +kernel, rfl⟩
set_option maxRecDepth 20000 in
theorem dX12_times_27 : decode cX12_times 27 = .ok (.getfield 109, 3) ∧ 27 + 3 = 30 := ⟨by decide +kernel, rfl⟩
set_option maxRecDepth 20000 in
theorem dX12_times_30 : decode cX12_times 30 = .ok (.iload 5, 2) ∧ 30 + 2 = 32 := ⟨by decide +kernel, rfl⟩
set_option maxRecDepth 20000 in
theorem dX12_times_32 : decode cX12_times 32 = .ok (.lload 6, 2) ∧ 32 + 2 = 34 := ⟨by decide +kernel, rfl⟩
set_option maxRecDepth 20000 in
theorem dX12_times_34 : decode cX12_times 34 = .ok (.ldc2_w 225, 3) ∧ 34 + 3 = 37 := ⟨by decide +kernel, rfl⟩
set_option maxRecDepth 20000 in
theorem dX12_times_37 : decode cX12_times 37 = .ok (.lrem, 1) ∧ 37 + 1 = 38 := ⟨by decide +kernel, rfl⟩
set_option maxRecDepth 20000 in
theorem dX12_times_38 : decode cX12_times 38 = .ok (.l2i, 1) ∧ 38 + 1 = 39 := ⟨by decide +kernel, rfl⟩
set_option maxRecDepth 20000 in
theorem dX12_times_39 : decode cX12_times 39 = .ok (.iastore, 1) ∧ 39 + 1 = 40 := ⟨by decide +kernel, rfl⟩
set_option maxRecDepth 20000 in
theorem dX12_times_40 : decode cX12_times 40 = .ok (.lload 6, 2) ∧ 40 + 2 = 42 := ⟨by decide +kernel, rfl⟩
set_option maxRecDepth 20000 in
theorem dX12_times_42 : decode cX12_times 42 = .ok (.ldc2_w 225, 3) ∧ 42 + 3 = 45 := ⟨by decide +kernel, rfl⟩
set_option maxRecDepth 20000 in
theorem dX12_times_45 : decode cX12_times 45 = .ok (.ldiv, 1) ∧ 45 + 1 = 46 := ⟨by decide +kernel, rfl⟩
set_option maxRecDepth 20000 in
theorem dX12_times_46 : decode cX12_times 46 = .ok (.lstore_n 3, 1) ∧ 46 + 1 = 47 := ⟨by decide +kernel, rfl⟩
set_option maxRecDepth 20000 in
theorem dX12_times_47 : decode cX12_times 47 = .ok (.iinc 5 1, 3) ∧ 47 + 3 = 50 := ⟨by decide +kernel, rfl⟩
set_option maxRecDepth 20000 in
theorem dX12_times_50 : decode cX12_times 50 = .ok (.goto (-45), 3) ∧ ((50 : Nat) : Int) + (-45) = ((5 : Nat) : Int) := ⟨by decide +kernel, by decide⟩
set_option maxRecDepth 20000 in
theorem dX12_times_53 : decode cX12_times 53 = .ok (.return_, 1) := by decide +kernel
set_option maxRecDepth 20000 in
theorem dX12_add_0 : decode cX12_add 0 = .ok (.iconst 0, 1) ∧ 0 + 1 = 1 := ⟨by decide +kernel, rfl⟩
set_option maxRecDepth 20000 in
theorem dX12_add_1 : decode cX12_add 1 = .ok (.istore_n 1, 1) ∧ 1 + 1 = 2 := ⟨by decide +kernel, rfl⟩
set_option maxRecDepth 20000 in
theorem dX12_add_2 : decode cX12_add 2 = .ok (.iconst 0, 1) ∧ 2 + 1 = 3 := ⟨by decide +kernel, rfl⟩
set_option maxRecDepth 20000 in
theorem dX12_add_3 : decode cX12_add 3 = .ok (.istore_n 2, 1) ∧ 3 + 1 = 4 := ⟨by decide +kernel, rfl⟩
set_option maxRecDepth 20000 in
theorem dX12_add_4 : decode cX12_add 4 = .ok (.iload_n 2, 1) ∧ 4 + 1 = 5 := ⟨by decide +kernel, rfl⟩
set_option maxRecDepth 20000 in
theorem dX12_add_5 : decode cX12_add 5 = .ok (.bipush 100, 2) ∧ 5 + 2 = 7 := ⟨by decide +kernel, rfl⟩
set_option maxRecDepth 20000 in
theorem dX12_add_7 : decode cX12_add 7 = .ok (.if_icmp .ge 40, 3) ∧ 7 + 3 = 10 ∧ ((7 : Nat) : Int) + (40) = ((47 : Nat) : Int) := ⟨by decide +kernel, rfl, by decide⟩
set_option maxRecDepth 20000 in
theorem dX12_add_10 : decode cX12_add 10 = .ok (.aload_n 0, 1) ∧ 10 + 1 = 11 := ⟨by decide +kernel, rfl⟩
set_option maxRecDepth 20000 in
theorem dX12_add_11 : decode cX12_add 11 = .ok (.getfield 112, 3) ∧ 11 + 3 = 14 := ⟨by decide +kernel, rfl⟩
set_option maxRecDepth 20000 in
theorem dX12_add_14 : decode cX12_add 14 = .ok (.iload_n 2, 1) ∧ 14 + 1 = 15 := ⟨by decide +kernel, rfl⟩
set_option maxRecDepth 20000 in
theorem dX12_add_15 : decode cX12_add 15 = .ok (.iaload, 1) ∧ 15 + 1 = 16 := ⟨by decide +kernel, rfl⟩
set_option maxRecDepth 20000 in
theorem dX12_add_16 : decode cX12_add 16 = .ok (.aload_n 0, 1) ∧ 16 + 1 = 17 := ⟨by decide +kernel, rfl⟩
set_option maxRecDepth 20000 in
theorem dX12_add_17 : decode cX12_add 17 = .ok (.getfield 109, 3) ∧ 17 + 3 = 20 := ⟨by decide +kernel, rfl⟩
set_option maxRecDepth 20000 in
theorem dX12_add_20 : decode cX12_add 20 = .ok (.iload_n 2, 1) ∧ 20 + 1 = 21 := ⟨by decide +kernel, rfl⟩
set_option maxRecDepth 20000 in
theorem dX12_add_21 : decode cX12_add 21 = .ok (.iaload, 1) ∧ 21 + 1 = 22 := ⟨by decide +kernel, rfl⟩
set_option maxRecDepth 20000 in
theorem dX12_add_22 : decode cX12_add 22 = .ok (.iadd, 1) ∧ 22 + 1 = 23 := ⟨by decide +kernel, rfl⟩
set_option maxRecDepth 20000 in
theorem dX12_add_23 : decode cX12_add 23 = .ok (.iload_n 1, 1) ∧ 23 + 1 = 24 := ⟨by decide +kernel, rfl⟩
set_option maxRecDepth 20000 in
theorem dX12_add_24 : decode cX12_add 24 = .ok (.iadd, 1) ∧ 24 + 1 = 25 := ⟨by decide +kernel, rfl⟩
set_option maxRecDepth 20000 in
theorem dX12_add_25 : decode cX12_add 25 = .ok (.istore_n 3, 1) ∧ 25 + 1 = 26 := ⟨by decide +kernel, rfl⟩
set_option maxRecDepth 20000 in
theorem dX12_add_26 : decode cX12_add 26 = .ok (.aload_n 0, 1) ∧ 26 + 1 = 27 := ⟨by decide +kernel, rfl⟩
set_option maxRecDepth 20000 in
theorem dX12_add_27 : decode cX12_add 27 = .ok (.getfield 112, 3) ∧ 27 + 3 = 30 := ⟨by decide +kernel, rfl⟩
set_option maxRecDepth 20000 in
theorem dX12_add_30 : decode cX12_add 30 = .ok (.iload_n 2, 1) ∧ 30 + 1 = 31 := ⟨by decide +kernel, rfl⟩
set_option maxRecDepth 20000 in
theorem dX12_add_31 : decode cX12_add 31 = .ok (.iload_n 3, 1) ∧ 31 + 1 = 32 := ⟨by decide +kernel, rfl⟩
set_option maxRecDepth 20000 in
theorem dX12_add_32 : decode cX12_add 32 = .ok (.bipush 10, 2) ∧ 32 + 2 = 34 := ⟨by decide +kernel, rfl⟩
set_option maxRecDepth 20000 in
theorem dX12_add_34 : decode cX12_add 34 = .ok (.irem, 1) ∧ 34 + 1 = 35 := ⟨by decide +kernel, rfl⟩
set_option maxRecDepth 20000 in
theorem dX12_add_35 : decode cX12_add 35 = .ok (.iastore, 1) ∧ 35 + 1 = 36 := ⟨by decide +kernel, rfl⟩
set_option maxRecDepth 20000 in
theorem dX12_add_36 : decode cX12_add 36 = .ok (.iload_n 3, 1) ∧ 36 + 1 = 37 := ⟨by decide +kernel, rfl⟩
set_option maxRecDepth 20000 in
theorem dX12_add_37 : decode cX12_add 37 = .ok (.bipush 10, 2) ∧ 37 + 2 = 39 := ⟨by decide +kernel, rfl⟩
set_option maxRecDepth 20000 in
theorem dX12_add_39 : decode cX12_add 39 = .ok (.idiv, 1) ∧ 39 + 1 = 40 := ⟨by decide +kernel, rfl⟩
set_option maxRecDepth 20000 in
theorem dX12_add_40 : decode cX12_add 40 = .ok (.istore_n 1, 1) ∧ 40 + 1 = 41 := ⟨by decide +kernel, rfl⟩
set_option maxRecDepth 20000 in
theorem dX12_add_41 : decode cX12_add 41 = .ok (.iinc 2 1, 3) ∧ 41 + 3 = 44 := ⟨by decide +kernel, rfl⟩
set_option maxRecDepth 20000 in
theorem dX12_add_44 : decode cX12_add 44 = .ok (.goto (-40), 3) ∧ ((44 : Nat) : Int) + (-40) = ((4 : Nat) : Int) := ⟨by decide +kernel, by decide⟩
set_option maxRecDepth 20000 in
theorem dX12_add_47 : decode cX12_add 47 = .ok (.return_, 1) := by decide +kernel
set_option maxRecDepth 20000 in
theorem dX12_appeal_0 : decode cX12_appeal 0 = .ok (.aload_n 0, 1) ∧ 0 + 1 = 1 := ⟨by decide +kernel, rfl⟩
set_option maxRecDepth 20000 in
theorem dX12_appeal_1 : decode cX12_appeal 1 = .ok (.iconst 0, 1) ∧ 1 + 1 = 2 := ⟨by decide +kernel, rfl⟩
set_option maxRecDepth 20000 in
theorem dX12_appeal_2 : decode cX12_appeal 2 = .ok (.putfield 124, 3) ∧ 2 + 3 = 5 := ⟨by decide +kernel, rfl⟩
set_option maxRecDepth 20000 in
theorem dX12_appeal_5 : decode cX12_appeal 5 = .ok (.iload_n 1, 1) ∧ 5 + 1 = 6 := ⟨by decide +kernel, rfl⟩
set_option maxRecDepth 20000 in
theorem dX12_appeal_6 : decode cX12_appeal 6 = .ok (.iconst 1, 1) ∧ 6 + 1 = 7 := ⟨by decide +kernel, rfl⟩
set_option maxRecDepth 20000 in
theorem dX12_appeal_7 : decode cX12_appeal 7 = .ok (.if_icmp .eq 15, 3) ∧ 7 + 3 = 10 ∧ ((7 : Nat) : Int) + (15) = ((22 : Nat) : Int) := ⟨by decide +kernel, rfl, by decide⟩
set_option maxRecDepth 20000 in
theorem dX12_appeal_10 : decode cX12_appeal 10 = .ok (.iload_n 1, 1) ∧ 10 + 1 = 11 := ⟨by decide +kernel, rfl⟩
set_option maxRecDepth 20000 in
theorem dX12_appeal_11 : decode cX12_appeal 11 = .ok (.iconst 3, 1) ∧ 11 + 1 = 12 := ⟨by decide +kernel, rfl⟩
set_option maxRecDepth 20000 in
theorem dX12_appeal_12 : decode cX12_appeal 12 = .ok (.if_icmp .eq 10, 3) ∧ 12 + 3 = 15 ∧ ((12 : Nat) : Int) + (10) = ((22 : Nat) : Int) := ⟨by decide +kernel, rfl, by decide⟩
set_option maxRecDepth 20000 in
theorem dX12_appeal_15 : decode cX12_appeal 15 = .ok (.iload_n 1, 1) ∧ 15 + 1 = 16 := ⟨by decide +kernel, rfl⟩
set_option maxRecDepth 20000 in
theorem dX12_appeal_16 : decode cX12_appeal 16 = .ok (.iconst 5, 1) ∧ 16 + 1 = 17 := ⟨by decide +kernel, rfl⟩
set_option maxRecDepth 20000 in
theorem dX12_appeal_17 : decode cX12_appeal 17 = .ok (.if_icmp .eq 5, 3) ∧ 17 + 3 = 20 ∧ ((17 : Nat) : Int) + (5) = ((22 : Nat) : Int) := ⟨by decide +kernel, rfl, by decide⟩
set_option maxRecDepth 20000 in
theorem dX12_appeal_20 : decode cX12_appeal 20 = .ok (.iconst (-1), 1) ∧ 20 + 1 = 21 := ⟨by decide +kernel, rfl⟩
set_option maxRecDepth 20000 in
theorem dX12_appeal_21 : decode cX12_appeal 21 = .ok (.ireturn, 1) := by decide +kernel
set_option maxRecDepth 20000 in
theorem dX12_appeal_22 : decode cX12_appeal 22 = .ok (.aload_n 0, 1) ∧ 22 + 1 = 23 := ⟨by decide +kernel, rfl⟩
set_option maxRecDepth 20000 in
theorem dX12_appeal_23 : decode cX12_appeal 23 = .ok (.invokevirtual 374, 3) ∧ 23 + 3 = 26 := ⟨by decide +kernel, rfl⟩
set_option maxRecDepth 20000 in
theorem dX12_appeal_26 : decode cX12_appeal 26 = .ok (.aload_n 0, 1) ∧ 26 + 1 = 27 := ⟨by decide +kernel, rfl⟩
set_option maxRecDepth 20000 in
theorem dX12_appeal_27 : decode cX12_appeal 27 = .ok (.getfield 13, 3) ∧ 27 + 3 = 30 := ⟨by decide +kernel, rfl⟩
set_option maxRecDepth 20000 in
theorem dX12_appeal_30 : decode cX12_appeal 30 = .ok (.iconst 4, 1) ∧ 30 + 1 = 31 := ⟨by decide +kernel, rfl⟩
set_option maxRecDepth 20000 in
theorem dX12_appeal_31 : decode cX12_appeal 31 = .ok (.iaload, 1) ∧ 31 + 1 = 32 := ⟨by decide +kernel, rfl⟩
set_option maxRecDepth 20000 in
theorem dX12_appeal_32 : decode cX12_appeal 32 = .ok (.invokestatic 435, 3) ∧ 32 + 3 = 35 := ⟨by decide +kernel, rfl⟩
set_option maxRecDepth 20000 in
theorem dX12_appeal_35 : decode cX12_appeal 35 = .ok (.istore_n 2, 1) ∧ 35 + 1 = 36 := ⟨by decide +kernel, rfl⟩
set_option maxRecDepth 20000 in
theorem dX12_appeal_36 : decode cX12_appeal 36 = .ok (.aload_n 0, 1) ∧ 36 + 1 = 37 := ⟨by decide +kernel, rfl⟩
set_option maxRecDepth 20000 in
theorem dX12_appeal_37 : decode cX12_appeal 37 = .ok (.aload_n 0, 1) ∧ 37 + 1 = 38 := ⟨by decide +kernel, rfl⟩
set_option maxRecDepth 20000 in
theorem dX12_appeal_38 : decode cX12_appeal 38 = .ok (.getfield 13, 3) ∧ 38 + 3 = 41 := ⟨by decide +kernel, rfl⟩
set_option maxRecDepth 20000 in
theorem dX12_appeal_41 : decode cX12_appeal 41 = .ok (.iconst 4, 1) ∧ 41 + 1 = 42 := ⟨by decide +kernel, rfl⟩
set_option maxRecDepth 20000 in
theorem dX12_appeal_42 : decode cX12_appeal 42 = .ok (.iaload, 1) ∧ 42 + 1 = 43 := ⟨by decide +kernel, rfl⟩
set_option maxRecDepth 20000 in
theorem dX12_appeal_43 : decode cX12_appeal 43 = .ok (.iconst 0, 1) ∧ 43 + 1 = 44 := ⟨by decide +kernel, rfl⟩
set_option maxRecDepth 20000 in
theorem dX12_appeal_44 : decode cX12_appeal 44 = .ok (.iconst 0, 1) ∧ 44 + 1 = 45 := ⟨by decide +kernel, rfl⟩
set_option maxRecDepth 20000 in
theorem dX12_appeal_45 : decode cX12_appeal 45 = .ok (.aload_n 0, 1) ∧ 45 + 1 = 46 := ⟨by decide +kernel, rfl⟩
set_option maxRecDepth 20000 in
theorem dX12_appeal_46 : decode cX12_appeal 46 = .ok (.invokevirtual 377, 3) ∧ 46 + 3 = 49 := ⟨by decide +kernel, rfl⟩
set_option maxRecDepth 20000 in
theorem dX12_appeal_49 : decode cX12_appeal 49 = .ok (.invokevirtual 380, 3) ∧ 49 + 3 = 52 := ⟨by decide +kernel, rfl⟩
set_option maxRecDepth 20000 in
theorem dX12_appeal_52 : decode cX12_appeal 52 = .ok (.lstore_n 3, 1) ∧ 52 + 1 = 53 := ⟨by decide +kernel, rfl⟩
set_option maxRecDepth 20000 in
theorem dX12_appeal_53 : decode cX12_appeal 53 = .ok (.iload_n 2, 1) ∧ 53 + 1 = 54 := ⟨by decide +kernel, rfl⟩
set_option maxRecDepth 20000 in
theorem dX12_appeal_54 : decode cX12_appeal 54 = .ok (.invokestatic 431, 3) ∧ 54 + 3 = 57 := ⟨by decide +kernel, rfl⟩
set_option maxRecDepth 20000 in
theorem dX12_appeal_57 : decode cX12_appeal 57 = .ok (.lload_n 3, 1) ∧ 57 + 1 = 58 := ⟨by decide +kernel, rfl⟩
set_option maxRecDepth 20000 in
theorem dX12_appeal_58 : decode cX12_appeal 58 = .ok (.lsub, 1) ∧ 58 + 1 = 59 := ⟨by decide +kernel, rfl⟩
set_option maxRecDepth 20000 in
theorem dX12_appeal_59 : decode cX12_appeal 59 = .ok (.lstore 5, 2) ∧ 59 + 2 = 61 := ⟨by decide +kernel, rfl⟩
set_option maxRecDepth 20000 in
theorem dX12_appeal_61 : decode cX12_appeal 61 = .ok (.iconst 0, 1) ∧ 61 + 1 = 62 := ⟨by decide +kernel, rfl⟩
set_option maxRecDepth 20000 in
theorem dX12_appeal_62 : decode cX12_appeal 62 = .ok (.istore 7, 2) ∧ 62 + 2 = 64 := ⟨by decide +kernel, rfl⟩
set_option maxRecDepth 20000 in
theorem dX12_appeal_64 : decode cX12_appeal 64 = .ok (.iload 7, 2) ∧ 64 + 2 = 66 := ⟨by decide +kernel, rfl⟩
set_option maxRecDepth 20000 in
theorem dX12_appeal_66 : decode cX12_appeal 66 = .ok (.bipush 100, 2) ∧ 66 + 2 = 68 := ⟨by decide +kernel, rfl⟩
set_option maxRecDepth 20000 in
theorem dX12_appeal_68 : decode cX12_appeal 68 = .ok (.if_icmp .ge 17, 3) ∧ 68 + 3 = 71 ∧ ((68 : Nat) : Int) + (17) = ((85 : Nat) : Int) := ⟨by decide +kernel, rfl, by decide⟩
set_option maxRecDepth 20000 in
theorem dX12_appeal_71 : decode cX12_appeal 71 = .ok (.aload_n 0, 1) ∧ 71 + 1 = 72 := ⟨by decide +kernel, rfl⟩
set_option maxRecDepth 20000 in
theorem dX12_appeal_72 : decode cX12_appeal 72 = .ok (.getfield 112, 3) ∧ 72 + 3 = 75 := ⟨by decide +kernel, rfl⟩
set_option maxRecDepth 20000 in
theorem dX12_appeal_75 : decode cX12_appeal 75 = .ok (.iload 7, 2) ∧ 75 + 2 = 77 := ⟨by decide +kernel, rfl⟩
set_option maxRecDepth 20000 in
theorem dX12_appeal_77 : decode cX12_appeal 77 = .ok (.iconst 0, 1) ∧ 77 + 1 = 78 := ⟨by decide +kernel, rfl⟩
set_option maxRecDepth 20000 in
theorem dX12_appeal_78 : decode cX12_appeal 78 = .ok (.iastore, 1) ∧ 78 + 1 = 79 := ⟨by decide +kernel, rfl⟩
set_option maxRecDepth 20000 in
theorem dX12_appeal_79 : decode cX12_appeal 79 = .ok (.iinc 7 1, 3) ∧ 79 + 3 = 82 := ⟨by decide +kernel, rfl⟩
set_option maxRecDepth 20000 in
theorem dX12_appeal_82 : decode cX12_appeal 82 = .ok (.goto (-18), 3) ∧ ((82 : Nat) : Int) + (-18) = ((64 : Nat) : Int) := ⟨by decide +kernel, by decide⟩
set_option maxRecDepth 20000 in
theorem dX12_appeal_85 : decode cX12_appeal 85 = .ok (.lconst 1, 1) ∧ 85 + 1 = 86 := ⟨by decide +kernel, rfl⟩
set_option maxRecDepth 20000 in
theorem dX12_appeal_86 : decode cX12_appeal 86 = .ok (.lstore 7, 2) ∧ 86 + 2 = 88 := ⟨by decide +kernel, rfl⟩
set_option maxRecDepth 20000 in
theorem dX12_appeal_88 : decode cX12_appeal 88 = .ok (.iload_n 1, 1) ∧ 88 + 1 = 89 := ⟨by decide +kernel, rfl⟩
set_option maxRecDepth 20000 in
theorem dX12_appeal_89 : decode cX12_appeal 89 = .ok (.istore 9, 2) ∧ 89 + 2 = 91 := ⟨by decide +kernel, rfl⟩
set_option maxRecDepth 20000 in
theorem dX12_appeal_91 : decode cX12_appeal 91 = .ok (.iconst 2, 1) ∧ 91 + 1 = 92 := ⟨by decide +kernel, rfl⟩
set_option maxRecDepth 20000 in
theorem dX12_appeal_92 : decode cX12_appeal 92 = .ok (.iload 9, 2) ∧ 92 + 2 = 94 := ⟨by decide +kernel, rfl⟩
set_option maxRecDepth 20000 in
theorem dX12_appeal_94 : decode cX12_appeal 94 = .ok (.imul, 1) ∧ 94 + 1 = 95 := ⟨by decide +kernel, rfl⟩
set_option maxRecDepth 20000 in
theorem dX12_appeal_95 : decode cX12_appeal 95 = .ok (.iload_n 1, 1) ∧ 95 + 1 = 96 := ⟨by decide +kernel, rfl⟩
set_option maxRecDepth 20000 in
theorem dX12_appeal_96 : decode cX12_appeal 96 = .ok (.if_icmp .le 104, 3) ∧ 96 + 3 = 99 ∧ ((96 : Nat) : Int) + (104) = ((200 : Nat) : Int) := ⟨by decide +kernel, rfl, by decide⟩
set_option maxRecDepth 20000 in
theorem dX12_appeal_99 : decode cX12_appeal 99 = .ok (.iconst 0, 1) ∧ 99 + 1 = 100 := ⟨by decide +kernel, rfl⟩
set_option maxRecDepth 20000 in
theorem dX12_appeal_100 : decode cX12_appeal 100 = .ok (.istore 10, 2) ∧ 100 + 2 = 102 := ⟨by decide +kernel, rfl⟩
set_option maxRecDepth 20000 in
theorem dX12_appeal_102 : decode cX12_appeal 102 = .ok (.iload 10, 2) ∧ 102 + 2 = 104 := ⟨by decide +kernel, rfl⟩
set_option maxRecDepth 20000 in
theorem dX12_appeal_104 : decode cX12_appeal 104 = .ok (.bipush 100, 2) ∧ 104 + 2 = 106 := ⟨by decide +kernel, rfl⟩
set_option maxRecDepth 20000 in
theorem dX12_appeal_106 : decode cX12_appeal 106 = .ok (.if_icmp .ge 26, 3) ∧ 106 + 3 = 109 ∧ ((106 : Nat) : Int) + (26) = ((132 : Nat) : Int) := ⟨by decide +kernel, rfl, by decide⟩
set_option maxRecDepth 20000 in
theorem dX12_appeal_109 : decode cX12_appeal 109 = .ok (.aload_n 0, 1) ∧ 109 + 1 = 110 := ⟨by decide +kernel, rfl⟩
set_option maxRecDepth 20000 in
theorem dX12_appeal_110 : decode cX12_appeal 110 = .ok (.getfield 109, 3) ∧ 110 + 3 = 113 := ⟨by decide +kernel, rfl⟩
set_option maxRecDepth 20000 in
theorem dX12_appeal_113 : decode cX12_appeal 113 = .ok (.iload 10, 2) ∧ 113 + 2 = 115 := ⟨by decide +kernel, rfl⟩
set_option maxRecDepth 20000 in
theorem dX12_appeal_115 : decode cX12_appeal 115 = .ok (.iload 10, 2) ∧ 115 + 2 = 117 := ⟨by decide +kernel, rfl⟩
set_option maxRecDepth 20000 in
theorem dX12_appeal_117 : decode cX12_appeal 117 = .ok (.ifCond .ne 7, 3) ∧ 117 + 3 = 120 ∧ ((117 : Nat) : Int) + (7) = ((124 : Nat) : Int) := ⟨by decide +kernel, rfl, by decide⟩
set_option maxRecDepth 20000 in
theorem dX12_appeal_120 : decode cX12_appeal 120 = .ok (.iconst 1, 1) ∧ 120 + 1 = 121 := ⟨by decide +kernel, rfl⟩
set_option maxRecDepth 20000 in
theorem dX12_appeal_121 : decode cX12_appeal 121 = .ok (.goto 4, 3) ∧ ((121 : Nat) : Int) + (4) = ((125 : Nat) : Int) := ⟨by decide +kernel, by decide⟩
set_option maxRecDepth 20000 in
theorem dX12_appeal_124 : decode cX12_appeal 124 = .ok (.iconst 0, 1) ∧ 124 + 1 = 125 := ⟨by decide +kernel, rfl⟩
set_option maxRecDepth 20000 in
theorem dX12_appeal_125 : decode cX12_appeal 125 = .ok (.iastore, 1) ∧ 125 + 1 = 126 := ⟨by decide +kernel, rfl⟩
set_option maxRecDepth 20000 in
theorem dX12_appeal_126 : decode cX12_appeal 126 = .ok (.iinc 10 1, 3) ∧ 126 + 3 = 129 := ⟨by decide +kernel, rfl⟩
set_option maxRecDepth 20000 in
theorem dX12_appeal_129 : decode cX12_appeal 129 = .ok (.goto (-27), 3) ∧ ((129 : Nat) : Int) + (-27) = ((102 : Nat) : Int) := ⟨by decide +kernel, by decide⟩
set_option maxRecDepth 20000 in
theorem dX12_appeal_132 : decode cX12_appeal 132 = .ok (.aload_n 0, 1) ∧ 132 + 1 = 133 := ⟨by decide +kernel, rfl⟩
set_option maxRecDepth 20000 in
theorem dX12_appeal_133 : decode cX12_appeal 133 = .ok (.ldc2_w 223, 3) ∧ 133 + 3 = 136 := ⟨by decide +kernel, rfl⟩
set_option maxRecDepth 20000 in
theorem dX12_appeal_136 : decode cX12_appeal 136 = .ok (.lload 7, 2) ∧ 136 + 2 = 138 := ⟨by decide +kernel, rfl⟩
set_option maxRecDepth 20000 in
theorem dX12_appeal_138 : decode cX12_appeal 138 = .ok (.lmul, 1) ∧ 138 + 1 = 139 := ⟨by decide +kernel, rfl⟩
set_option maxRecDepth 20000 in
theorem dX12_appeal_139 : decode cX12_appeal 139 = .ok (.invokevirtual 479, 3) ∧ 139 + 3 = 142 := ⟨by decide +kernel, rfl⟩
set_option maxRecDepth 20000 in
theorem dX12_appeal_142 : decode cX12_appeal 142 = .ok (.iconst 0, 1) ∧ 142 + 1 = 143 := ⟨by decide +kernel, rfl⟩
set_option maxRecDepth 20000 in
theorem dX12_appeal_143 : decode cX12_appeal 143 = .ok (.istore 10, 2) ∧ 143 + 2 = 145 := ⟨by decide +kernel, rfl⟩
set_option maxRecDepth 20000 in
theorem dX12_appeal_145 : decode cX12_appeal 145 = .ok (.iload 10, 2) ∧ 145 + 2 = 147 := ⟨by decide +kernel, rfl⟩
set_option maxRecDepth 20000 in
theorem dX12_appeal_147 : decode cX12_appeal 147 = .ok (.iload_n 1, 1) ∧ 147 + 1 = 148 := ⟨by decide +kernel, rfl⟩
set_option maxRecDepth 20000 in
theorem dX12_appeal_148 : decode cX12_appeal 148 = .ok (.if_icmp .ge 26, 3) ∧ 148 + 3 = 151 ∧ ((148 : Nat) : Int) + (26) = ((174 : Nat) : Int) := ⟨by decide +kernel, rfl, by decide⟩
set_option maxRecDepth 20000 in
theorem dX12_appeal_151 : decode cX12_appeal 151 = .ok (.aload_n 0, 1) ∧ 151 + 1 = 152 := ⟨by decide +kernel, rfl⟩
set_option maxRecDepth 20000 in
theorem dX12_appeal_152 : decode cX12_appeal 152 = .ok (.iload 10, 2) ∧ 152 + 2 = 154 := ⟨by decide +kernel, rfl⟩
set_option maxRecDepth 20000 in
theorem dX12_appeal_154 : decode cX12_appeal 154 = .ok (.iload 9, 2) ∧ 154 + 2 = 156 := ⟨by decide +kernel, rfl⟩
set_option maxRecDepth 20000 in
theorem dX12_appeal_156 : decode cX12_appeal 156 = .ok (.if_icmp .ge 7, 3) ∧ 156 + 3 = 159 ∧ ((156 : Nat) : Int) + (7) = ((163 : Nat) : Int) := ⟨by decide +kernel, rfl, by decide⟩
set_option maxRecDepth 20000 in
theorem dX12_appeal_159 : decode cX12_appeal 159 = .ok (.lload_n 3, 1) ∧ 159 + 1 = 160 := ⟨by decide +kernel, rfl⟩
set_option maxRecDepth 20000 in
theorem dX12_appeal_160 : decode cX12_appeal 160 = .ok (.goto 5, 3) ∧ ((160 : Nat) : Int) + (5) = ((165 : Nat) : Int) := ⟨by decide +kernel, by decide⟩
set_option maxRecDepth 20000 in
theorem dX12_appeal_163 : decode cX12_appeal 163 = .ok (.lload 5, 2) ∧ 163 + 2 = 165 := ⟨by decide +kernel, rfl⟩
set_option maxRecDepth 20000 in
theorem dX12_appeal_165 : decode cX12_appeal 165 = .ok (.invokevirtual 479, 3) ∧ 165 + 3 = 168 := ⟨by decide +kernel, rfl⟩
set_option maxRecDepth 20000 in
theorem dX12_appeal_168 : decode cX12_appeal 168 = .ok (.iinc 10 1, 3) ∧ 168 + 3 = 171 := ⟨by decide +kernel, rfl⟩
set_option maxRecDepth 20000 in
theorem dX12_appeal_171 : decode cX12_appeal 171 = .ok (.goto (-26), 3) ∧ ((171 : Nat) : Int) + (-26) = ((145 : Nat) : Int) := ⟨by decide +kernel, by decide⟩
set_option maxRecDepth 20000 in
theorem dX12_appeal_174 : decode cX12_appeal 174 = .ok (.aload_n 0, 1) ∧ 174 + 1 = 175 := ⟨by decide +kernel, rfl⟩
set_option maxRecDepth 20000 in
theorem dX12_appeal_175 : decode cX12_appeal 175 = .ok (.invokevirtual 483, 3) ∧ 175 + 3 = 178 := ⟨by decide +kernel, rfl⟩
set_option maxRecDepth 20000 in
theorem dX12_appeal_178 : decode cX12_appeal 178 = .ok (.lload 7, 2) ∧ 178 + 2 = 180 := ⟨by decide +kernel, rfl⟩
set_option maxRecDepth 20000 in
theorem dX12_appeal_180 : decode cX12_appeal 180 = .ok (.iload 9, 2) ∧ 180 + 2 = 182 := ⟨by decide +kernel, rfl⟩
set_option maxRecDepth 20000 in
theorem dX12_appeal_182 : decode cX12_appeal 182 = .ok (.i2l, 1) ∧ 182 + 1 = 183 := ⟨by decide +kernel, rfl⟩
set_option maxRecDepth 20000 in
theorem dX12_appeal_183 : decode cX12_appeal 183 = .ok (.lmul, 1) ∧ 183 + 1 = 184 := ⟨by decide +kernel, rfl⟩
set_option maxRecDepth 20000 in
theorem dX12_appeal_184 : decode cX12_appeal 184 = .ok (.iload_n 1, 1) ∧ 184 + 1 = 185 := ⟨by decide +kernel, rfl⟩
set_option maxRecDepth 20000 in
theorem dX12_appeal_185 : decode cX12_appeal 185 = .ok (.iload 9, 2) ∧ 185 + 2 = 187 := ⟨by decide +kernel, rfl⟩
set_option maxRecDepth 20000 in
theorem dX12_appeal_187 : decode cX12_appeal 187 = .ok (.isub, 1) ∧ 187 + 1 = 188 := ⟨by decide +kernel, rfl⟩
set_option maxRecDepth 20000 in
theorem dX12_appeal_188 : decode cX12_appeal 188 = .ok (.iconst 1, 1) ∧ 188 + 1 = 189 := ⟨by decide +kernel, rfl⟩
set_option maxRecDepth 20000 in
theorem dX12_appeal_189 : decode cX12_appeal 189 = .ok (.iadd, 1) ∧ 189 + 1 = 190 := ⟨by decide +kernel, rfl⟩
set_option maxRecDepth 20000 in
theorem dX12_appeal_190 : decode cX12_appeal 190 = .ok (.i2l, 1) ∧ 190 + 1 = 191 := ⟨by decide +kernel, rfl⟩
set_option maxRecDepth 20000 in
theorem dX12_appeal_191 : decode cX12_appeal 191 = .ok (.ldiv, 1) ∧ 191 + 1 = 192 := ⟨by decide +kernel, rfl⟩
set_option maxRecDepth 20000 in
theorem dX12_appeal_192 : decode cX12_appeal 192 = .ok (.lstore 7, 2) ∧ 192 + 2 = 194 := ⟨by decide +kernel, rfl⟩
set_option maxRecDepth 20000 in
theorem dX12_appeal_194 : decode cX12_appeal 194 = .ok (.iinc 9 (-1), 3) ∧ 194 + 3 = 197 := ⟨by decide +kernel, rfl⟩
set_option maxRecDepth 20000 in
theorem dX12_appeal_197 : decode cX12_appeal 197 = .ok (.goto (-106), 3) ∧ ((197 : Nat) : Int) + (-106) = ((91 : Nat) : Int) := ⟨by decide +kernel, by decide⟩
set_option maxRecDepth 20000 in
theorem dX12_appeal_200 : decode cX12_appeal 200 = .ok (.iconst 0, 1) ∧ 200 + 1 = 201 := ⟨by decide +kernel, rfl⟩
set_option maxRecDepth 20000 in
theorem dX12_appeal_201 : decode cX12_appeal 201 = .ok (.istore 9, 2) ∧ 201 + 2 = 203 := ⟨by decide +kernel, rfl⟩
set_option maxRecDepth 20000 in
theorem dX12_appeal_203 : decode cX12_appeal 203 = .ok (.bipush 99, 2) ∧ 203 + 2 = 205 := ⟨by decide +kernel, rfl⟩
set_option maxRecDepth 20000 in
theorem dX12_appeal_205 : decode cX12_appeal 205 = .ok (.istore 10, 2) ∧ 205 + 2 = 207 := ⟨by decide +kernel, rfl⟩
set_option maxRecDepth 20000 in
theorem dX12_appeal_207 : decode cX12_appeal 207 = .ok (.iload 10, 2) ∧ 207 + 2 = 209 := ⟨by decide +kernel, rfl⟩
set_option maxRecDepth 20000 in
theorem dX12_appeal_209 : decode cX12_appeal 209 = .ok (.iconst 2, 1) ∧ 209 + 1 = 210 := ⟨by decide +kernel, rfl⟩
set_option maxRecDepth 20000 in
theorem dX12_appeal_210 : decode cX12_appeal 210 = .ok (.iload_n 2, 1) ∧ 210 + 1 = 211 := ⟨by decide +kernel, rfl⟩
set_option maxRecDepth 20000 in
theorem dX12_appeal_211 : decode cX12_appeal 211 = .ok (.imul, 1) ∧ 211 + 1 = 212 := ⟨by decide +kernel, rfl⟩
set_option maxRecDepth 20000 in
theorem dX12_appeal_212 : decode cX12_appeal 212 = .ok (.iload_n 1, 1) ∧ 212 + 1 = 213 := ⟨by decide +kernel, rfl⟩
set_option maxRecDepth 20000 in
theorem dX12_appeal_213 : decode cX12_appeal 213 = .ok (.imul, 1) ∧ 213 + 1 = 214 := ⟨by decide +kernel, rfl⟩
set_option maxRecDepth 20000 in
theorem dX12_appeal_214 : decode cX12_appeal 214 = .ok (.if_icmp .lt 24, 3) ∧ 214 + 3 = 217 ∧ ((214 : Nat) : Int) + (24) = ((238 : Nat) : Int) := ⟨by decide +kernel, rfl, by decide⟩
set_option maxRecDepth 20000 in
theorem dX12_appeal_217 : decode cX12_appeal 217 = .ok (.bipush 10, 2) ∧ 217 + 2 = 219 := ⟨by decide +kernel, rfl⟩
set_option maxRecDepth 20000 in
theorem dX12_appeal_219 : decode cX12_appeal 219 = .ok (.iload 9, 2) ∧ 219 + 2 = 221 := ⟨by decide +kernel, rfl⟩
set_option maxRecDepth 20000 in
theorem dX12_appeal_221 : decode cX12_appeal 221 = .ok (.imul, 1) ∧ 221 + 1 = 222 := ⟨by decide +kernel, rfl⟩
set_option maxRecDepth 20000 in
theorem dX12_appeal_222 : decode cX12_appeal 222 = .ok (.aload_n 0, 1) ∧ 222 + 1 = 223 := ⟨by decide +kernel, rfl⟩
set_option maxRecDepth 20000 in
theorem dX12_appeal_223 : decode cX12_appeal 223 = .ok (.getfield 112, 3) ∧ 223 + 3 = 226 := ⟨by decide +kernel, rfl⟩
set_option maxRecDepth 20000 in
theorem dX12_appeal_226 : decode cX12_appeal 226 = .ok (.iload 10, 2) ∧ 226 + 2 = 228 := ⟨by decide +kernel, rfl⟩
set_option maxRecDepth 20000 in
theorem dX12_appeal_228 : decode cX12_appeal 228 = .ok (.iaload, 1) ∧ 228 + 1 = 229 := ⟨by decide +kernel, rfl⟩
set_option maxRecDepth 20000 in
theorem dX12_appeal_229 : decode cX12_appeal 229 = .ok (.iadd, 1) ∧ 229 + 1 = 230 := ⟨by decide +kernel, rfl⟩
set_option maxRecDepth 20000 in
theorem dX12_appeal_230 : decode cX12_appeal 230 = .ok (.istore 9, 2) ∧ 230 + 2 = 232 := ⟨by decide +kernel, rfl⟩
set_option maxRecDepth 20000 in
theorem dX12_appeal_232 : decode cX12_appeal 232 = .ok (.iinc 10 (-1), 3) ∧ 232 + 3 = 235 := ⟨by decide +kernel, rfl⟩
set_option maxRecDepth 20000 in
theorem dX12_appeal_235 : decode cX12_appeal 235 = .ok (.goto (-28), 3) ∧ ((235 : Nat) : Int) + (-28) = ((207 : Nat) : Int) := ⟨by decide +kernel, by decide⟩
set_option maxRecDepth 20000 in
theorem dX12_appeal_238 : decode cX12_appeal 238 = .ok (.iload 9, 2) ∧ 238 + 2 = 240 := ⟨by decide +kernel, rfl⟩
set_option maxRecDepth 20000 in
theorem dX12_appeal_240 : decode cX12_appeal 240 = .ok (.ireturn, 1) := by decide +kernel
set_option maxRecDepth 20000 in
theorem dX12_draw_0 : decode cX12_draw 0 = .ok (.aload_n 0, 1) ∧ 0 + 1 = 1 := ⟨by decide +kernel, rfl⟩
set_option maxRecDepth 20000 in
theorem dX12_draw_1 : decode cX12_draw 1 = .ok (.aload_n 0, 1) ∧ 1 + 1 = 2 := ⟨by decide +kernel, rfl⟩
set_option maxRecDepth 20000 in
theorem dX12_draw_2 : decode cX12_draw 2 = .ok (.getfield 486, 3) ∧ 2 + 3 = 5 := ⟨by decide +kernel, rfl⟩
set_option maxRecDepth 20000 in
theorem dX12_draw_5 : decode cX12_draw 5 = .ok (.ldc2_w 489, 3) ∧ 5 + 3 = 8 := ⟨by decide +kernel, rfl⟩
set_option maxRecDepth 20000 in
theorem dX12_draw_8 : decode cX12_draw 8 = .ok (.lmul, 1) ∧ 8 + 1 = 9 := ⟨by decide +kernel, rfl⟩
set_option maxRecDepth 20000 in
theorem dX12_draw_9 : decode cX12_draw 9 = .ok (.ldc2_w 491, 3) ∧ 9 + 3 = 12 := ⟨by decide +kernel, rfl⟩
set_option maxRecDepth 20000 in
theorem dX12_draw_12 : decode cX12_draw 12 = .ok (.ladd, 1) ∧ 12 + 1 = 13 := ⟨by decide +kernel, rfl⟩
set_option maxRecDepth 20000 in
theorem dX12_draw_13 : decode cX12_draw 13 = .ok (.ldc2_w 493, 3) ∧ 13 + 3 = 16 := ⟨by decide +kernel, rfl⟩
set_option maxRecDepth 20000 in
theorem dX12_draw_16 : decode cX12_draw 16 = .ok (.lrem, 1) ∧ 16 + 1 = 17 := ⟨by decide +kernel, rfl⟩
set_option maxRecDepth 20000 in
theorem dX12_draw_17 : decode cX12_draw 17 = .ok (.putfield 486, 3) ∧ 17 + 3 = 20 := ⟨by decide +kernel, rfl⟩
set_option maxRecDepth 20000 in
theorem dX12_draw_20 : decode cX12_draw 20 = .ok (.aload_n 0, 1) ∧ 20 + 1 = 21 := ⟨by decide +kernel, rfl⟩
set_option maxRecDepth 20000 in
theorem dX12_draw_21 : decode cX12_draw 21 = .ok (.getfield 486, 3) ∧ 21 + 3 = 24 := ⟨by decide +kernel, rfl⟩
set_option maxRecDepth 20000 in
theorem dX12_draw_24 : decode cX12_draw 24 = .ok (.ldc2_w 179, 3) ∧ 24 + 3 = 27 := ⟨by decide +kernel, rfl⟩
set_option maxRecDepth 20000 in
theorem dX12_draw_27 : decode cX12_draw 27 = .ok (.lrem, 1) ∧ 27 + 1 = 28 := ⟨by decide +kernel, rfl⟩
set_option maxRecDepth 20000 in
theorem dX12_draw_28 : decode cX12_draw 28 = .ok (.l2i, 1) ∧ 28 + 1 = 29 := ⟨by decide +kernel, rfl⟩
set_option maxRecDepth 20000 in
theorem dX12_draw_29 : decode cX12_draw 29 = .ok (.ireturn, 1) := by decide +kernel
set_option maxRecDepth 20000 in
theorem dX12_sitting_0 : decode cX12_sitting 0 = .ok (.aload_n 0, 1) ∧ 0 + 1 = 1 := ⟨by decide +kernel, rfl⟩
set_option maxRecDepth 20000 in
theorem dX12_sitting_1 : decode cX12_sitting 1 = .ok (.iconst 0, 1) ∧ 1 + 1 = 2 := ⟨by decide +kernel, rfl⟩
set_option maxRecDepth 20000 in
theorem dX12_sitting_2 : decode cX12_sitting 2 = .ok (.putfield 124, 3) ∧ 2 + 3 = 5 := ⟨by decide +kernel, rfl⟩
set_option maxRecDepth 20000 in
theorem dX12_sitting_5 : decode cX12_sitting 5 = .ok (.iload_n 1, 1) ∧ 5 + 1 = 6 := ⟨by decide +kernel, rfl⟩
set_option maxRecDepth 20000 in
theorem dX12_sitting_6 : decode cX12_sitting 6 = .ok (.i2l, 1) ∧ 6 + 1 = 7 := ⟨by decide +kernel, rfl⟩
set_option maxRecDepth 20000 in
theorem dX12_sitting_7 : decode cX12_sitting 7 = .ok (.lconst 0, 1) ∧ 7 + 1 = 8 := ⟨by decide +kernel, rfl⟩
set_option maxRecDepth 20000 in
theorem dX12_sitting_8 : decode cX12_sitting 8 = .ok (.ldc2_w 223, 3) ∧ 8 + 3 = 11 := ⟨by decide +kernel, rfl⟩
set_option maxRecDepth 20000 in
theorem dX12_sitting_11 : decode cX12_sitting 11 = .ok (.invokestatic 134, 3) ∧ 11 + 3 = 14 := ⟨by decide +kernel, rfl⟩
set_option maxRecDepth 20000 in
theorem dX12_sitting_14 : decode cX12_sitting 14 = .ok (.ifCond .ne 9, 3) ∧ 14 + 3 = 17 ∧ ((14 : Nat) : Int) + (9) = ((23 : Nat) : Int) := ⟨by decide +kernel, rfl, by decide⟩
set_option maxRecDepth 20000 in
theorem dX12_sitting_17 : decode cX12_sitting 17 = .ok (.aload_n 0, 1) ∧ 17 + 1 = 18 := ⟨by decide +kernel, rfl⟩
set_option maxRecDepth 20000 in
theorem dX12_sitting_18 : decode cX12_sitting 18 = .ok (.iconst (-1), 1) ∧ 18 + 1 = 19 := ⟨by decide +kernel, rfl⟩
set_option maxRecDepth 20000 in
theorem dX12_sitting_19 : decode cX12_sitting 19 = .ok (.invokevirtual 138, 3) ∧ 19 + 3 = 22 := ⟨by decide +kernel, rfl⟩
set_option maxRecDepth 20000 in
theorem dX12_sitting_22 : decode cX12_sitting 22 = .ok (.ireturn, 1) := by decide +kernel
set_option maxRecDepth 20000 in
theorem dX12_sitting_23 : decode cX12_sitting 23 = .ok (.aload_n 0, 1) ∧ 23 + 1 = 24 := ⟨by decide +kernel, rfl⟩
set_option maxRecDepth 20000 in
theorem dX12_sitting_24 : decode cX12_sitting 24 = .ok (.iload_n 1, 1) ∧ 24 + 1 = 25 := ⟨by decide +kernel, rfl⟩
set_option maxRecDepth 20000 in
theorem dX12_sitting_25 : decode cX12_sitting 25 = .ok (.i2l, 1) ∧ 25 + 1 = 26 := ⟨by decide +kernel, rfl⟩
set_option maxRecDepth 20000 in
theorem dX12_sitting_26 : decode cX12_sitting 26 = .ok (.putfield 486, 3) ∧ 26 + 3 = 29 := ⟨by decide +kernel, rfl⟩
set_option maxRecDepth 20000 in
theorem dX12_sitting_29 : decode cX12_sitting 29 = .ok (.iconst 0, 1) ∧ 29 + 1 = 30 := ⟨by decide +kernel, rfl⟩
set_option maxRecDepth 20000 in
theorem dX12_sitting_30 : decode cX12_sitting 30 = .ok (.istore_n 2, 1) ∧ 30 + 1 = 31 := ⟨by decide +kernel, rfl⟩
set_option maxRecDepth 20000 in
theorem dX12_sitting_31 : decode cX12_sitting 31 = .ok (.iload_n 2, 1) ∧ 31 + 1 = 32 := ⟨by decide +kernel, rfl⟩
set_option maxRecDepth 20000 in
theorem dX12_sitting_32 : decode cX12_sitting 32 = .ok (.bipush 8, 2) ∧ 32 + 2 = 34 := ⟨by decide +kernel, rfl⟩
set_option maxRecDepth 20000 in
theorem dX12_sitting_34 : decode cX12_sitting 34 = .ok (.if_icmp .ge 23, 3) ∧ 34 + 3 = 37 ∧ ((34 : Nat) : Int) + (23) = ((57 : Nat) : Int) := ⟨by decide +kernel, rfl, by decide⟩
set_option maxRecDepth 20000 in
theorem dX12_sitting_37 : decode cX12_sitting 37 = .ok (.aload_n 0, 1) ∧ 37 + 1 = 38 := ⟨by decide +kernel, rfl⟩
set_option maxRecDepth 20000 in
theorem dX12_sitting_38 : decode cX12_sitting 38 = .ok (.getfield 115, 3) ∧ 38 + 3 = 41 := ⟨by decide +kernel, rfl⟩
set_option maxRecDepth 20000 in
theorem dX12_sitting_41 : decode cX12_sitting 41 = .ok (.iload_n 2, 1) ∧ 41 + 1 = 42 := ⟨by decide +kernel, rfl⟩
set_option maxRecDepth 20000 in
theorem dX12_sitting_42 : decode cX12_sitting 42 = .ok (.iconst (-1), 1) ∧ 42 + 1 = 43 := ⟨by decide +kernel, rfl⟩
set_option maxRecDepth 20000 in
theorem dX12_sitting_43 : decode cX12_sitting 43 = .ok (.iastore, 1) ∧ 43 + 1 = 44 := ⟨by decide +kernel, rfl⟩
set_option maxRecDepth 20000 in
theorem dX12_sitting_44 : decode cX12_sitting 44 = .ok (.aload_n 0, 1) ∧ 44 + 1 = 45 := ⟨by decide +kernel, rfl⟩
set_option maxRecDepth 20000 in
theorem dX12_sitting_45 : decode cX12_sitting 45 = .ok (.getfield 118, 3) ∧ 45 + 3 = 48 := ⟨by decide +kernel, rfl⟩
set_option maxRecDepth 20000 in
theorem dX12_sitting_48 : decode cX12_sitting 48 = .ok (.iload_n 2, 1) ∧ 48 + 1 = 49 := ⟨by decide +kernel, rfl⟩
set_option maxRecDepth 20000 in
theorem dX12_sitting_49 : decode cX12_sitting 49 = .ok (.iconst (-1), 1) ∧ 49 + 1 = 50 := ⟨by decide +kernel, rfl⟩
set_option maxRecDepth 20000 in
theorem dX12_sitting_50 : decode cX12_sitting 50 = .ok (.iastore, 1) ∧ 50 + 1 = 51 := ⟨by decide +kernel, rfl⟩
set_option maxRecDepth 20000 in
theorem dX12_sitting_51 : decode cX12_sitting 51 = .ok (.iinc 2 1, 3) ∧ 51 + 3 = 54 := ⟨by decide +kernel, rfl⟩
set_option maxRecDepth 20000 in
theorem dX12_sitting_54 : decode cX12_sitting 54 = .ok (.goto (-23), 3) ∧ ((54 : Nat) : Int) + (-23) = ((31 : Nat) : Int) := ⟨by decide +kernel, by decide⟩
set_option maxRecDepth 20000 in
theorem dX12_sitting_57 : decode cX12_sitting 57 = .ok (.iconst 2, 1) ∧ 57 + 1 = 58 := ⟨by decide +kernel, rfl⟩
set_option maxRecDepth 20000 in
theorem dX12_sitting_58 : decode cX12_sitting 58 = .ok (.istore_n 2, 1) ∧ 58 + 1 = 59 := ⟨by decide +kernel, rfl⟩
set_option maxRecDepth 20000 in
theorem dX12_sitting_59 : decode cX12_sitting 59 = .ok (.iconst 0, 1) ∧ 59 + 1 = 60 := ⟨by decide +kernel, rfl⟩
set_option maxRecDepth 20000 in
theorem dX12_sitting_60 : decode cX12_sitting 60 = .ok (.istore_n 3, 1) ∧ 60 + 1 = 61 := ⟨by decide +kernel, rfl⟩
set_option maxRecDepth 20000 in
theorem dX12_sitting_61 : decode cX12_sitting 61 = .ok (.iload_n 3, 1) ∧ 61 + 1 = 62 := ⟨by decide +kernel, rfl⟩
set_option maxRecDepth 20000 in
theorem dX12_sitting_62 : decode cX12_sitting 62 = .ok (.bipush 60, 2) ∧ 62 + 2 = 64 := ⟨by decide +kernel, rfl⟩
set_option maxRecDepth 20000 in
theorem dX12_sitting_64 : decode cX12_sitting 64 = .ok (.if_icmp .ge 25, 3) ∧ 64 + 3 = 67 ∧ ((64 : Nat) : Int) + (25) = ((89 : Nat) : Int) := ⟨by decide +kernel, rfl, by decide⟩
set_option maxRecDepth 20000 in
theorem dX12_sitting_67 : decode cX12_sitting 67 = .ok (.iload_n 2, 1) ∧ 67 + 1 = 68 := ⟨by decide +kernel, rfl⟩
set_option maxRecDepth 20000 in
theorem dX12_sitting_68 : decode cX12_sitting 68 = .ok (.iconst 2, 1) ∧ 68 + 1 = 69 := ⟨by decide +kernel, rfl⟩
set_option maxRecDepth 20000 in
theorem dX12_sitting_69 : decode cX12_sitting 69 = .ok (.if_icmp .ne 20, 3) ∧ 69 + 3 = 72 ∧ ((69 : Nat) : Int) + (20) = ((89 : Nat) : Int) := ⟨by decide +kernel, rfl, by decide⟩
set_option maxRecDepth 20000 in
theorem dX12_sitting_72 : decode cX12_sitting 72 = .ok (.aload_n 0, 1) ∧ 72 + 1 = 73 := ⟨by decide +kernel, rfl⟩
set_option maxRecDepth 20000 in
theorem dX12_sitting_73 : decode cX12_sitting 73 = .ok (.iload_n 3, 1) ∧ 73 + 1 = 74 := ⟨by decide +kernel, rfl⟩
set_option maxRecDepth 20000 in
theorem dX12_sitting_74 : decode cX12_sitting 74 = .ok (.putfield 121, 3) ∧ 74 + 3 = 77 := ⟨by decide +kernel, rfl⟩
set_option maxRecDepth 20000 in
theorem dX12_sitting_77 : decode cX12_sitting 77 = .ok (.aload_n 0, 1) ∧ 77 + 1 = 78 := ⟨by decide +kernel, rfl⟩
set_option maxRecDepth 20000 in
theorem dX12_sitting_78 : decode cX12_sitting 78 = .ok (.iload_n 3, 1) ∧ 78 + 1 = 79 := ⟨by decide +kernel, rfl⟩
set_option maxRecDepth 20000 in
theorem dX12_sitting_79 : decode cX12_sitting 79 = .ok (.invokevirtual 495, 3) ∧ 79 + 3 = 82 := ⟨by decide +kernel, rfl⟩
set_option maxRecDepth 20000 in
theorem dX12_sitting_82 : decode cX12_sitting 82 = .ok (.istore_n 2, 1) ∧ 82 + 1 = 83 := ⟨by decide +kernel, rfl⟩
set_option maxRecDepth 20000 in
theorem dX12_sitting_83 : decode cX12_sitting 83 = .ok (.iinc 3 1, 3) ∧ 83 + 3 = 86 := ⟨by decide +kernel, rfl⟩
set_option maxRecDepth 20000 in
theorem dX12_sitting_86 : decode cX12_sitting 86 = .ok (.goto (-25), 3) ∧ ((86 : Nat) : Int) + (-25) = ((61 : Nat) : Int) := ⟨by decide +kernel, by decide⟩
set_option maxRecDepth 20000 in
theorem dX12_sitting_89 : decode cX12_sitting 89 = .ok (.aload_n 0, 1) ∧ 89 + 1 = 90 := ⟨by decide +kernel, rfl⟩
set_option maxRecDepth 20000 in
theorem dX12_sitting_90 : decode cX12_sitting 90 = .ok (.iload_n 2, 1) ∧ 90 + 1 = 91 := ⟨by decide +kernel, rfl⟩
set_option maxRecDepth 20000 in
theorem dX12_sitting_91 : decode cX12_sitting 91 = .ok (.invokevirtual 138, 3) ∧ 91 + 3 = 94 := ⟨by decide +kernel, rfl⟩
set_option maxRecDepth 20000 in
theorem dX12_sitting_94 : decode cX12_sitting 94 = .ok (.ireturn, 1) := by decide +kernel
set_option maxRecDepth 20000 in
theorem dX12_minute_0 : decode cX12_minute 0 = .ok (.aload_n 0, 1) ∧ 0 + 1 = 1 := ⟨by decide +kernel, rfl⟩
set_option maxRecDepth 20000 in
theorem dX12_minute_1 : decode cX12_minute 1 = .ok (.getfield 13, 3) ∧ 1 + 3 = 4 := ⟨by decide +kernel, rfl⟩
set_option maxRecDepth 20000 in
theorem dX12_minute_4 : decode cX12_minute 4 = .ok (.bipush 6, 2) ∧ 4 + 2 = 6 := ⟨by decide +kernel, rfl⟩
set_option maxRecDepth 20000 in
theorem dX12_minute_6 : decode cX12_minute 6 = .ok (.iaload, 1) ∧ 6 + 1 = 7 := ⟨by decide +kernel, rfl⟩
set_option maxRecDepth 20000 in
theorem dX12_minute_7 : decode cX12_minute 7 = .ok (.istore_n 2, 1) ∧ 7 + 1 = 8 := ⟨by decide +kernel, rfl⟩
set_option maxRecDepth 20000 in
theorem dX12_minute_8 : decode cX12_minute 8 = .ok (.iconst 0, 1) ∧ 8 + 1 = 9 := ⟨by decide +kernel, rfl⟩
set_option maxRecDepth 20000 in
theorem dX12_minute_9 : decode cX12_minute 9 = .ok (.istore_n 3, 1) ∧ 9 + 1 = 10 := ⟨by decide +kernel, rfl⟩
set_option maxRecDepth 20000 in
theorem dX12_minute_10 : decode cX12_minute 10 = .ok (.iconst 0, 1) ∧ 10 + 1 = 11 := ⟨by decide +kernel, rfl⟩
set_option maxRecDepth 20000 in
theorem dX12_minute_11 : decode cX12_minute 11 = .ok (.istore 4, 2) ∧ 11 + 2 = 13 := ⟨by decide +kernel, rfl⟩
set_option maxRecDepth 20000 in
theorem dX12_minute_13 : decode cX12_minute 13 = .ok (.iconst 0, 1) ∧ 13 + 1 = 14 := ⟨by decide +kernel, rfl⟩
set_option maxRecDepth 20000 in
theorem dX12_minute_14 : decode cX12_minute 14 = .ok (.istore 5, 2) ∧ 14 + 2 = 16 := ⟨by decide +kernel, rfl⟩
set_option maxRecDepth 20000 in
theorem dX12_minute_16 : decode cX12_minute 16 = .ok (.iload 5, 2) ∧ 16 + 2 = 18 := ⟨by decide +kernel, rfl⟩
set_option maxRecDepth 20000 in
theorem dX12_minute_18 : decode cX12_minute 18 = .ok (.bipush 8, 2) ∧ 18 + 2 = 20 := ⟨by decide +kernel, rfl⟩
set_option maxRecDepth 20000 in
theorem dX12_minute_20 : decode cX12_minute 20 = .ok (.if_icmp .ge 142, 3) ∧ 20 + 3 = 23 ∧ ((20 : Nat) : Int) + (142) = ((162 : Nat) : Int) := ⟨by decide +kernel, rfl, by decide⟩
set_option maxRecDepth 20000 in
theorem dX12_minute_23 : decode cX12_minute 23 = .ok (.aload_n 0, 1) ∧ 23 + 1 = 24 := ⟨by decide +kernel, rfl⟩
set_option maxRecDepth 20000 in
theorem dX12_minute_24 : decode cX12_minute 24 = .ok (.getfield 13, 3) ∧ 24 + 3 = 27 := ⟨by decide +kernel, rfl⟩
set_option maxRecDepth 20000 in
theorem dX12_minute_27 : decode cX12_minute 27 = .ok (.iconst 4, 1) ∧ 27 + 1 = 28 := ⟨by decide +kernel, rfl⟩
set_option maxRecDepth 20000 in
theorem dX12_minute_28 : decode cX12_minute 28 = .ok (.iaload, 1) ∧ 28 + 1 = 29 := ⟨by decide +kernel, rfl⟩
set_option maxRecDepth 20000 in
theorem dX12_minute_29 : decode cX12_minute 29 = .ok (.iload 5, 2) ∧ 29 + 2 = 31 := ⟨by decide +kernel, rfl⟩
set_option maxRecDepth 20000 in
theorem dX12_minute_31 : decode cX12_minute 31 = .ok (.invokestatic 364, 3) ∧ 31 + 3 = 34 := ⟨by decide +kernel, rfl⟩
set_option maxRecDepth 20000 in
theorem dX12_minute_34 : decode cX12_minute 34 = .ok (.ifCond .eq 122, 3) ∧ 34 + 3 = 37 ∧ ((34 : Nat) : Int) + (122) = ((156 : Nat) : Int) := ⟨by decide +kernel, rfl, by decide⟩
set_option maxRecDepth 20000 in
theorem dX12_minute_37 : decode cX12_minute 37 = .ok (.aload_n 0, 1) ∧ 37 + 1 = 38 := ⟨by decide +kernel, rfl⟩
set_option maxRecDepth 20000 in
theorem dX12_minute_38 : decode cX12_minute 38 = .ok (.iload 5, 2) ∧ 38 + 2 = 40 := ⟨by decide +kernel, rfl⟩
set_option maxRecDepth 20000 in
theorem dX12_minute_40 : decode cX12_minute 40 = .ok (.iconst 5, 1) ∧ 40 + 1 = 41 := ⟨by decide +kernel, rfl⟩
set_option maxRecDepth 20000 in
theorem dX12_minute_41 : decode cX12_minute 41 = .ok (.invokevirtual 163, 3) ∧ 41 + 3 = 44 := ⟨by decide +kernel, rfl⟩
set_option maxRecDepth 20000 in
theorem dX12_minute_44 : decode cX12_minute 44 = .ok (.istore 6, 2) ∧ 44 + 2 = 46 := ⟨by decide +kernel, rfl⟩
set_option maxRecDepth 20000 in
theorem dX12_minute_46 : decode cX12_minute 46 = .ok (.aload_n 0, 1) ∧ 46 + 1 = 47 := ⟨by decide +kernel, rfl⟩
set_option maxRecDepth 20000 in
theorem dX12_minute_47 : decode cX12_minute 47 = .ok (.getfield 115, 3) ∧ 47 + 3 = 50 := ⟨by decide +kernel, rfl⟩
set_option maxRecDepth 20000 in
theorem dX12_minute_50 : decode cX12_minute 50 = .ok (.iload 5, 2) ∧ 50 + 2 = 52 := ⟨by decide +kernel, rfl⟩
set_option maxRecDepth 20000 in
theorem dX12_minute_52 : decode cX12_minute 52 = .ok (.iaload, 1) ∧ 52 + 1 = 53 := ⟨by decide +kernel, rfl⟩
set_option maxRecDepth 20000 in
theorem dX12_minute_53 : decode cX12_minute 53 = .ok (.iconst (-1), 1) ∧ 53 + 1 = 54 := ⟨by decide +kernel, rfl⟩
set_option maxRecDepth 20000 in
theorem dX12_minute_54 : decode cX12_minute 54 = .ok (.if_icmp .ne 63, 3) ∧ 54 + 3 = 57 ∧ ((54 : Nat) : Int) + (63) = ((117 : Nat) : Int) := ⟨by decide +kernel, rfl, by decide⟩
set_option maxRecDepth 20000 in
theorem dX12_minute_57 : decode cX12_minute 57 = .ok (.aload_n 0, 1) ∧ 57 + 1 = 58 := ⟨by decide +kernel, rfl⟩
set_option maxRecDepth 20000 in
theorem dX12_minute_58 : decode cX12_minute 58 = .ok (.invokevirtual 498, 3) ∧ 58 + 3 = 61 := ⟨by decide +kernel, rfl⟩
set_option maxRecDepth 20000 in
theorem dX12_minute_61 : decode cX12_minute 61 = .ok (.aload_n 0, 1) ∧ 61 + 1 = 62 := ⟨by decide +kernel, rfl⟩
set_option maxRecDepth 20000 in
theorem dX12_minute_62 : decode cX12_minute 62 = .ok (.iconst 1, 1) ∧ 62 + 1 = 63 := ⟨by decide +kernel, rfl⟩
set_option maxRecDepth 20000 in
theorem dX12_minute_63 : decode cX12_minute 63 = .ok (.iload 5, 2) ∧ 63 + 2 = 65 := ⟨by decide +kernel, rfl⟩
set_option maxRecDepth 20000 in
theorem dX12_minute_65 : decode cX12_minute 65 = .ok (.iload_n 2, 1) ∧ 65 + 1 = 66 := ⟨by decide +kernel, rfl⟩
set_option maxRecDepth 20000 in
theorem dX12_minute_66 : decode cX12_minute 66 = .ok (.iload 6, 2) ∧ 66 + 2 = 68 := ⟨by decide +kernel, rfl⟩
set_option maxRecDepth 20000 in
theorem dX12_minute_68 : decode cX12_minute 68 = .ok (.iconst (-1), 1) ∧ 68 + 1 = 69 := ⟨by decide +kernel, rfl⟩
set_option maxRecDepth 20000 in
theorem dX12_minute_69 : decode cX12_minute 69 = .ok (.iload_n 1, 1) ∧ 69 + 1 = 70 := ⟨by decide +kernel, rfl⟩
set_option maxRecDepth 20000 in
theorem dX12_minute_70 : decode cX12_minute 70 = .ok (.bipush 10, 2) ∧ 70 + 2 = 72 := ⟨by decide +kernel, rfl⟩
set_option maxRecDepth 20000 in
theorem dX12_minute_72 : decode cX12_minute 72 = .ok (.bipush 100, 2) ∧ 72 + 2 = 74 := ⟨by decide +kernel, rfl⟩
set_option maxRecDepth 20000 in
theorem dX12_minute_74 : decode cX12_minute 74 = .ok (.invokevirtual 350, 3) ∧ 74 + 3 = 77 := ⟨by decide +kernel, rfl⟩
set_option maxRecDepth 20000 in
theorem dX12_minute_77 : decode cX12_minute 77 = .ok (.if_icmp .ge 40, 3) ∧ 77 + 3 = 80 ∧ ((77 : Nat) : Int) + (40) = ((117 : Nat) : Int) := ⟨by decide +kernel, rfl, by decide⟩
set_option maxRecDepth 20000 in
theorem dX12_minute_80 : decode cX12_minute 80 = .ok (.aload_n 0, 1) ∧ 80 + 1 = 81 := ⟨by decide +kernel, rfl⟩
set_option maxRecDepth 20000 in
theorem dX12_minute_81 : decode cX12_minute 81 = .ok (.getfield 115, 3) ∧ 81 + 3 = 84 := ⟨by decide +kernel, rfl⟩
set_option maxRecDepth 20000 in
theorem dX12_minute_84 : decode cX12_minute 84 = .ok (.iload 5, 2) ∧ 84 + 2 = 86 := ⟨by decide +kernel, rfl⟩
set_option maxRecDepth 20000 in
theorem dX12_minute_86 : decode cX12_minute 86 = .ok (.aload_n 0, 1) ∧ 86 + 1 = 87 := ⟨by decide +kernel, rfl⟩
set_option maxRecDepth 20000 in
theorem dX12_minute_87 : decode cX12_minute 87 = .ok (.invokevirtual 498, 3) ∧ 87 + 3 = 90 := ⟨by decide +kernel, rfl⟩
set_option maxRecDepth 20000 in
theorem dX12_minute_90 : decode cX12_minute 90 = .ok (.aload_n 0, 1) ∧ 90 + 1 = 91 := ⟨by decide +kernel, rfl⟩
set_option maxRecDepth 20000 in
theorem dX12_minute_91 : decode cX12_minute 91 = .ok (.iload 5, 2) ∧ 91 + 2 = 93 := ⟨by decide +kernel, rfl⟩
set_option maxRecDepth 20000 in
theorem dX12_minute_93 : decode cX12_minute 93 = .ok (.iload_n 2, 1) ∧ 93 + 1 = 94 := ⟨by decide +kernel, rfl⟩
set_option maxRecDepth 20000 in
theorem dX12_minute_94 : decode cX12_minute 94 = .ok (.iload 6, 2) ∧ 94 + 2 = 96 := ⟨by decide +kernel, rfl⟩
set_option maxRecDepth 20000 in
theorem dX12_minute_96 : decode cX12_minute 96 = .ok (.iload_n 1, 1) ∧ 96 + 1 = 97 := ⟨by decide +kernel, rfl⟩
set_option maxRecDepth 20000 in
theorem dX12_minute_97 : decode cX12_minute 97 = .ok (.invokevirtual 354, 3) ∧ 97 + 3 = 100 := ⟨by decide +kernel, rfl⟩
set_option maxRecDepth 20000 in
theorem dX12_minute_100 : decode cX12_minute 100 = .ok (.if_icmp .ge 7, 3) ∧ 100 + 3 = 103 ∧ ((100 : Nat) : Int) + (7) = ((107 : Nat) : Int) := ⟨by decide +kernel, rfl, by decide⟩
set_option maxRecDepth 20000 in
theorem dX12_minute_103 : decode cX12_minute 103 = .ok (.iconst 0, 1) ∧ 103 + 1 = 104 := ⟨by decide +kernel, rfl⟩
set_option maxRecDepth 20000 in
theorem dX12_minute_104 : decode cX12_minute 104 = .ok (.goto 4, 3) ∧ ((104 : Nat) : Int) + (4) = ((108 : Nat) : Int) := ⟨by decide +kernel, by decide⟩
set_option maxRecDepth 20000 in
theorem dX12_minute_107 : decode cX12_minute 107 = .ok (.iconst 1, 1) ∧ 107 + 1 = 108 := ⟨by decide +kernel, rfl⟩
set_option maxRecDepth 20000 in
theorem dX12_minute_108 : decode cX12_minute 108 = .ok (.iastore, 1) ∧ 108 + 1 = 109 := ⟨by decide +kernel, rfl⟩
set_option maxRecDepth 20000 in
theorem dX12_minute_109 : decode cX12_minute 109 = .ok (.aload_n 0, 1) ∧ 109 + 1 = 110 := ⟨by decide +kernel, rfl⟩
set_option maxRecDepth 20000 in
theorem dX12_minute_110 : decode cX12_minute 110 = .ok (.getfield 118, 3) ∧ 110 + 3 = 113 := ⟨by decide +kernel, rfl⟩
set_option maxRecDepth 20000 in
theorem dX12_minute_113 : decode cX12_minute 113 = .ok (.iload 5, 2) ∧ 113 + 2 = 115 := ⟨by decide +kernel, rfl⟩
set_option maxRecDepth 20000 in
theorem dX12_minute_115 : decode cX12_minute 115 = .ok (.iload_n 1, 1) ∧ 115 + 1 = 116 := ⟨by decide +kernel, rfl⟩
set_option maxRecDepth 20000 in
theorem dX12_minute_116 : decode cX12_minute 116 = .ok (.iastore, 1) ∧ 116 + 1 = 117 := ⟨by decide +kernel, rfl⟩
set_option maxRecDepth 20000 in
theorem dX12_minute_117 : decode cX12_minute 117 = .ok (.iload_n 3, 1) ∧ 117 + 1 = 118 := ⟨by decide +kernel, rfl⟩
set_option maxRecDepth 20000 in
theorem dX12_minute_118 : decode cX12_minute 118 = .ok (.aload_n 0, 1) ∧ 118 + 1 = 119 := ⟨by decide +kernel, rfl⟩
set_option maxRecDepth 20000 in
theorem dX12_minute_119 : decode cX12_minute 119 = .ok (.getfield 115, 3) ∧ 119 + 3 = 122 := ⟨by decide +kernel, rfl⟩
set_option maxRecDepth 20000 in
theorem dX12_minute_122 : decode cX12_minute 122 = .ok (.iload 5, 2) ∧ 122 + 2 = 124 := ⟨by decide +kernel, rfl⟩
set_option maxRecDepth 20000 in
theorem dX12_minute_124 : decode cX12_minute 124 = .ok (.iaload, 1) ∧ 124 + 1 = 125 := ⟨by decide +kernel, rfl⟩
set_option maxRecDepth 20000 in
theorem dX12_minute_125 : decode cX12_minute 125 = .ok (.ifCond .ne 7, 3) ∧ 125 + 3 = 128 ∧ ((125 : Nat) : Int) + (7) = ((132 : Nat) : Int) := ⟨by decide +kernel, rfl, by decide⟩
set_option maxRecDepth 20000 in
theorem dX12_minute_128 : decode cX12_minute 128 = .ok (.iconst 1, 1) ∧ 128 + 1 = 129 := ⟨by decide +kernel, rfl⟩
set_option maxRecDepth 20000 in
theorem dX12_minute_129 : decode cX12_minute 129 = .ok (.goto 4, 3) ∧ ((129 : Nat) : Int) + (4) = ((133 : Nat) : Int) := ⟨by decide +kernel, by decide⟩
set_option maxRecDepth 20000 in
theorem dX12_minute_132 : decode cX12_minute 132 = .ok (.iconst 0, 1) ∧ 132 + 1 = 133 := ⟨by decide +kernel, rfl⟩
set_option maxRecDepth 20000 in
theorem dX12_minute_133 : decode cX12_minute 133 = .ok (.iadd, 1) ∧ 133 + 1 = 134 := ⟨by decide +kernel, rfl⟩
set_option maxRecDepth 20000 in
theorem dX12_minute_134 : decode cX12_minute 134 = .ok (.istore_n 3, 1) ∧ 134 + 1 = 135 := ⟨by decide +kernel, rfl⟩
set_option maxRecDepth 20000 in
theorem dX12_minute_135 : decode cX12_minute 135 = .ok (.iload 4, 2) ∧ 135 + 2 = 137 := ⟨by decide +kernel, rfl⟩
set_option maxRecDepth 20000 in
theorem dX12_minute_137 : decode cX12_minute 137 = .ok (.aload_n 0, 1) ∧ 137 + 1 = 138 := ⟨by decide +kernel, rfl⟩
set_option maxRecDepth 20000 in
theorem dX12_minute_138 : decode cX12_minute 138 = .ok (.getfield 115, 3) ∧ 138 + 3 = 141 := ⟨by decide +kernel, rfl⟩
set_option maxRecDepth 20000 in
theorem dX12_minute_141 : decode cX12_minute 141 = .ok (.iload 5, 2) ∧ 141 + 2 = 143 := ⟨by decide +kernel, rfl⟩
set_option maxRecDepth 20000 in
theorem dX12_minute_143 : decode cX12_minute 143 = .ok (.iaload, 1) ∧ 143 + 1 = 144 := ⟨by decide +kernel, rfl⟩
set_option maxRecDepth 20000 in
theorem dX12_minute_144 : decode cX12_minute 144 = .ok (.iconst 1, 1) ∧ 144 + 1 = 145 := ⟨by decide +kernel, rfl⟩
set_option maxRecDepth 20000 in
theorem dX12_minute_145 : decode cX12_minute 145 = .ok (.if_icmp .ne 7, 3) ∧ 145 + 3 = 148 ∧ ((145 : Nat) : Int) + (7) = ((152 : Nat) : Int) := ⟨by decide +kernel, rfl, by decide⟩
set_option maxRecDepth 20000 in
theorem dX12_minute_148 : decode cX12_minute 148 = .ok (.iconst 1, 1) ∧ 148 + 1 = 149 := ⟨by decide +kernel, rfl⟩
set_option maxRecDepth 20000 in
theorem dX12_minute_149 : decode cX12_minute 149 = .ok (.goto 4, 3) ∧ ((149 : Nat) : Int) + (4) = ((153 : Nat) : Int) := ⟨by decide +kernel, by decide⟩
set_option maxRecDepth 20000 in
theorem dX12_minute_152 : decode cX12_minute 152 = .ok (.iconst 0, 1) ∧ 152 + 1 = 153 := ⟨by decide +kernel, rfl⟩
set_option maxRecDepth 20000 in
theorem dX12_minute_153 : decode cX12_minute 153 = .ok (.iadd, 1) ∧ 153 + 1 = 154 := ⟨by decide +kernel, rfl⟩
set_option maxRecDepth 20000 in
theorem dX12_minute_154 : decode cX12_minute 154 = .ok (.istore 4, 2) ∧ 154 + 2 = 156 := ⟨by decide +kernel, rfl⟩
set_option maxRecDepth 20000 in
theorem dX12_minute_156 : decode cX12_minute 156 = .ok (.iinc 5 1, 3) ∧ 156 + 3 = 159 := ⟨by decide +kernel, rfl⟩
set_option maxRecDepth 20000 in
theorem dX12_minute_159 : decode cX12_minute 159 = .ok (.goto (-143), 3) ∧ ((159 : Nat) : Int) + (-143) = ((16 : Nat) : Int) := ⟨by decide +kernel, by decide⟩
set_option maxRecDepth 20000 in
theorem dX12_minute_162 : decode cX12_minute 162 = .ok (.iload_n 3, 1) ∧ 162 + 1 = 163 := ⟨by decide +kernel, rfl⟩
set_option maxRecDepth 20000 in
theorem dX12_minute_163 : decode cX12_minute 163 = .ok (.aload_n 0, 1) ∧ 163 + 1 = 164 := ⟨by decide +kernel, rfl⟩
set_option maxRecDepth 20000 in
theorem dX12_minute_164 : decode cX12_minute 164 = .ok (.invokevirtual 377, 3) ∧ 164 + 3 = 167 := ⟨by decide +kernel, rfl⟩
set_option maxRecDepth 20000 in
theorem dX12_minute_167 : decode cX12_minute 167 = .ok (.if_icmp .lt 7, 3) ∧ 167 + 3 = 170 ∧ ((167 : Nat) : Int) + (7) = ((174 : Nat) : Int) := ⟨by decide +kernel, rfl, by decide⟩
set_option maxRecDepth 20000 in
theorem dX12_minute_170 : decode cX12_minute 170 = .ok (.iconst 0, 1) ∧ 170 + 1 = 171 := ⟨by decide +kernel, rfl⟩
set_option maxRecDepth 20000 in
theorem dX12_minute_171 : decode cX12_minute 171 = .ok (.goto 27, 3) ∧ ((171 : Nat) : Int) + (27) = ((198 : Nat) : Int) := ⟨by decide +kernel, by decide⟩
set_option maxRecDepth 20000 in
theorem dX12_minute_174 : decode cX12_minute 174 = .ok (.iload 4, 2) ∧ 174 + 2 = 176 := ⟨by decide +kernel, rfl⟩
set_option maxRecDepth 20000 in
theorem dX12_minute_176 : decode cX12_minute 176 = .ok (.aload_n 0, 1) ∧ 176 + 1 = 177 := ⟨by decide +kernel, rfl⟩
set_option maxRecDepth 20000 in
theorem dX12_minute_177 : decode cX12_minute 177 = .ok (.getfield 13, 3) ∧ 177 + 3 = 180 := ⟨by decide +kernel, rfl⟩
set_option maxRecDepth 20000 in
theorem dX12_minute_180 : decode cX12_minute 180 = .ok (.iconst 4, 1) ∧ 180 + 1 = 181 := ⟨by decide +kernel, rfl⟩
set_option maxRecDepth 20000 in
theorem dX12_minute_181 : decode cX12_minute 181 = .ok (.iaload, 1) ∧ 181 + 1 = 182 := ⟨by decide +kernel, rfl⟩
set_option maxRecDepth 20000 in
theorem dX12_minute_182 : decode cX12_minute 182 = .ok (.invokestatic 435, 3) ∧ 182 + 3 = 185 := ⟨by decide +kernel, rfl⟩
set_option maxRecDepth 20000 in
theorem dX12_minute_185 : decode cX12_minute 185 = .ok (.aload_n 0, 1) ∧ 185 + 1 = 186 := ⟨by decide +kernel, rfl⟩
set_option maxRecDepth 20000 in
theorem dX12_minute_186 : decode cX12_minute 186 = .ok (.invokevirtual 377, 3) ∧ 186 + 3 = 189 := ⟨by decide +kernel, rfl⟩
set_option maxRecDepth 20000 in
theorem dX12_minute_189 : decode cX12_minute 189 = .ok (.isub, 1) ∧ 189 + 1 = 190 := ⟨by decide +kernel, rfl⟩
set_option maxRecDepth 20000 in
theorem dX12_minute_190 : decode cX12_minute 190 = .ok (.if_icmp .le 7, 3) ∧ 190 + 3 = 193 ∧ ((190 : Nat) : Int) + (7) = ((197 : Nat) : Int) := ⟨by decide +kernel, rfl, by decide⟩
set_option maxRecDepth 20000 in
theorem dX12_minute_193 : decode cX12_minute 193 = .ok (.iconst 1, 1) ∧ 193 + 1 = 194 := ⟨by decide +kernel, rfl⟩
set_option maxRecDepth 20000 in
theorem dX12_minute_194 : decode cX12_minute 194 = .ok (.goto 4, 3) ∧ ((194 : Nat) : Int) + (4) = ((198 : Nat) : Int) := ⟨by decide +kernel, by decide⟩
set_option maxRecDepth 20000 in
theorem dX12_minute_197 : decode cX12_minute 197 = .ok (.iconst 2, 1) ∧ 197 + 1 = 198 := ⟨by decide +kernel, rfl⟩
set_option maxRecDepth 20000 in
theorem dX12_minute_198 : decode cX12_minute 198 = .ok (.ireturn, 1) := by decide +kernel
set_option maxRecDepth 20000 in
theorem dX12_lay_0 : decode cX12_lay 0 = .ok (.aload_n 0, 1) ∧ 0 + 1 = 1 := ⟨by decide +kernel, rfl⟩
set_option maxRecDepth 20000 in
theorem dX12_lay_1 : decode cX12_lay 1 = .ok (.iconst 0, 1) ∧ 1 + 1 = 2 := ⟨by decide +kernel, rfl⟩
set_option maxRecDepth 20000 in
theorem dX12_lay_2 : decode cX12_lay 2 = .ok (.putfield 124, 3) ∧ 2 + 3 = 5 := ⟨by decide +kernel, rfl⟩
set_option maxRecDepth 20000 in
theorem dX12_lay_5 : decode cX12_lay 5 = .ok (.iload_n 2, 1) ∧ 5 + 1 = 6 := ⟨by decide +kernel, rfl⟩
set_option maxRecDepth 20000 in
theorem dX12_lay_6 : decode cX12_lay 6 = .ok (.i2l, 1) ∧ 6 + 1 = 7 := ⟨by decide +kernel, rfl⟩
set_option maxRecDepth 20000 in
theorem dX12_lay_7 : decode cX12_lay 7 = .ok (.lconst 0, 1) ∧ 7 + 1 = 8 := ⟨by decide +kernel, rfl⟩
set_option maxRecDepth 20000 in
theorem dX12_lay_8 : decode cX12_lay 8 = .ok (.lconst 1, 1) ∧ 8 + 1 = 9 := ⟨by decide +kernel, rfl⟩
set_option maxRecDepth 20000 in
theorem dX12_lay_9 : decode cX12_lay 9 = .ok (.invokestatic 134, 3) ∧ 9 + 3 = 12 := ⟨by decide +kernel, rfl⟩
set_option maxRecDepth 20000 in
theorem dX12_lay_12 : decode cX12_lay 12 = .ok (.ifCond .eq 11, 3) ∧ 12 + 3 = 15 ∧ ((12 : Nat) : Int) + (11) = ((23 : Nat) : Int) := ⟨by decide +kernel, rfl, by decide⟩
set_option maxRecDepth 20000 in
theorem dX12_lay_15 : decode cX12_lay 15 = .ok (.aload_n 0, 1) ∧ 15 + 1 = 16 := ⟨by decide +kernel, rfl⟩
set_option maxRecDepth 20000 in
theorem dX12_lay_16 : decode cX12_lay 16 = .ok (.getfield 121, 3) ∧ 16 + 3 = 19 := ⟨by decide +kernel, rfl⟩
set_option maxRecDepth 20000 in
theorem dX12_lay_19 : decode cX12_lay 19 = .ok (.iconst (-1), 1) ∧ 19 + 1 = 20 := ⟨by decide +kernel, rfl⟩
set_option maxRecDepth 20000 in
theorem dX12_lay_20 : decode cX12_lay 20 = .ok (.if_icmp .ne 5, 3) ∧ 20 + 3 = 23 ∧ ((20 : Nat) : Int) + (5) = ((25 : Nat) : Int) := ⟨by decide +kernel, rfl, by decide⟩
set_option maxRecDepth 20000 in
theorem dX12_lay_23 : decode cX12_lay 23 = .ok (.iconst (-1), 1) ∧ 23 + 1 = 24 := ⟨by decide +kernel, rfl⟩
set_option maxRecDepth 20000 in
theorem dX12_lay_24 : decode cX12_lay 24 = .ok (.ireturn, 1) := by decide +kernel
set_option maxRecDepth 20000 in
theorem dX12_lay_25 : decode cX12_lay 25 = .ok (.iload_n 1, 1) ∧ 25 + 1 = 26 := ⟨by decide +kernel, rfl⟩
set_option maxRecDepth 20000 in
theorem dX12_lay_26 : decode cX12_lay 26 = .ok (.iconst (-1), 1) ∧ 26 + 1 = 27 := ⟨by decide +kernel, rfl⟩
set_option maxRecDepth 20000 in
theorem dX12_lay_27 : decode cX12_lay 27 = .ok (.if_icmp .ne 8, 3) ∧ 27 + 3 = 30 ∧ ((27 : Nat) : Int) + (8) = ((35 : Nat) : Int) := ⟨by decide +kernel, rfl, by decide⟩
set_option maxRecDepth 20000 in
theorem dX12_lay_30 : decode cX12_lay 30 = .ok (.aload_n 0, 1) ∧ 30 + 1 = 31 := ⟨by decide +kernel, rfl⟩
set_option maxRecDepth 20000 in
theorem dX12_lay_31 : decode cX12_lay 31 = .ok (.getfield 121, 3) ∧ 31 + 3 = 34 := ⟨by decide +kernel, rfl⟩
set_option maxRecDepth 20000 in
theorem dX12_lay_34 : decode cX12_lay 34 = .ok (.ireturn, 1) := by decide +kernel
set_option maxRecDepth 20000 in
theorem dX12_lay_35 : decode cX12_lay 35 = .ok (.iload_n 1, 1) ∧ 35 + 1 = 36 := ⟨by decide +kernel, rfl⟩
set_option maxRecDepth 20000 in
theorem dX12_lay_36 : decode cX12_lay 36 = .ok (.i2l, 1) ∧ 36 + 1 = 37 := ⟨by decide +kernel, rfl⟩
set_option maxRecDepth 20000 in
theorem dX12_lay_37 : decode cX12_lay 37 = .ok (.lconst 0, 1) ∧ 37 + 1 = 38 := ⟨by decide +kernel, rfl⟩
set_option maxRecDepth 20000 in
theorem dX12_lay_38 : decode cX12_lay 38 = .ok (.ldc2_w 384, 3) ∧ 38 + 3 = 41 := ⟨by decide +kernel, rfl⟩
set_option maxRecDepth 20000 in
theorem dX12_lay_41 : decode cX12_lay 41 = .ok (.invokestatic 134, 3) ∧ 41 + 3 = 44 := ⟨by decide +kernel, rfl⟩
set_option maxRecDepth 20000 in
theorem dX12_lay_44 : decode cX12_lay 44 = .ok (.ifCond .ne 7, 3) ∧ 44 + 3 = 47 ∧ ((44 : Nat) : Int) + (7) = ((51 : Nat) : Int) := ⟨by decide +kernel, rfl, by decide⟩
set_option maxRecDepth 20000 in
theorem dX12_lay_47 : decode cX12_lay 47 = .ok (.iconst (-1), 1) ∧ 47 + 1 = 48 := ⟨by decide +kernel, rfl⟩
set_option maxRecDepth 20000 in
theorem dX12_lay_48 : decode cX12_lay 48 = .ok (.goto 22, 3) ∧ ((48 : Nat) : Int) + (22) = ((70 : Nat) : Int) := ⟨by decide +kernel, by decide⟩
set_option maxRecDepth 20000 in
theorem dX12_lay_51 : decode cX12_lay 51 = .ok (.iload_n 2, 1) ∧ 51 + 1 = 52 := ⟨by decide +kernel, rfl⟩
set_option maxRecDepth 20000 in
theorem dX12_lay_52 : decode cX12_lay 52 = .ok (.ifCond .ne 12, 3) ∧ 52 + 3 = 55 ∧ ((52 : Nat) : Int) + (12) = ((64 : Nat) : Int) := ⟨by decide +kernel, rfl, by decide⟩
set_option maxRecDepth 20000 in
theorem dX12_lay_55 : decode cX12_lay 55 = .ok (.aload_n 0, 1) ∧ 55 + 1 = 56 := ⟨by decide +kernel, rfl⟩
set_option maxRecDepth 20000 in
theorem dX12_lay_56 : decode cX12_lay 56 = .ok (.getfield 115, 3) ∧ 56 + 3 = 59 := ⟨by decide +kernel, rfl⟩
set_option maxRecDepth 20000 in
theorem dX12_lay_59 : decode cX12_lay 59 = .ok (.iload_n 1, 1) ∧ 59 + 1 = 60 := ⟨by decide +kernel, rfl⟩
set_option maxRecDepth 20000 in
theorem dX12_lay_60 : decode cX12_lay 60 = .ok (.iaload, 1) ∧ 60 + 1 = 61 := ⟨by decide +kernel, rfl⟩
set_option maxRecDepth 20000 in
theorem dX12_lay_61 : decode cX12_lay 61 = .ok (.goto 9, 3) ∧ ((61 : Nat) : Int) + (9) = ((70 : Nat) : Int) := ⟨by decide +kernel, by decide⟩
set_option maxRecDepth 20000 in
theorem dX12_lay_64 : decode cX12_lay 64 = .ok (.aload_n 0, 1) ∧ 64 + 1 = 65 := ⟨by decide +kernel, rfl⟩
set_option maxRecDepth 20000 in
theorem dX12_lay_65 : decode cX12_lay 65 = .ok (.getfield 118, 3) ∧ 65 + 3 = 68 := ⟨by decide +kernel, rfl⟩
set_option maxRecDepth 20000 in
theorem dX12_lay_68 : decode cX12_lay 68 = .ok (.iload_n 1, 1) ∧ 68 + 1 = 69 := ⟨by decide +kernel, rfl⟩
set_option maxRecDepth 20000 in
theorem dX12_lay_69 : decode cX12_lay 69 = .ok (.iaload, 1) ∧ 69 + 1 = 70 := ⟨by decide +kernel, rfl⟩
set_option maxRecDepth 20000 in
theorem dX12_lay_70 : decode cX12_lay 70 = .ok (.ireturn, 1) := by decide +kernel
set_option maxRecDepth 20000 in
theorem dX12_count_0 : decode cX12_count 0 = .ok (.aload_n 0, 1) ∧ 0 + 1 = 1 := ⟨by decide +kernel, rfl⟩
set_option maxRecDepth 20000 in
theorem dX12_count_1 : decode cX12_count 1 = .ok (.iconst 0, 1) ∧ 1 + 1 = 2 := ⟨by decide +kernel, rfl⟩
set_option maxRecDepth 20000 in
theorem dX12_count_2 : decode cX12_count 2 = .ok (.putfield 124, 3) ∧ 2 + 3 = 5 := ⟨by decide +kernel, rfl⟩
set_option maxRecDepth 20000 in
theorem dX12_count_5 : decode cX12_count 5 = .ok (.iload_n 1, 1) ∧ 5 + 1 = 6 := ⟨by decide +kernel, rfl⟩
set_option maxRecDepth 20000 in
theorem dX12_count_6 : decode cX12_count 6 = .ok (.tableswitch 149 0 11 #[62, 69, 76, 83, 91, 101, 106, 113, 120, 127, 134, 142], 62) := by decide +kernel
set_option maxRecDepth 20000 in
theorem dX12_count_68 : decode cX12_count 68 = .ok (.aload_n 0, 1) ∧ 68 + 1 = 69 := ⟨by decide +kernel, rfl⟩
set_option maxRecDepth 20000 in
theorem dX12_count_69 : decode cX12_count 69 = .ok (.getfield 13, 3) ∧ 69 + 3 = 72 := ⟨by decide +kernel, rfl⟩
set_option maxRecDepth 20000 in
theorem dX12_count_72 : decode cX12_count 72 = .ok (.iconst 0, 1) ∧ 72 + 1 = 73 := ⟨by decide +kernel, rfl⟩
set_option maxRecDepth 20000 in
theorem dX12_count_73 : decode cX12_count 73 = .ok (.iaload, 1) ∧ 73 + 1 = 74 := ⟨by decide +kernel, rfl⟩
set_option maxRecDepth 20000 in
theorem dX12_count_74 : decode cX12_count 74 = .ok (.ireturn, 1) := by decide +kernel
set_option maxRecDepth 20000 in
theorem dX12_count_75 : decode cX12_count 75 = .ok (.aload_n 0, 1) ∧ 75 + 1 = 76 := ⟨by decide +kernel, rfl⟩
set_option maxRecDepth 20000 in
theorem dX12_count_76 : decode cX12_count 76 = .ok (.getfield 13, 3) ∧ 76 + 3 = 79 := ⟨by decide +kernel, rfl⟩
set_option maxRecDepth 20000 in
theorem dX12_count_79 : decode cX12_count 79 = .ok (.iconst 1, 1) ∧ 79 + 1 = 80 := ⟨by decide +kernel, rfl⟩
set_option maxRecDepth 20000 in
theorem dX12_count_80 : decode cX12_count 80 = .ok (.iaload, 1) ∧ 80 + 1 = 81 := ⟨by decide +kernel, rfl⟩
set_option maxRecDepth 20000 in
theorem dX12_count_81 : decode cX12_count 81 = .ok (.ireturn, 1) := by decide +kernel
set_option maxRecDepth 20000 in
theorem dX12_count_82 : decode cX12_count 82 = .ok (.aload_n 0, 1) ∧ 82 + 1 = 83 := ⟨by decide +kernel, rfl⟩
set_option maxRecDepth 20000 in
theorem dX12_count_83 : decode cX12_count 83 = .ok (.getfield 13, 3) ∧ 83 + 3 = 86 := ⟨by decide +kernel, rfl⟩
set_option maxRecDepth 20000 in
theorem dX12_count_86 : decode cX12_count 86 = .ok (.iconst 2, 1) ∧ 86 + 1 = 87 := ⟨by decide +kernel, rfl⟩
set_option maxRecDepth 20000 in
theorem dX12_count_87 : decode cX12_count 87 = .ok (.iaload, 1) ∧ 87 + 1 = 88 := ⟨by decide +kernel, rfl⟩
set_option maxRecDepth 20000 in
theorem dX12_count_88 : decode cX12_count 88 = .ok (.ireturn, 1) := by decide +kernel
set_option maxRecDepth 20000 in
theorem dX12_count_89 : decode cX12_count 89 = .ok (.aload_n 0, 1) ∧ 89 + 1 = 90 := ⟨by decide +kernel, rfl⟩
set_option maxRecDepth 20000 in
theorem dX12_count_90 : decode cX12_count 90 = .ok (.getfield 13, 3) ∧ 90 + 3 = 93 := ⟨by decide +kernel, rfl⟩
set_option maxRecDepth 20000 in
theorem dX12_count_93 : decode cX12_count 93 = .ok (.bipush 11, 2) ∧ 93 + 2 = 95 := ⟨by decide +kernel, rfl⟩
set_option maxRecDepth 20000 in
theorem dX12_count_95 : decode cX12_count 95 = .ok (.iaload, 1) ∧ 95 + 1 = 96 := ⟨by decide +kernel, rfl⟩
set_option maxRecDepth 20000 in
theorem dX12_count_96 : decode cX12_count 96 = .ok (.ireturn, 1) := by decide +kernel
set_option maxRecDepth 20000 in
theorem dX12_count_97 : decode cX12_count 97 = .ok (.aload_n 0, 1) ∧ 97 + 1 = 98 := ⟨by decide +kernel, rfl⟩
set_option maxRecDepth 20000 in
theorem dX12_count_98 : decode cX12_count 98 = .ok (.getfield 13, 3) ∧ 98 + 3 = 101 := ⟨by decide +kernel, rfl⟩
set_option maxRecDepth 20000 in
theorem dX12_count_101 : decode cX12_count 101 = .ok (.iconst 4, 1) ∧ 101 + 1 = 102 := ⟨by decide +kernel, rfl⟩
set_option maxRecDepth 20000 in
theorem dX12_count_102 : decode cX12_count 102 = .ok (.iaload, 1) ∧ 102 + 1 = 103 := ⟨by decide +kernel, rfl⟩
set_option maxRecDepth 20000 in
theorem dX12_count_103 : decode cX12_count 103 = .ok (.invokestatic 435, 3) ∧ 103 + 3 = 106 := ⟨by decide +kernel, rfl⟩
set_option maxRecDepth 20000 in
theorem dX12_count_106 : decode cX12_count 106 = .ok (.ireturn, 1) := by decide +kernel
set_option maxRecDepth 20000 in
theorem dX12_count_107 : decode cX12_count 107 = .ok (.aload_n 0, 1) ∧ 107 + 1 = 108 := ⟨by decide +kernel, rfl⟩
set_option maxRecDepth 20000 in
theorem dX12_count_108 : decode cX12_count 108 = .ok (.getfield 184, 3) ∧ 108 + 3 = 111 := ⟨by decide +kernel, rfl⟩
set_option maxRecDepth 20000 in
theorem dX12_count_111 : decode cX12_count 111 = .ok (.ireturn, 1) := by decide +kernel
set_option maxRecDepth 20000 in
theorem dX12_count_112 : decode cX12_count 112 = .ok (.aload_n 0, 1) ∧ 112 + 1 = 113 := ⟨by decide +kernel, rfl⟩
set_option maxRecDepth 20000 in
theorem dX12_count_113 : decode cX12_count 113 = .ok (.getfield 7, 3) ∧ 113 + 3 = 116 := ⟨by decide +kernel, rfl⟩
set_option maxRecDepth 20000 in
theorem dX12_count_116 : decode cX12_count 116 = .ok (.iconst 1, 1) ∧ 116 + 1 = 117 := ⟨by decide +kernel, rfl⟩
set_option maxRecDepth 20000 in
theorem dX12_count_117 : decode cX12_count 117 = .ok (.iaload, 1) ∧ 117 + 1 = 118 := ⟨by decide +kernel, rfl⟩
set_option maxRecDepth 20000 in
theorem dX12_count_118 : decode cX12_count 118 = .ok (.ireturn, 1) := by decide +kernel
set_option maxRecDepth 20000 in
theorem dX12_count_119 : decode cX12_count 119 = .ok (.aload_n 0, 1) ∧ 119 + 1 = 120 := ⟨by decide +kernel, rfl⟩
set_option maxRecDepth 20000 in
theorem dX12_count_120 : decode cX12_count 120 = .ok (.getfield 7, 3) ∧ 120 + 3 = 123 := ⟨by decide +kernel, rfl⟩
set_option maxRecDepth 20000 in
theorem dX12_count_123 : decode cX12_count 123 = .ok (.iconst 2, 1) ∧ 123 + 1 = 124 := ⟨by decide +kernel, rfl⟩
set_option maxRecDepth 20000 in
theorem dX12_count_124 : decode cX12_count 124 = .ok (.iaload, 1) ∧ 124 + 1 = 125 := ⟨by decide +kernel, rfl⟩
set_option maxRecDepth 20000 in
theorem dX12_count_125 : decode cX12_count 125 = .ok (.ireturn, 1) := by decide +kernel
set_option maxRecDepth 20000 in
theorem dX12_count_126 : decode cX12_count 126 = .ok (.aload_n 0, 1) ∧ 126 + 1 = 127 := ⟨by decide +kernel, rfl⟩
set_option maxRecDepth 20000 in
theorem dX12_count_127 : decode cX12_count 127 = .ok (.getfield 7, 3) ∧ 127 + 3 = 130 := ⟨by decide +kernel, rfl⟩
set_option maxRecDepth 20000 in
theorem dX12_count_130 : decode cX12_count 130 = .ok (.iconst 3, 1) ∧ 130 + 1 = 131 := ⟨by decide +kernel, rfl⟩
set_option maxRecDepth 20000 in
theorem dX12_count_131 : decode cX12_count 131 = .ok (.iaload, 1) ∧ 131 + 1 = 132 := ⟨by decide +kernel, rfl⟩
set_option maxRecDepth 20000 in
theorem dX12_count_132 : decode cX12_count 132 = .ok (.ireturn, 1) := by decide +kernel
set_option maxRecDepth 20000 in
theorem dX12_count_133 : decode cX12_count 133 = .ok (.aload_n 0, 1) ∧ 133 + 1 = 134 := ⟨by decide +kernel, rfl⟩
set_option maxRecDepth 20000 in
theorem dX12_count_134 : decode cX12_count 134 = .ok (.getfield 7, 3) ∧ 134 + 3 = 137 := ⟨by decide +kernel, rfl⟩
set_option maxRecDepth 20000 in
theorem dX12_count_137 : decode cX12_count 137 = .ok (.iconst 5, 1) ∧ 137 + 1 = 138 := ⟨by decide +kernel, rfl⟩
set_option maxRecDepth 20000 in
theorem dX12_count_138 : decode cX12_count 138 = .ok (.iaload, 1) ∧ 138 + 1 = 139 := ⟨by decide +kernel, rfl⟩
set_option maxRecDepth 20000 in
theorem dX12_count_139 : decode cX12_count 139 = .ok (.ireturn, 1) := by decide +kernel
set_option maxRecDepth 20000 in
theorem dX12_count_140 : decode cX12_count 140 = .ok (.aload_n 0, 1) ∧ 140 + 1 = 141 := ⟨by decide +kernel, rfl⟩
set_option maxRecDepth 20000 in
theorem dX12_count_141 : decode cX12_count 141 = .ok (.getfield 7, 3) ∧ 141 + 3 = 144 := ⟨by decide +kernel, rfl⟩
set_option maxRecDepth 20000 in
theorem dX12_count_144 : decode cX12_count 144 = .ok (.bipush 6, 2) ∧ 144 + 2 = 146 := ⟨by decide +kernel, rfl⟩
set_option maxRecDepth 20000 in
theorem dX12_count_146 : decode cX12_count 146 = .ok (.iaload, 1) ∧ 146 + 1 = 147 := ⟨by decide +kernel, rfl⟩
set_option maxRecDepth 20000 in
theorem dX12_count_147 : decode cX12_count 147 = .ok (.ireturn, 1) := by decide +kernel
set_option maxRecDepth 20000 in
theorem dX12_count_148 : decode cX12_count 148 = .ok (.aload_n 0, 1) ∧ 148 + 1 = 149 := ⟨by decide +kernel, rfl⟩
set_option maxRecDepth 20000 in
theorem dX12_count_149 : decode cX12_count 149 = .ok (.getfield 13, 3) ∧ 149 + 3 = 152 := ⟨by decide +kernel, rfl⟩
set_option maxRecDepth 20000 in
theorem dX12_count_152 : decode cX12_count 152 = .ok (.iconst 3, 1) ∧ 152 + 1 = 153 := ⟨by decide +kernel, rfl⟩
set_option maxRecDepth 20000 in
theorem dX12_count_153 : decode cX12_count 153 = .ok (.iaload, 1) ∧ 153 + 1 = 154 := ⟨by decide +kernel, rfl⟩
set_option maxRecDepth 20000 in
theorem dX12_count_154 : decode cX12_count 154 = .ok (.ireturn, 1) := by decide +kernel
set_option maxRecDepth 20000 in
theorem dX12_count_155 : decode cX12_count 155 = .ok (.iload_n 1, 1) ∧ 155 + 1 = 156 := ⟨by decide +kernel, rfl⟩
set_option maxRecDepth 20000 in
theorem dX12_count_156 : decode cX12_count 156 = .ok (.i2l, 1) ∧ 156 + 1 = 157 := ⟨by decide +kernel, rfl⟩
set_option maxRecDepth 20000 in
theorem dX12_count_157 : decode cX12_count 157 = .ok (.ldc2_w 501, 3) ∧ 157 + 3 = 160 := ⟨by decide +kernel, rfl⟩
set_option maxRecDepth 20000 in
theorem dX12_count_160 : decode cX12_count 160 = .ok (.ldc2_w 503, 3) ∧ 160 + 3 = 163 := ⟨by decide +kernel, rfl⟩
set_option maxRecDepth 20000 in
theorem dX12_count_163 : decode cX12_count 163 = .ok (.invokestatic 134, 3) ∧ 163 + 3 = 166 := ⟨by decide +kernel, rfl⟩
set_option maxRecDepth 20000 in
theorem dX12_count_166 : decode cX12_count 166 = .ok (.ifCond .eq 17, 3) ∧ 166 + 3 = 169 ∧ ((166 : Nat) : Int) + (17) = ((183 : Nat) : Int) := ⟨by decide +kernel, rfl, by decide⟩
set_option maxRecDepth 20000 in
theorem dX12_count_169 : decode cX12_count 169 = .ok (.aload_n 0, 1) ∧ 169 + 1 = 170 := ⟨by decide +kernel, rfl⟩
set_option maxRecDepth 20000 in
theorem dX12_count_170 : decode cX12_count 170 = .ok (.getfield 13, 3) ∧ 170 + 3 = 173 := ⟨by decide +kernel, rfl⟩
set_option maxRecDepth 20000 in
theorem dX12_count_173 : decode cX12_count 173 = .ok (.iconst 5, 1) ∧ 173 + 1 = 174 := ⟨by decide +kernel, rfl⟩
set_option maxRecDepth 20000 in
theorem dX12_count_174 : decode cX12_count 174 = .ok (.iload_n 1, 1) ∧ 174 + 1 = 175 := ⟨by decide +kernel, rfl⟩
set_option maxRecDepth 20000 in
theorem dX12_count_175 : decode cX12_count 175 = .ok (.iadd, 1) ∧ 175 + 1 = 176 := ⟨by decide +kernel, rfl⟩
set_option maxRecDepth 20000 in
theorem dX12_count_176 : decode cX12_count 176 = .ok (.bipush 12, 2) ∧ 176 + 2 = 178 := ⟨by decide +kernel, rfl⟩
set_option maxRecDepth 20000 in
theorem dX12_count_178 : decode cX12_count 178 = .ok (.isub, 1) ∧ 178 + 1 = 179 := ⟨by decide +kernel, rfl⟩
set_option maxRecDepth 20000 in
theorem dX12_count_179 : decode cX12_count 179 = .ok (.iaload, 1) ∧ 179 + 1 = 180 := ⟨by decide +kernel, rfl⟩
set_option maxRecDepth 20000 in
theorem dX12_count_180 : decode cX12_count 180 = .ok (.goto 4, 3) ∧ ((180 : Nat) : Int) + (4) = ((184 : Nat) : Int) := ⟨by decide +kernel, by decide⟩
set_option maxRecDepth 20000 in
theorem dX12_count_183 : decode cX12_count 183 = .ok (.iconst (-1), 1) ∧ 183 + 1 = 184 := ⟨by decide +kernel, rfl⟩
set_option maxRecDepth 20000 in
theorem dX12_count_184 : decode cX12_count 184 = .ok (.ireturn, 1) := by decide +kernel
set_option maxRecDepth 20000 in
theorem dX12_status_0 : decode cX12_status 0 = .ok (.aload_n 0, 1) ∧ 0 + 1 = 1 := ⟨by decide +kernel, rfl⟩
set_option maxRecDepth 20000 in
theorem dX12_status_1 : decode cX12_status 1 = .ok (.iconst 0, 1) ∧ 1 + 1 = 2 := ⟨by decide +kernel, rfl⟩
set_option maxRecDepth 20000 in
theorem dX12_status_2 : decode cX12_status 2 = .ok (.putfield 124, 3) ∧ 2 + 3 = 5 := ⟨by decide +kernel, rfl⟩
set_option maxRecDepth 20000 in
theorem dX12_status_5 : decode cX12_status 5 = .ok (.aload_n 0, 1) ∧ 5 + 1 = 6 := ⟨by decide +kernel, rfl⟩
set_option maxRecDepth 20000 in
theorem dX12_status_6 : decode cX12_status 6 = .ok (.getfield 127, 3) ∧ 6 + 3 = 9 := ⟨by decide +kernel, rfl⟩
set_option maxRecDepth 20000 in
theorem dX12_status_9 : decode cX12_status 9 = .ok (.ireturn, 1) := by decide +kernel
