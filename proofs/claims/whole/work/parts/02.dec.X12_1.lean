theorem dX12_rust_26 : decode cX12_rust 26 = .ok (.aload_n 0, 1) := by decide +kernel
theorem dX12_rust_27 : decode cX12_rust 27 = .ok (.getfield 34, 3) := by decide +kernel
theorem dX12_rust_30 : decode cX12_rust 30 = .ok (.iload_n 1, 1) := by decide +kernel
theorem dX12_rust_31 : decode cX12_rust 31 = .ok (.iload_n 2, 1) := by decide +kernel
theorem dX12_rust_32 : decode cX12_rust 32 = .ok (.iastore, 1) := by decide +kernel
theorem dX12_rust_33 : decode cX12_rust 33 = .ok (.iconst 1, 1) := by decide +kernel
theorem dX12_rust_34 : decode cX12_rust 34 = .ok (.ireturn, 1) := by decide +kernel
theorem dX12_shot_0 : decode cX12_shot 0 = .ok (.aload_n 0, 1) := by decide +kernel
theorem dX12_shot_1 : decode cX12_shot 1 = .ok (.iconst 0, 1) := by decide +kernel
theorem dX12_shot_2 : decode cX12_shot 2 = .ok (.putfield 132, 3) := by decide +kernel
theorem dX12_shot_5 : decode cX12_shot 5 = .ok (.aload_n 0, 1) := by decide +kernel
theorem dX12_shot_6 : decode cX12_shot 6 = .ok (.iload_n 1, 1) := by decide +kernel
theorem dX12_shot_7 : decode cX12_shot 7 = .ok (.invokevirtual 162, 3) := by decide +kernel
theorem dX12_shot_10 : decode cX12_shot 10 = .ok (.ifCond .eq 23, 3) := by decide +kernel
theorem dX12_shot_13 : decode cX12_shot 13 = .ok (.aload_n 0, 1) := by decide +kernel
theorem dX12_shot_14 : decode cX12_shot 14 = .ok (.iload_n 2, 1) := by decide +kernel
theorem dX12_shot_15 : decode cX12_shot 15 = .ok (.iconst 0, 1) := by decide +kernel
theorem dX12_shot_16 : decode cX12_shot 16 = .ok (.bipush 9, 2) := by decide +kernel
theorem dX12_shot_18 : decode cX12_shot 18 = .ok (.invokevirtual 144, 3) := by decide +kernel
theorem dX12_shot_21 : decode cX12_shot 21 = .ok (.ifCond .eq 12, 3) := by decide +kernel
theorem dX12_shot_24 : decode cX12_shot 24 = .ok (.aload_n 0, 1) := by decide +kernel
theorem dX12_shot_25 : decode cX12_shot 25 = .ok (.getfield 141, 3) := by decide +kernel
theorem dX12_shot_28 : decode cX12_shot 28 = .ok (.bipush 40, 2) := by decide +kernel
theorem dX12_shot_30 : decode cX12_shot 30 = .ok (.if_icmp .ne 5, 3) := by decide +kernel
theorem dX12_shot_33 : decode cX12_shot 33 = .ok (.iconst (-1), 1) := by decide +kernel
theorem dX12_shot_34 : decode cX12_shot 34 = .ok (.ireturn, 1) := by decide +kernel
theorem dX12_shot_35 : decode cX12_shot 35 = .ok (.aload_n 0, 1) := by decide +kernel
theorem dX12_shot_36 : decode cX12_shot 36 = .ok (.getfield 83, 3) := by decide +kernel
theorem dX12_shot_39 : decode cX12_shot 39 = .ok (.iconst 5, 1) := by decide +kernel
theorem dX12_shot_40 : decode cX12_shot 40 = .ok (.aload_n 0, 1) := by decide +kernel
theorem dX12_shot_41 : decode cX12_shot 41 = .ok (.getfield 31, 3) := by decide +kernel
theorem dX12_shot_44 : decode cX12_shot 44 = .ok (.iload_n 1, 1) := by decide +kernel
theorem dX12_shot_45 : decode cX12_shot 45 = .ok (.iaload, 1) := by decide +kernel
theorem dX12_shot_46 : decode cX12_shot 46 = .ok (.iastore, 1) := by decide +kernel
theorem dX12_shot_47 : decode cX12_shot 47 = .ok (.aload_n 0, 1) := by decide +kernel
theorem dX12_shot_48 : decode cX12_shot 48 = .ok (.getfield 83, 3) := by decide +kernel
theorem dX12_shot_51 : decode cX12_shot 51 = .ok (.bipush 6, 2) := by decide +kernel
theorem dX12_shot_53 : decode cX12_shot 53 = .ok (.aload_n 0, 1) := by decide +kernel
theorem dX12_shot_54 : decode cX12_shot 54 = .ok (.getfield 34, 3) := by decide +kernel
theorem dX12_shot_57 : decode cX12_shot 57 = .ok (.iload_n 1, 1) := by decide +kernel
theorem dX12_shot_58 : decode cX12_shot 58 = .ok (.iaload, 1) := by decide +kernel
theorem dX12_shot_59 : decode cX12_shot 59 = .ok (.iastore, 1) := by decide +kernel
theorem dX12_shot_60 : decode cX12_shot 60 = .ok (.aload_n 0, 1) := by decide +kernel
theorem dX12_shot_61 : decode cX12_shot 61 = .ok (.getfield 83, 3) := by decide +kernel
theorem dX12_shot_64 : decode cX12_shot 64 = .ok (.bipush 7, 2) := by decide +kernel
theorem dX12_shot_66 : decode cX12_shot 66 = .ok (.iload_n 2, 1) := by decide +kernel
theorem dX12_shot_67 : decode cX12_shot 67 = .ok (.iastore, 1) := by decide +kernel
theorem dX12_shot_68 : decode cX12_shot 68 = .ok (.aload_n 0, 1) := by decide +kernel
theorem dX12_shot_69 : decode cX12_shot 69 = .ok (.aload_n 0, 1) := by decide +kernel
theorem dX12_shot_70 : decode cX12_shot 70 = .ok (.getfield 22, 3) := by decide +kernel
theorem dX12_shot_73 : decode cX12_shot 73 = .ok (.iload_n 1, 1) := by decide +kernel
theorem dX12_shot_74 : decode cX12_shot 74 = .ok (.iaload, 1) := by decide +kernel
theorem dX12_shot_75 : decode cX12_shot 75 = .ok (.putfield 155, 3) := by decide +kernel
theorem dX12_shot_78 : decode cX12_shot 78 = .ok (.aload_n 0, 1) := by decide +kernel
theorem dX12_shot_79 : decode cX12_shot 79 = .ok (.aload_n 0, 1) := by decide +kernel
theorem dX12_shot_80 : decode cX12_shot 80 = .ok (.getfield 19, 3) := by decide +kernel
theorem dX12_shot_83 : decode cX12_shot 83 = .ok (.bipush 32, 2) := by decide +kernel
theorem dX12_shot_85 : decode cX12_shot 85 = .ok (.iload_n 1, 1) := by decide +kernel
theorem dX12_shot_86 : decode cX12_shot 86 = .ok (.imul, 1) := by decide +kernel
theorem dX12_shot_87 : decode cX12_shot 87 = .ok (.iconst 2, 1) := by decide +kernel
theorem dX12_shot_88 : decode cX12_shot 88 = .ok (.invokevirtual 158, 3) := by decide +kernel
theorem dX12_shot_91 : decode cX12_shot 91 = .ok (.iconst 0, 1) := by decide +kernel
theorem dX12_shot_92 : decode cX12_shot 92 = .ok (.istore_n 3, 1) := by decide +kernel
theorem dX12_shot_93 : decode cX12_shot 93 = .ok (.iload_n 3, 1) := by decide +kernel
theorem dX12_shot_94 : decode cX12_shot 94 = .ok (.bipush 32, 2) := by decide +kernel
theorem dX12_shot_96 : decode cX12_shot 96 = .ok (.if_icmp .ge 29, 3) := by decide +kernel
theorem dX12_shot_99 : decode cX12_shot 99 = .ok (.aload_n 0, 1) := by decide +kernel
theorem dX12_shot_100 : decode cX12_shot 100 = .ok (.getfield 37, 3) := by decide +kernel
theorem dX12_shot_103 : decode cX12_shot 103 = .ok (.bipush 32, 2) := by decide +kernel
theorem dX12_shot_105 : decode cX12_shot 105 = .ok (.aload_n 0, 1) := by decide +kernel
theorem dX12_shot_106 : decode cX12_shot 106 = .ok (.getfield 141, 3) := by decide +kernel
theorem dX12_shot_109 : decode cX12_shot 109 = .ok (.imul, 1) := by decide +kernel
theorem dX12_shot_110 : decode cX12_shot 110 = .ok (.iload_n 3, 1) := by decide +kernel
theorem dX12_shot_111 : decode cX12_shot 111 = .ok (.iadd, 1) := by decide +kernel
theorem dX12_shot_112 : decode cX12_shot 112 = .ok (.aload_n 0, 1) := by decide +kernel
theorem dX12_shot_113 : decode cX12_shot 113 = .ok (.getfield 89, 3) := by decide +kernel
theorem dX12_shot_116 : decode cX12_shot 116 = .ok (.iload_n 3, 1) := by decide +kernel
theorem dX12_shot_117 : decode cX12_shot 117 = .ok (.iaload, 1) := by decide +kernel
theorem dX12_shot_118 : decode cX12_shot 118 = .ok (.iastore, 1) := by decide +kernel
theorem dX12_shot_119 : decode cX12_shot 119 = .ok (.iinc 3 1, 3) := by decide +kernel
theorem dX12_shot_122 : decode cX12_shot 122 = .ok (.goto (-29), 3) := by decide +kernel
theorem dX12_shot_125 : decode cX12_shot 125 = .ok (.aload_n 0, 1) := by decide +kernel
theorem dX12_shot_126 : decode cX12_shot 126 = .ok (.aload_n 0, 1) := by decide +kernel
theorem dX12_shot_127 : decode cX12_shot 127 = .ok (.getfield 19, 3) := by decide +kernel
theorem dX12_shot_130 : decode cX12_shot 130 = .ok (.bipush 32, 2) := by decide +kernel
theorem dX12_shot_132 : decode cX12_shot 132 = .ok (.iload_n 1, 1) := by decide +kernel
theorem dX12_shot_133 : decode cX12_shot 133 = .ok (.imul, 1) := by decide +kernel
theorem dX12_shot_134 : decode cX12_shot 134 = .ok (.iconst 1, 1) := by decide +kernel
theorem dX12_shot_135 : decode cX12_shot 135 = .ok (.invokevirtual 158, 3) := by decide +kernel
theorem dX12_shot_138 : decode cX12_shot 138 = .ok (.iconst 0, 1) := by decide +kernel
theorem dX12_shot_139 : decode cX12_shot 139 = .ok (.istore_n 3, 1) := by decide +kernel
theorem dX12_shot_140 : decode cX12_shot 140 = .ok (.iload_n 3, 1) := by decide +kernel
theorem dX12_shot_141 : decode cX12_shot 141 = .ok (.bipush 32, 2) := by decide +kernel
theorem dX12_shot_143 : decode cX12_shot 143 = .ok (.if_icmp .ge 26, 3) := by decide +kernel
theorem dX12_shot_146 : decode cX12_shot 146 = .ok (.aload_n 0, 1) := by decide +kernel
theorem dX12_shot_147 : decode cX12_shot 147 = .ok (.getfield 19, 3) := by decide +kernel
theorem dX12_shot_150 : decode cX12_shot 150 = .ok (.bipush 32, 2) := by decide +kernel
theorem dX12_shot_152 : decode cX12_shot 152 = .ok (.iload_n 1, 1) := by decide +kernel
theorem dX12_shot_153 : decode cX12_shot 153 = .ok (.imul, 1) := by decide +kernel
theorem dX12_shot_154 : decode cX12_shot 154 = .ok (.iload_n 3, 1) := by decide +kernel
theorem dX12_shot_155 : decode cX12_shot 155 = .ok (.iadd, 1) := by decide +kernel
theorem dX12_shot_156 : decode cX12_shot 156 = .ok (.aload_n 0, 1) := by decide +kernel
theorem dX12_shot_157 : decode cX12_shot 157 = .ok (.getfield 89, 3) := by decide +kernel
theorem dX12_shot_160 : decode cX12_shot 160 = .ok (.iload_n 3, 1) := by decide +kernel
theorem dX12_shot_161 : decode cX12_shot 161 = .ok (.iaload, 1) := by decide +kernel
theorem dX12_shot_162 : decode cX12_shot 162 = .ok (.iastore, 1) := by decide +kernel
theorem dX12_shot_163 : decode cX12_shot 163 = .ok (.iinc 3 1, 3) := by decide +kernel
theorem dX12_shot_166 : decode cX12_shot 166 = .ok (.goto (-26), 3) := by decide +kernel
theorem dX12_shot_169 : decode cX12_shot 169 = .ok (.aload_n 0, 1) := by decide +kernel
theorem dX12_shot_170 : decode cX12_shot 170 = .ok (.getfield 22, 3) := by decide +kernel
theorem dX12_shot_173 : decode cX12_shot 173 = .ok (.iload_n 1, 1) := by decide +kernel
theorem dX12_shot_174 : decode cX12_shot 174 = .ok (.aload_n 0, 1) := by decide +kernel
theorem dX12_shot_175 : decode cX12_shot 175 = .ok (.getfield 155, 3) := by decide +kernel
theorem dX12_shot_178 : decode cX12_shot 178 = .ok (.iastore, 1) := by decide +kernel
theorem dX12_shot_179 : decode cX12_shot 179 = .ok (.aload_n 0, 1) := by decide +kernel
theorem dX12_shot_180 : decode cX12_shot 180 = .ok (.getfield 40, 3) := by decide +kernel
theorem dX12_shot_183 : decode cX12_shot 183 = .ok (.aload_n 0, 1) := by decide +kernel
theorem dX12_shot_184 : decode cX12_shot 184 = .ok (.getfield 141, 3) := by decide +kernel
theorem dX12_shot_187 : decode cX12_shot 187 = .ok (.iload_n 1, 1) := by decide +kernel
theorem dX12_shot_188 : decode cX12_shot 188 = .ok (.iastore, 1) := by decide +kernel
theorem dX12_shot_189 : decode cX12_shot 189 = .ok (.aload_n 0, 1) := by decide +kernel
theorem dX12_shot_190 : decode cX12_shot 190 = .ok (.getfield 43, 3) := by decide +kernel
theorem dX12_shot_193 : decode cX12_shot 193 = .ok (.aload_n 0, 1) := by decide +kernel
theorem dX12_shot_194 : decode cX12_shot 194 = .ok (.getfield 141, 3) := by decide +kernel
theorem dX12_shot_197 : decode cX12_shot 197 = .ok (.aload_n 0, 1) := by decide +kernel
theorem dX12_shot_198 : decode cX12_shot 198 = .ok (.getfield 31, 3) := by decide +kernel
theorem dX12_shot_201 : decode cX12_shot 201 = .ok (.iload_n 1, 1) := by decide +kernel
theorem dX12_shot_202 : decode cX12_shot 202 = .ok (.iaload, 1) := by decide +kernel
theorem dX12_shot_203 : decode cX12_shot 203 = .ok (.iastore, 1) := by decide +kernel
theorem dX12_shot_204 : decode cX12_shot 204 = .ok (.aload_n 0, 1) := by decide +kernel
theorem dX12_shot_205 : decode cX12_shot 205 = .ok (.getfield 46, 3) := by decide +kernel
theorem dX12_shot_208 : decode cX12_shot 208 = .ok (.aload_n 0, 1) := by decide +kernel
theorem dX12_shot_209 : decode cX12_shot 209 = .ok (.getfield 141, 3) := by decide +kernel
theorem dX12_shot_212 : decode cX12_shot 212 = .ok (.iload_n 2, 1) := by decide +kernel
theorem dX12_shot_213 : decode cX12_shot 213 = .ok (.iastore, 1) := by decide +kernel
theorem dX12_shot_214 : decode cX12_shot 214 = .ok (.aload_n 0, 1) := by decide +kernel
theorem dX12_shot_215 : decode cX12_shot 215 = .ok (.getfield 31, 3) := by decide +kernel
theorem dX12_shot_218 : decode cX12_shot 218 = .ok (.iload_n 1, 1) := by decide +kernel
theorem dX12_shot_219 : decode cX12_shot 219 = .ok (.aload_n 0, 1) := by decide +kernel
theorem dX12_shot_220 : decode cX12_shot 220 = .ok (.getfield 31, 3) := by decide +kernel
theorem dX12_shot_223 : decode cX12_shot 223 = .ok (.iload_n 1, 1) := by decide +kernel
theorem dX12_shot_224 : decode cX12_shot 224 = .ok (.iaload, 1) := by decide +kernel
theorem dX12_shot_225 : decode cX12_shot 225 = .ok (.iconst 1, 1) := by decide +kernel
theorem dX12_shot_226 : decode cX12_shot 226 = .ok (.iadd, 1) := by decide +kernel
theorem dX12_shot_227 : decode cX12_shot 227 = .ok (.iastore, 1) := by decide +kernel
theorem dX12_shot_228 : decode cX12_shot 228 = .ok (.aload_n 0, 1) := by decide +kernel
theorem dX12_shot_229 : decode cX12_shot 229 = .ok (.aload_n 0, 1) := by decide +kernel
theorem dX12_shot_230 : decode cX12_shot 230 = .ok (.getfield 141, 3) := by decide +kernel
theorem dX12_shot_233 : decode cX12_shot 233 = .ok (.iconst 1, 1) := by decide +kernel
theorem dX12_shot_234 : decode cX12_shot 234 = .ok (.iadd, 1) := by decide +kernel
theorem dX12_shot_235 : decode cX12_shot 235 = .ok (.putfield 141, 3) := by decide +kernel
theorem dX12_shot_238 : decode cX12_shot 238 = .ok (.aload_n 0, 1) := by decide +kernel
theorem dX12_shot_239 : decode cX12_shot 239 = .ok (.aload_n 0, 1) := by decide +kernel
theorem dX12_shot_240 : decode cX12_shot 240 = .ok (.getfield 165, 3) := by decide +kernel
theorem dX12_shot_243 : decode cX12_shot 243 = .ok (.iconst 1, 1) := by decide +kernel
theorem dX12_shot_244 : decode cX12_shot 244 = .ok (.iadd, 1) := by decide +kernel
theorem dX12_shot_245 : decode cX12_shot 245 = .ok (.putfield 165, 3) := by decide +kernel
theorem dX12_shot_248 : decode cX12_shot 248 = .ok (.aload_n 0, 1) := by decide +kernel
theorem dX12_shot_249 : decode cX12_shot 249 = .ok (.getfield 141, 3) := by decide +kernel
theorem dX12_shot_252 : decode cX12_shot 252 = .ok (.iconst 1, 1) := by decide +kernel
theorem dX12_shot_253 : decode cX12_shot 253 = .ok (.isub, 1) := by decide +kernel
theorem dX12_shot_254 : decode cX12_shot 254 = .ok (.ireturn, 1) := by decide +kernel
theorem dX12_found_0 : decode cX12_found 0 = .ok (.aload_n 0, 1) := by decide +kernel
theorem dX12_found_1 : decode cX12_found 1 = .ok (.iconst 0, 1) := by decide +kernel
theorem dX12_found_2 : decode cX12_found 2 = .ok (.putfield 132, 3) := by decide +kernel
theorem dX12_found_5 : decode cX12_found 5 = .ok (.aload_n 0, 1) := by decide +kernel
theorem dX12_found_6 : decode cX12_found 6 = .ok (.getfield 141, 3) := by decide +kernel
theorem dX12_found_9 : decode cX12_found 9 = .ok (.bipush 40, 2) := by decide +kernel
theorem dX12_found_11 : decode cX12_found 11 = .ok (.if_icmp .ne 5, 3) := by decide +kernel
theorem dX12_found_14 : decode cX12_found 14 = .ok (.iconst (-1), 1) := by decide +kernel
theorem dX12_found_15 : decode cX12_found 15 = .ok (.ireturn, 1) := by decide +kernel
theorem dX12_found_16 : decode cX12_found 16 = .ok (.iconst 0, 1) := by decide +kernel
theorem dX12_found_17 : decode cX12_found 17 = .ok (.istore_n 1, 1) := by decide +kernel
theorem dX12_found_18 : decode cX12_found 18 = .ok (.iload_n 1, 1) := by decide +kernel
theorem dX12_found_19 : decode cX12_found 19 = .ok (.bipush 32, 2) := by decide +kernel
theorem dX12_found_21 : decode cX12_found 21 = .ok (.if_icmp .ge 24, 3) := by decide +kernel
theorem dX12_found_24 : decode cX12_found 24 = .ok (.aload_n 0, 1) := by decide +kernel
theorem dX12_found_25 : decode cX12_found 25 = .ok (.getfield 37, 3) := by decide +kernel
theorem dX12_found_28 : decode cX12_found 28 = .ok (.bipush 32, 2) := by decide +kernel
theorem dX12_found_30 : decode cX12_found 30 = .ok (.aload_n 0, 1) := by decide +kernel
theorem dX12_found_31 : decode cX12_found 31 = .ok (.getfield 141, 3) := by decide +kernel
theorem dX12_found_34 : decode cX12_found 34 = .ok (.imul, 1) := by decide +kernel
theorem dX12_found_35 : decode cX12_found 35 = .ok (.iload_n 1, 1) := by decide +kernel
theorem dX12_found_36 : decode cX12_found 36 = .ok (.iadd, 1) := by decide +kernel
theorem dX12_found_37 : decode cX12_found 37 = .ok (.iconst 0, 1) := by decide +kernel
theorem dX12_found_38 : decode cX12_found 38 = .ok (.iastore, 1) := by decide +kernel
theorem dX12_found_39 : decode cX12_found 39 = .ok (.iinc 1 1, 3) := by decide +kernel
theorem dX12_found_42 : decode cX12_found 42 = .ok (.goto (-24), 3) := by decide +kernel
theorem dX12_found_45 : decode cX12_found 45 = .ok (.aload_n 0, 1) := by decide +kernel
theorem dX12_found_46 : decode cX12_found 46 = .ok (.getfield 40, 3) := by decide +kernel
theorem dX12_found_49 : decode cX12_found 49 = .ok (.aload_n 0, 1) := by decide +kernel
theorem dX12_found_50 : decode cX12_found 50 = .ok (.getfield 141, 3) := by decide +kernel
theorem dX12_found_53 : decode cX12_found 53 = .ok (.iconst (-1), 1) := by decide +kernel
theorem dX12_found_54 : decode cX12_found 54 = .ok (.iastore, 1) := by decide +kernel
theorem dX12_found_55 : decode cX12_found 55 = .ok (.aload_n 0, 1) := by decide +kernel
theorem dX12_found_56 : decode cX12_found 56 = .ok (.getfield 43, 3) := by decide +kernel
theorem dX12_found_59 : decode cX12_found 59 = .ok (.aload_n 0, 1) := by decide +kernel
theorem dX12_found_60 : decode cX12_found 60 = .ok (.getfield 141, 3) := by decide +kernel
theorem dX12_found_63 : decode cX12_found 63 = .ok (.iconst (-1), 1) := by decide +kernel
theorem dX12_found_64 : decode cX12_found 64 = .ok (.iastore, 1) := by decide +kernel
theorem dX12_found_65 : decode cX12_found 65 = .ok (.aload_n 0, 1) := by decide +kernel
theorem dX12_found_66 : decode cX12_found 66 = .ok (.getfield 46, 3) := by decide +kernel
theorem dX12_found_69 : decode cX12_found 69 = .ok (.aload_n 0, 1) := by decide +kernel
theorem dX12_found_70 : decode cX12_found 70 = .ok (.getfield 141, 3) := by decide +kernel
theorem dX12_found_73 : decode cX12_found 73 = .ok (.iconst (-1), 1) := by decide +kernel
theorem dX12_found_74 : decode cX12_found 74 = .ok (.iastore, 1) := by decide +kernel
theorem dX12_found_75 : decode cX12_found 75 = .ok (.aload_n 0, 1) := by decide +kernel
theorem dX12_found_76 : decode cX12_found 76 = .ok (.aload_n 0, 1) := by decide +kernel
theorem dX12_found_77 : decode cX12_found 77 = .ok (.getfield 141, 3) := by decide +kernel
theorem dX12_found_80 : decode cX12_found 80 = .ok (.iconst 1, 1) := by decide +kernel
theorem dX12_found_81 : decode cX12_found 81 = .ok (.iadd, 1) := by decide +kernel
theorem dX12_found_82 : decode cX12_found 82 = .ok (.putfield 141, 3) := by decide +kernel
theorem dX12_found_85 : decode cX12_found 85 = .ok (.aload_n 0, 1) := by decide +kernel
theorem dX12_found_86 : decode cX12_found 86 = .ok (.aload_n 0, 1) := by decide +kernel
theorem dX12_found_87 : decode cX12_found 87 = .ok (.getfield 165, 3) := by decide +kernel
theorem dX12_found_90 : decode cX12_found 90 = .ok (.iconst 1, 1) := by decide +kernel
theorem dX12_found_91 : decode cX12_found 91 = .ok (.iadd, 1) := by decide +kernel
theorem dX12_found_92 : decode cX12_found 92 = .ok (.putfield 165, 3) := by decide +kernel
theorem dX12_found_95 : decode cX12_found 95 = .ok (.aload_n 0, 1) := by decide +kernel
theorem dX12_found_96 : decode cX12_found 96 = .ok (.getfield 141, 3) := by decide +kernel
theorem dX12_found_99 : decode cX12_found 99 = .ok (.iconst 1, 1) := by decide +kernel
theorem dX12_found_100 : decode cX12_found 100 = .ok (.isub, 1) := by decide +kernel
theorem dX12_found_101 : decode cX12_found 101 = .ok (.ireturn, 1) := by decide +kernel
theorem dX12_hair_0 : decode cX12_hair 0 = .ok (.aload_n 0, 1) := by decide +kernel
theorem dX12_hair_1 : decode cX12_hair 1 = .ok (.iconst 0, 1) := by decide +kernel
theorem dX12_hair_2 : decode cX12_hair 2 = .ok (.putfield 132, 3) := by decide +kernel
theorem dX12_hair_5 : decode cX12_hair 5 = .ok (.aload_n 0, 1) := by decide +kernel
theorem dX12_hair_6 : decode cX12_hair 6 = .ok (.iload_n 1, 1) := by decide +kernel
theorem dX12_hair_7 : decode cX12_hair 7 = .ok (.invokevirtual 168, 3) := by decide +kernel
theorem dX12_hair_10 : decode cX12_hair 10 = .ok (.ifCond .eq 22, 3) := by decide +kernel
theorem dX12_hair_13 : decode cX12_hair 13 = .ok (.aload_n 0, 1) := by decide +kernel
theorem dX12_hair_14 : decode cX12_hair 14 = .ok (.iload_n 2, 1) := by decide +kernel
theorem dX12_hair_15 : decode cX12_hair 15 = .ok (.invokevirtual 152, 3) := by decide +kernel
theorem dX12_hair_18 : decode cX12_hair 18 = .ok (.ifCond .eq 14, 3) := by decide +kernel
theorem dX12_hair_21 : decode cX12_hair 21 = .ok (.aload_n 0, 1) := by decide +kernel
theorem dX12_hair_22 : decode cX12_hair 22 = .ok (.iload_n 3, 1) := by decide +kernel
theorem dX12_hair_23 : decode cX12_hair 23 = .ok (.iconst (-1), 1) := by decide +kernel
theorem dX12_hair_24 : decode cX12_hair 24 = .ok (.bipush 63, 2) := by decide +kernel
theorem dX12_hair_26 : decode cX12_hair 26 = .ok (.invokevirtual 144, 3) := by decide +kernel
theorem dX12_hair_29 : decode cX12_hair 29 = .ok (.ifCond .ne 5, 3) := by decide +kernel
theorem dX12_hair_32 : decode cX12_hair 32 = .ok (.iconst 0, 1) := by decide +kernel
theorem dX12_hair_33 : decode cX12_hair 33 = .ok (.ireturn, 1) := by decide +kernel
theorem dX12_hair_34 : decode cX12_hair 34 = .ok (.aload_n 0, 1) := by decide +kernel
theorem dX12_hair_35 : decode cX12_hair 35 = .ok (.getfield 37, 3) := by decide +kernel
theorem dX12_hair_38 : decode cX12_hair 38 = .ok (.bipush 32, 2) := by decide +kernel
theorem dX12_hair_40 : decode cX12_hair 40 = .ok (.iload_n 1, 1) := by decide +kernel
theorem dX12_hair_41 : decode cX12_hair 41 = .ok (.imul, 1) := by decide +kernel
theorem dX12_hair_42 : decode cX12_hair 42 = .ok (.iload_n 2, 1) := by decide +kernel
theorem dX12_hair_43 : decode cX12_hair 43 = .ok (.iadd, 1) := by decide +kernel
theorem dX12_hair_44 : decode cX12_hair 44 = .ok (.iload_n 3, 1) := by decide +kernel
theorem dX12_hair_45 : decode cX12_hair 45 = .ok (.iastore, 1) := by decide +kernel
theorem dX12_hair_46 : decode cX12_hair 46 = .ok (.aload_n 0, 1) := by decide +kernel
theorem dX12_hair_47 : decode cX12_hair 47 = .ok (.aload_n 0, 1) := by decide +kernel
theorem dX12_hair_48 : decode cX12_hair 48 = .ok (.getfield 165, 3) := by decide +kernel
theorem dX12_hair_51 : decode cX12_hair 51 = .ok (.iconst 1, 1) := by decide +kernel
theorem dX12_hair_52 : decode cX12_hair 52 = .ok (.iadd, 1) := by decide +kernel
theorem dX12_hair_53 : decode cX12_hair 53 = .ok (.putfield 165, 3) := by decide +kernel
theorem dX12_hair_56 : decode cX12_hair 56 = .ok (.iconst 1, 1) := by decide +kernel
theorem dX12_hair_57 : decode cX12_hair 57 = .ok (.ireturn, 1) := by decide +kernel
theorem dX12_at_0 : decode cX12_at 0 = .ok (.aload_n 0, 1) := by decide +kernel
theorem dX12_at_1 : decode cX12_at 1 = .ok (.iconst 0, 1) := by decide +kernel
theorem dX12_at_2 : decode cX12_at 2 = .ok (.putfield 132, 3) := by decide +kernel
theorem dX12_at_5 : decode cX12_at 5 = .ok (.aload_n 0, 1) := by decide +kernel
theorem dX12_at_6 : decode cX12_at 6 = .ok (.iload_n 3, 1) := by decide +kernel
theorem dX12_at_7 : decode cX12_at 7 = .ok (.invokevirtual 152, 3) := by decide +kernel
theorem dX12_at_10 : decode cX12_at 10 = .ok (.ifCond .ne 6, 3) := by decide +kernel
theorem dX12_at_13 : decode cX12_at 13 = .ok (.bipush (-2), 2) := by decide +kernel
theorem dX12_at_15 : decode cX12_at 15 = .ok (.ireturn, 1) := by decide +kernel
theorem dX12_at_16 : decode cX12_at 16 = .ok (.iload_n 1, 1) := by decide +kernel
theorem dX12_at_17 : decode cX12_at 17 = .ok (.ifCond .ne 28, 3) := by decide +kernel
theorem dX12_at_20 : decode cX12_at 20 = .ok (.aload_n 0, 1) := by decide +kernel
theorem dX12_at_21 : decode cX12_at 21 = .ok (.iload_n 2, 1) := by decide +kernel
theorem dX12_at_22 : decode cX12_at 22 = .ok (.invokevirtual 148, 3) := by decide +kernel
theorem dX12_at_25 : decode cX12_at 25 = .ok (.ifCond .eq 17, 3) := by decide +kernel
theorem dX12_at_28 : decode cX12_at 28 = .ok (.aload_n 0, 1) := by decide +kernel
theorem dX12_at_29 : decode cX12_at 29 = .ok (.getfield 7, 3) := by decide +kernel
theorem dX12_at_32 : decode cX12_at 32 = .ok (.bipush 32, 2) := by decide +kernel
theorem dX12_at_34 : decode cX12_at 34 = .ok (.iload_n 2, 1) := by decide +kernel
theorem dX12_at_35 : decode cX12_at 35 = .ok (.imul, 1) := by decide +kernel
theorem dX12_at_36 : decode cX12_at 36 = .ok (.iload_n 3, 1) := by decide +kernel
theorem dX12_at_37 : decode cX12_at 37 = .ok (.iadd, 1) := by decide +kernel
theorem dX12_at_38 : decode cX12_at 38 = .ok (.iaload, 1) := by decide +kernel
theorem dX12_at_39 : decode cX12_at 39 = .ok (.goto 5, 3) := by decide +kernel
theorem dX12_at_42 : decode cX12_at 42 = .ok (.bipush (-2), 2) := by decide +kernel
theorem dX12_at_44 : decode cX12_at 44 = .ok (.ireturn, 1) := by decide +kernel
theorem dX12_at_45 : decode cX12_at 45 = .ok (.iload_n 1, 1) := by decide +kernel
theorem dX12_at_46 : decode cX12_at 46 = .ok (.iconst 1, 1) := by decide +kernel
theorem dX12_at_47 : decode cX12_at 47 = .ok (.if_icmp .ne 28, 3) := by decide +kernel
theorem dX12_at_50 : decode cX12_at 50 = .ok (.aload_n 0, 1) := by decide +kernel
theorem dX12_at_51 : decode cX12_at 51 = .ok (.iload_n 2, 1) := by decide +kernel
theorem dX12_at_52 : decode cX12_at 52 = .ok (.invokevirtual 162, 3) := by decide +kernel
theorem dX12_at_55 : decode cX12_at 55 = .ok (.ifCond .eq 17, 3) := by decide +kernel
theorem dX12_at_58 : decode cX12_at 58 = .ok (.aload_n 0, 1) := by decide +kernel
theorem dX12_at_59 : decode cX12_at 59 = .ok (.getfield 19, 3) := by decide +kernel
theorem dX12_at_62 : decode cX12_at 62 = .ok (.bipush 32, 2) := by decide +kernel
theorem dX12_at_64 : decode cX12_at 64 = .ok (.iload_n 2, 1) := by decide +kernel
theorem dX12_at_65 : decode cX12_at 65 = .ok (.imul, 1) := by decide +kernel
theorem dX12_at_66 : decode cX12_at 66 = .ok (.iload_n 3, 1) := by decide +kernel
theorem dX12_at_67 : decode cX12_at 67 = .ok (.iadd, 1) := by decide +kernel
theorem dX12_at_68 : decode cX12_at 68 = .ok (.iaload, 1) := by decide +kernel
theorem dX12_at_69 : decode cX12_at 69 = .ok (.goto 5, 3) := by decide +kernel
theorem dX12_at_72 : decode cX12_at 72 = .ok (.bipush (-2), 2) := by decide +kernel
theorem dX12_at_74 : decode cX12_at 74 = .ok (.ireturn, 1) := by decide +kernel
theorem dX12_at_75 : decode cX12_at 75 = .ok (.iload_n 1, 1) := by decide +kernel
theorem dX12_at_76 : decode cX12_at 76 = .ok (.iconst 2, 1) := by decide +kernel
theorem dX12_at_77 : decode cX12_at 77 = .ok (.if_icmp .ne 25, 3) := by decide +kernel
theorem dX12_at_80 : decode cX12_at 80 = .ok (.aload_n 0, 1) := by decide +kernel
theorem dX12_at_81 : decode cX12_at 81 = .ok (.iload_n 2, 1) := by decide +kernel
theorem dX12_at_82 : decode cX12_at 82 = .ok (.invokevirtual 168, 3) := by decide +kernel
theorem dX12_at_85 : decode cX12_at 85 = .ok (.ifCond .eq 17, 3) := by decide +kernel
theorem dX12_at_88 : decode cX12_at 88 = .ok (.aload_n 0, 1) := by decide +kernel
theorem dX12_at_89 : decode cX12_at 89 = .ok (.getfield 37, 3) := by decide +kernel
theorem dX12_at_92 : decode cX12_at 92 = .ok (.bipush 32, 2) := by decide +kernel
theorem dX12_at_94 : decode cX12_at 94 = .ok (.iload_n 2, 1) := by decide +kernel
theorem dX12_at_95 : decode cX12_at 95 = .ok (.imul, 1) := by decide +kernel
theorem dX12_at_96 : decode cX12_at 96 = .ok (.iload_n 3, 1) := by decide +kernel
theorem dX12_at_97 : decode cX12_at 97 = .ok (.iadd, 1) := by decide +kernel
theorem dX12_at_98 : decode cX12_at 98 = .ok (.iaload, 1) := by decide +kernel
theorem dX12_at_99 : decode cX12_at 99 = .ok (.goto 5, 3) := by decide +kernel
theorem dX12_at_102 : decode cX12_at 102 = .ok (.bipush (-2), 2) := by decide +kernel
theorem dX12_at_104 : decode cX12_at 104 = .ok (.ireturn, 1) := by decide +kernel
theorem dX12_missingOf_0 : decode cX12_missingOf 0 = .ok (.iconst 0, 1) := by decide +kernel
theorem dX12_missingOf_1 : decode cX12_missingOf 1 = .ok (.istore_n 2, 1) := by decide +kernel
theorem dX12_missingOf_2 : decode cX12_missingOf 2 = .ok (.iconst 0, 1) := by decide +kernel
theorem dX12_missingOf_3 : decode cX12_missingOf 3 = .ok (.istore_n 3, 1) := by decide +kernel
theorem dX12_missingOf_4 : decode cX12_missingOf 4 = .ok (.iload_n 3, 1) := by decide +kernel
theorem dX12_missingOf_5 : decode cX12_missingOf 5 = .ok (.bipush 32, 2) := by decide +kernel
theorem dX12_missingOf_7 : decode cX12_missingOf 7 = .ok (.if_icmp .ge 28, 3) := by decide +kernel
theorem dX12_missingOf_10 : decode cX12_missingOf 10 = .ok (.aload_n 0, 1) := by decide +kernel
theorem dX12_missingOf_11 : decode cX12_missingOf 11 = .ok (.getfield 37, 3) := by decide +kernel
theorem dX12_missingOf_14 : decode cX12_missingOf 14 = .ok (.bipush 32, 2) := by decide +kernel
theorem dX12_missingOf_16 : decode cX12_missingOf 16 = .ok (.iload_n 1, 1) := by decide +kernel
theorem dX12_missingOf_17 : decode cX12_missingOf 17 = .ok (.imul, 1) := by decide +kernel
theorem dX12_missingOf_18 : decode cX12_missingOf 18 = .ok (.iload_n 3, 1) := by decide +kernel
theorem dX12_missingOf_19 : decode cX12_missingOf 19 = .ok (.iadd, 1) := by decide +kernel
theorem dX12_missingOf_20 : decode cX12_missingOf 20 = .ok (.iaload, 1) := by decide +kernel
theorem dX12_missingOf_21 : decode cX12_missingOf 21 = .ok (.iconst (-1), 1) := by decide +kernel
theorem dX12_missingOf_22 : decode cX12_missingOf 22 = .ok (.if_icmp .ne 7, 3) := by decide +kernel
theorem dX12_missingOf_25 : decode cX12_missingOf 25 = .ok (.iload_n 2, 1) := by decide +kernel
theorem dX12_missingOf_26 : decode cX12_missingOf 26 = .ok (.iconst 1, 1) := by decide +kernel
theorem dX12_missingOf_27 : decode cX12_missingOf 27 = .ok (.iadd, 1) := by decide +kernel
theorem dX12_missingOf_28 : decode cX12_missingOf 28 = .ok (.istore_n 2, 1) := by decide +kernel
theorem dX12_missingOf_29 : decode cX12_missingOf 29 = .ok (.iinc 3 1, 3) := by decide +kernel
theorem dX12_missingOf_32 : decode cX12_missingOf 32 = .ok (.goto (-28), 3) := by decide +kernel
theorem dX12_missingOf_35 : decode cX12_missingOf 35 = .ok (.iload_n 2, 1) := by decide +kernel
theorem dX12_missingOf_36 : decode cX12_missingOf 36 = .ok (.ireturn, 1) := by decide +kernel
theorem dX12_of_0 : decode cX12_of 0 = .ok (.aload_n 0, 1) := by decide +kernel
theorem dX12_of_1 : decode cX12_of 1 = .ok (.iconst 0, 1) := by decide +kernel
theorem dX12_of_2 : decode cX12_of 2 = .ok (.putfield 132, 3) := by decide +kernel
theorem dX12_of_5 : decode cX12_of 5 = .ok (.iload_n 2, 1) := by decide +kernel
theorem dX12_of_6 : decode cX12_of 6 = .ok (.bipush 10, 2) := by decide +kernel
theorem dX12_of_8 : decode cX12_of 8 = .ok (.if_icmp .ge 65, 3) := by decide +kernel
theorem dX12_of_11 : decode cX12_of 11 = .ok (.aload_n 0, 1) := by decide +kernel
theorem dX12_of_12 : decode cX12_of 12 = .ok (.iload_n 1, 1) := by decide +kernel
theorem dX12_of_13 : decode cX12_of 13 = .ok (.invokevirtual 168, 3) := by decide +kernel
theorem dX12_of_16 : decode cX12_of 16 = .ok (.ifCond .ne 6, 3) := by decide +kernel
theorem dX12_of_19 : decode cX12_of 19 = .ok (.bipush (-2), 2) := by decide +kernel
theorem dX12_of_21 : decode cX12_of 21 = .ok (.ireturn, 1) := by decide +kernel
theorem dX12_of_22 : decode cX12_of 22 = .ok (.iload_n 2, 1) := by decide +kernel
theorem dX12_of_23 : decode cX12_of 23 = .ok (.ifCond .ne 10, 3) := by decide +kernel
theorem dX12_of_26 : decode cX12_of 26 = .ok (.aload_n 0, 1) := by decide +kernel
theorem dX12_of_27 : decode cX12_of 27 = .ok (.getfield 40, 3) := by decide +kernel
theorem dX12_of_30 : decode cX12_of 30 = .ok (.iload_n 1, 1) := by decide +kernel
theorem dX12_of_31 : decode cX12_of 31 = .ok (.iaload, 1) := by decide +kernel
theorem dX12_of_32 : decode cX12_of 32 = .ok (.ireturn, 1) := by decide +kernel
theorem dX12_of_33 : decode cX12_of 33 = .ok (.iload_n 2, 1) := by decide +kernel
theorem dX12_of_34 : decode cX12_of 34 = .ok (.iconst 1, 1) := by decide +kernel
theorem dX12_of_35 : decode cX12_of 35 = .ok (.if_icmp .ne 10, 3) := by decide +kernel
theorem dX12_of_38 : decode cX12_of 38 = .ok (.aload_n 0, 1) := by decide +kernel
theorem dX12_of_39 : decode cX12_of 39 = .ok (.getfield 43, 3) := by decide +kernel
theorem dX12_of_42 : decode cX12_of 42 = .ok (.iload_n 1, 1) := by decide +kernel
theorem dX12_of_43 : decode cX12_of 43 = .ok (.iaload, 1) := by decide +kernel
theorem dX12_of_44 : decode cX12_of 44 = .ok (.ireturn, 1) := by decide +kernel
theorem dX12_of_45 : decode cX12_of 45 = .ok (.iload_n 2, 1) := by decide +kernel
theorem dX12_of_46 : decode cX12_of 46 = .ok (.iconst 2, 1) := by decide +kernel
theorem dX12_of_47 : decode cX12_of 47 = .ok (.if_icmp .ne 10, 3) := by decide +kernel
theorem dX12_of_50 : decode cX12_of 50 = .ok (.aload_n 0, 1) := by decide +kernel
theorem dX12_of_51 : decode cX12_of 51 = .ok (.getfield 46, 3) := by decide +kernel
theorem dX12_of_54 : decode cX12_of 54 = .ok (.iload_n 1, 1) := by decide +kernel
theorem dX12_of_55 : decode cX12_of 55 = .ok (.iaload, 1) := by decide +kernel
theorem dX12_of_56 : decode cX12_of 56 = .ok (.ireturn, 1) := by decide +kernel
theorem dX12_of_57 : decode cX12_of 57 = .ok (.iload_n 2, 1) := by decide +kernel
theorem dX12_of_58 : decode cX12_of 58 = .ok (.iconst 3, 1) := by decide +kernel
theorem dX12_of_59 : decode cX12_of 59 = .ok (.if_icmp .ne 11, 3) := by decide +kernel
theorem dX12_of_62 : decode cX12_of 62 = .ok (.aload_n 0, 1) := by decide +kernel
theorem dX12_of_63 : decode cX12_of 63 = .ok (.iload_n 1, 1) := by decide +kernel
theorem dX12_of_64 : decode cX12_of 64 = .ok (.invokevirtual 171, 3) := by decide +kernel
theorem dX12_of_67 : decode cX12_of 67 = .ok (.goto 5, 3) := by decide +kernel
theorem dX12_of_70 : decode cX12_of 70 = .ok (.bipush (-2), 2) := by decide +kernel
theorem dX12_of_72 : decode cX12_of 72 = .ok (.ireturn, 1) := by decide +kernel
theorem dX12_of_73 : decode cX12_of 73 = .ok (.aload_n 0, 1) := by decide +kernel
theorem dX12_of_74 : decode cX12_of 74 = .ok (.iload_n 1, 1) := by decide +kernel
theorem dX12_of_75 : decode cX12_of 75 = .ok (.invokevirtual 162, 3) := by decide +kernel
theorem dX12_of_78 : decode cX12_of 78 = .ok (.ifCond .ne 6, 3) := by decide +kernel
theorem dX12_of_81 : decode cX12_of 81 = .ok (.bipush (-2), 2) := by decide +kernel
theorem dX12_of_83 : decode cX12_of 83 = .ok (.ireturn, 1) := by decide +kernel
theorem dX12_of_84 : decode cX12_of 84 = .ok (.iload_n 2, 1) := by decide +kernel
theorem dX12_of_85 : decode cX12_of 85 = .ok (.bipush 10, 2) := by decide +kernel
theorem dX12_of_87 : decode cX12_of 87 = .ok (.if_icmp .ne 10, 3) := by decide +kernel
theorem dX12_of_90 : decode cX12_of 90 = .ok (.aload_n 0, 1) := by decide +kernel
theorem dX12_of_91 : decode cX12_of 91 = .ok (.getfield 25, 3) := by decide +kernel
theorem dX12_of_94 : decode cX12_of 94 = .ok (.iload_n 1, 1) := by decide +kernel
theorem dX12_of_95 : decode cX12_of 95 = .ok (.iaload, 1) := by decide +kernel
theorem dX12_of_96 : decode cX12_of 96 = .ok (.ireturn, 1) := by decide +kernel
theorem dX12_of_97 : decode cX12_of 97 = .ok (.iload_n 2, 1) := by decide +kernel
theorem dX12_of_98 : decode cX12_of 98 = .ok (.bipush 11, 2) := by decide +kernel
theorem dX12_of_100 : decode cX12_of 100 = .ok (.if_icmp .ne 10, 3) := by decide +kernel
theorem dX12_of_103 : decode cX12_of 103 = .ok (.aload_n 0, 1) := by decide +kernel
theorem dX12_of_104 : decode cX12_of 104 = .ok (.getfield 28, 3) := by decide +kernel
theorem dX12_of_107 : decode cX12_of 107 = .ok (.iload_n 1, 1) := by decide +kernel
theorem dX12_of_108 : decode cX12_of 108 = .ok (.iaload, 1) := by decide +kernel
theorem dX12_of_109 : decode cX12_of 109 = .ok (.ireturn, 1) := by decide +kernel
theorem dX12_of_110 : decode cX12_of 110 = .ok (.iload_n 2, 1) := by decide +kernel
theorem dX12_of_111 : decode cX12_of 111 = .ok (.bipush 12, 2) := by decide +kernel
theorem dX12_of_113 : decode cX12_of 113 = .ok (.if_icmp .ne 10, 3) := by decide +kernel
theorem dX12_of_116 : decode cX12_of 116 = .ok (.aload_n 0, 1) := by decide +kernel
theorem dX12_of_117 : decode cX12_of 117 = .ok (.getfield 31, 3) := by decide +kernel
theorem dX12_of_120 : decode cX12_of 120 = .ok (.iload_n 1, 1) := by decide +kernel
theorem dX12_of_121 : decode cX12_of 121 = .ok (.iaload, 1) := by decide +kernel
theorem dX12_of_122 : decode cX12_of 122 = .ok (.ireturn, 1) := by decide +kernel
theorem dX12_of_123 : decode cX12_of 123 = .ok (.iload_n 2, 1) := by decide +kernel
theorem dX12_of_124 : decode cX12_of 124 = .ok (.bipush 13, 2) := by decide +kernel
theorem dX12_of_126 : decode cX12_of 126 = .ok (.if_icmp .ne 12, 3) := by decide +kernel
theorem dX12_of_129 : decode cX12_of 129 = .ok (.aload_n 0, 1) := by decide +kernel
theorem dX12_of_130 : decode cX12_of 130 = .ok (.getfield 34, 3) := by decide +kernel
theorem dX12_of_133 : decode cX12_of 133 = .ok (.iload_n 1, 1) := by decide +kernel
theorem dX12_of_134 : decode cX12_of 134 = .ok (.iaload, 1) := by decide +kernel
theorem dX12_of_135 : decode cX12_of 135 = .ok (.goto 5, 3) := by decide +kernel
theorem dX12_of_138 : decode cX12_of 138 = .ok (.bipush (-2), 2) := by decide +kernel
theorem dX12_of_140 : decode cX12_of 140 = .ok (.ireturn, 1) := by decide +kernel
theorem dX12_puts_0 : decode cX12_puts 0 = .ok (.bipush 24, 2) := by decide +kernel
theorem dX12_puts_2 : decode cX12_puts 2 = .ok (.istore_n 2, 1) := by decide +kernel
theorem dX12_puts_3 : decode cX12_puts 3 = .ok (.iload_n 2, 1) := by decide +kernel
theorem dX12_puts_4 : decode cX12_puts 4 = .ok (.ifCond .lt 35, 3) := by decide +kernel
theorem dX12_puts_7 : decode cX12_puts 7 = .ok (.aload_n 0, 1) := by decide +kernel
theorem dX12_puts_8 : decode cX12_puts 8 = .ok (.getfield 49, 3) := by decide +kernel
theorem dX12_puts_11 : decode cX12_puts 11 = .ok (.aload_n 0, 1) := by decide +kernel
theorem dX12_puts_12 : decode cX12_puts 12 = .ok (.getfield 175, 3) := by decide +kernel
theorem dX12_puts_15 : decode cX12_puts 15 = .ok (.iload_n 1, 1) := by decide +kernel
theorem dX12_puts_16 : decode cX12_puts 16 = .ok (.iload_n 2, 1) := by decide +kernel
theorem dX12_puts_17 : decode cX12_puts 17 = .ok (.ishr, 1) := by decide +kernel
theorem dX12_puts_18 : decode cX12_puts 18 = .ok (.sipush 255, 3) := by decide +kernel
theorem dX12_puts_21 : decode cX12_puts 21 = .ok (.iand, 1) := by decide +kernel
theorem dX12_puts_22 : decode cX12_puts 22 = .ok (.iastore, 1) := by decide +kernel
theorem dX12_puts_23 : decode cX12_puts 23 = .ok (.aload_n 0, 1) := by decide +kernel
theorem dX12_puts_24 : decode cX12_puts 24 = .ok (.aload_n 0, 1) := by decide +kernel
theorem dX12_puts_25 : decode cX12_puts 25 = .ok (.getfield 175, 3) := by decide +kernel
theorem dX12_puts_28 : decode cX12_puts 28 = .ok (.iconst 1, 1) := by decide +kernel
theorem dX12_puts_29 : decode cX12_puts 29 = .ok (.iadd, 1) := by decide +kernel
theorem dX12_puts_30 : decode cX12_puts 30 = .ok (.putfield 175, 3) := by decide +kernel
theorem dX12_puts_33 : decode cX12_puts 33 = .ok (.iinc 2 (-8), 3) := by decide +kernel
theorem dX12_puts_36 : decode cX12_puts 36 = .ok (.goto (-33), 3) := by decide +kernel
theorem dX12_puts_39 : decode cX12_puts 39 = .ok (.return_, 1) := by decide +kernel
theorem dX12_feed_0 : decode cX12_feed 0 = .ok (.aload_n 0, 1) := by decide +kernel
theorem dX12_feed_1 : decode cX12_feed 1 = .ok (.iconst 0, 1) := by decide +kernel
theorem dX12_feed_2 : decode cX12_feed 2 = .ok (.putfield 132, 3) := by decide +kernel
theorem dX12_feed_5 : decode cX12_feed 5 = .ok (.aload_n 0, 1) := by decide +kernel
theorem dX12_feed_6 : decode cX12_feed 6 = .ok (.getfield 175, 3) := by decide +kernel
theorem dX12_feed_9 : decode cX12_feed 9 = .ok (.sipush 580, 3) := by decide +kernel
theorem dX12_feed_12 : decode cX12_feed 12 = .ok (.if_icmp .le 5, 3) := by decide +kernel
theorem dX12_feed_15 : decode cX12_feed 15 = .ok (.iconst (-1), 1) := by decide +kernel
theorem dX12_feed_16 : decode cX12_feed 16 = .ok (.ireturn, 1) := by decide +kernel
theorem dX12_feed_17 : decode cX12_feed 17 = .ok (.aload_n 0, 1) := by decide +kernel
theorem dX12_feed_18 : decode cX12_feed 18 = .ok (.iload_n 1, 1) := by decide +kernel
theorem dX12_feed_19 : decode cX12_feed 19 = .ok (.invokevirtual 178, 3) := by decide +kernel
theorem dX12_feed_22 : decode cX12_feed 22 = .ok (.aload_n 0, 1) := by decide +kernel
theorem dX12_feed_23 : decode cX12_feed 23 = .ok (.iload_n 2, 1) := by decide +kernel
theorem dX12_feed_24 : decode cX12_feed 24 = .ok (.invokevirtual 178, 3) := by decide +kernel
theorem dX12_feed_27 : decode cX12_feed 27 = .ok (.aload_n 0, 1) := by decide +kernel
theorem dX12_feed_28 : decode cX12_feed 28 = .ok (.iload_n 3, 1) := by decide +kernel
theorem dX12_feed_29 : decode cX12_feed 29 = .ok (.invokevirtual 178, 3) := by decide +kernel
theorem dX12_feed_32 : decode cX12_feed 32 = .ok (.aload_n 0, 1) := by decide +kernel
theorem dX12_feed_33 : decode cX12_feed 33 = .ok (.iload 4, 2) := by decide +kernel
theorem dX12_feed_35 : decode cX12_feed 35 = .ok (.invokevirtual 178, 3) := by decide +kernel
theorem dX12_feed_38 : decode cX12_feed 38 = .ok (.aload_n 0, 1) := by decide +kernel
theorem dX12_feed_39 : decode cX12_feed 39 = .ok (.iload 5, 2) := by decide +kernel
theorem dX12_feed_41 : decode cX12_feed 41 = .ok (.invokevirtual 178, 3) := by decide +kernel
theorem dX12_feed_44 : decode cX12_feed 44 = .ok (.aload_n 0, 1) := by decide +kernel
theorem dX12_feed_45 : decode cX12_feed 45 = .ok (.getfield 175, 3) := by decide +kernel
theorem dX12_feed_48 : decode cX12_feed 48 = .ok (.ireturn, 1) := by decide +kernel
theorem dX12_end_0 : decode cX12_end 0 = .ok (.aload_n 0, 1) := by decide +kernel
theorem dX12_end_1 : decode cX12_end 1 = .ok (.iconst 0, 1) := by decide +kernel
theorem dX12_end_2 : decode cX12_end 2 = .ok (.putfield 132, 3) := by decide +kernel
theorem dX12_end_5 : decode cX12_end 5 = .ok (.aload_n 0, 1) := by decide +kernel
theorem dX12_end_6 : decode cX12_end 6 = .ok (.iload_n 1, 1) := by decide +kernel
theorem dX12_end_7 : decode cX12_end 7 = .ok (.iconst 0, 1) := by decide +kernel
theorem dX12_end_8 : decode cX12_end 8 = .ok (.aload_n 0, 1) := by decide +kernel
theorem dX12_end_9 : decode cX12_end 9 = .ok (.getfield 175, 3) := by decide +kernel
theorem dX12_end_12 : decode cX12_end 12 = .ok (.invokevirtual 144, 3) := by decide +kernel
theorem dX12_end_15 : decode cX12_end 15 = .ok (.ifCond .ne 5, 3) := by decide +kernel
theorem dX12_end_18 : decode cX12_end 18 = .ok (.iconst 0, 1) := by decide +kernel
theorem dX12_end_19 : decode cX12_end 19 = .ok (.ireturn, 1) := by decide +kernel
theorem dX12_end_20 : decode cX12_end 20 = .ok (.aload_n 0, 1) := by decide +kernel
theorem dX12_end_21 : decode cX12_end 21 = .ok (.iload_n 1, 1) := by decide +kernel
theorem dX12_end_22 : decode cX12_end 22 = .ok (.putfield 175, 3) := by decide +kernel
theorem dX12_end_25 : decode cX12_end 25 = .ok (.iconst 1, 1) := by decide +kernel
theorem dX12_end_26 : decode cX12_end 26 = .ok (.ireturn, 1) := by decide +kernel
theorem dX12_raw_0 : decode cX12_raw 0 = .ok (.iload_n 1, 1) := by decide +kernel
theorem dX12_raw_1 : decode cX12_raw 1 = .ok (.aload_n 0, 1) := by decide +kernel
theorem dX12_raw_2 : decode cX12_raw 2 = .ok (.getfield 175, 3) := by decide +kernel
theorem dX12_raw_5 : decode cX12_raw 5 = .ok (.if_icmp .ge 12, 3) := by decide +kernel
theorem dX12_raw_8 : decode cX12_raw 8 = .ok (.aload_n 0, 1) := by decide +kernel
theorem dX12_raw_9 : decode cX12_raw 9 = .ok (.getfield 49, 3) := by decide +kernel
theorem dX12_raw_12 : decode cX12_raw 12 = .ok (.iload_n 1, 1) := by decide +kernel
theorem dX12_raw_13 : decode cX12_raw 13 = .ok (.iaload, 1) := by decide +kernel
theorem dX12_raw_14 : decode cX12_raw 14 = .ok (.goto 4, 3) := by decide +kernel
theorem dX12_raw_17 : decode cX12_raw 17 = .ok (.iconst (-1), 1) := by decide +kernel
theorem dX12_raw_18 : decode cX12_raw 18 = .ok (.ireturn, 1) := by decide +kernel
theorem dX12_isLetter_0 : decode cX12_isLetter 0 = .ok (.aload_n 0, 1) := by decide +kernel
theorem dX12_isLetter_1 : decode cX12_isLetter 1 = .ok (.iload_n 1, 1) := by decide +kernel
theorem dX12_isLetter_2 : decode cX12_isLetter 2 = .ok (.bipush 97, 2) := by decide +kernel
theorem dX12_isLetter_4 : decode cX12_isLetter 4 = .ok (.bipush 122, 2) := by decide +kernel
theorem dX12_isLetter_6 : decode cX12_isLetter 6 = .ok (.invokevirtual 144, 3) := by decide +kernel
theorem dX12_isLetter_9 : decode cX12_isLetter 9 = .ok (.ifCond .ne 15, 3) := by decide +kernel
theorem dX12_isLetter_12 : decode cX12_isLetter 12 = .ok (.aload_n 0, 1) := by decide +kernel
theorem dX12_isLetter_13 : decode cX12_isLetter 13 = .ok (.iload_n 1, 1) := by decide +kernel
theorem dX12_isLetter_14 : decode cX12_isLetter 14 = .ok (.bipush 65, 2) := by decide +kernel
theorem dX12_isLetter_16 : decode cX12_isLetter 16 = .ok (.bipush 90, 2) := by decide +kernel
theorem dX12_isLetter_18 : decode cX12_isLetter 18 = .ok (.invokevirtual 144, 3) := by decide +kernel
theorem dX12_isLetter_21 : decode cX12_isLetter 21 = .ok (.ifCond .eq 7, 3) := by decide +kernel
theorem dX12_isLetter_24 : decode cX12_isLetter 24 = .ok (.iconst 1, 1) := by decide +kernel
theorem dX12_isLetter_25 : decode cX12_isLetter 25 = .ok (.goto 4, 3) := by decide +kernel
theorem dX12_isLetter_28 : decode cX12_isLetter 28 = .ok (.iconst 0, 1) := by decide +kernel
theorem dX12_isLetter_29 : decode cX12_isLetter 29 = .ok (.ireturn, 1) := by decide +kernel
theorem dX12_isDigit_0 : decode cX12_isDigit 0 = .ok (.aload_n 0, 1) := by decide +kernel
theorem dX12_isDigit_1 : decode cX12_isDigit 1 = .ok (.iload_n 1, 1) := by decide +kernel
theorem dX12_isDigit_2 : decode cX12_isDigit 2 = .ok (.bipush 48, 2) := by decide +kernel
theorem dX12_isDigit_4 : decode cX12_isDigit 4 = .ok (.bipush 57, 2) := by decide +kernel
theorem dX12_isDigit_6 : decode cX12_isDigit 6 = .ok (.invokevirtual 144, 3) := by decide +kernel
theorem dX12_isDigit_9 : decode cX12_isDigit 9 = .ok (.ireturn, 1) := by decide +kernel
theorem dX12_isMarkSign_0 : decode cX12_isMarkSign 0 = .ok (.iload_n 1, 1) := by decide +kernel
theorem dX12_isMarkSign_1 : decode cX12_isMarkSign 1 = .ok (.bipush 59, 2) := by decide +kernel
theorem dX12_isMarkSign_3 : decode cX12_isMarkSign 3 = .ok (.if_icmp .eq 57, 3) := by decide +kernel
theorem dX12_isMarkSign_6 : decode cX12_isMarkSign 6 = .ok (.iload_n 1, 1) := by decide +kernel
theorem dX12_isMarkSign_7 : decode cX12_isMarkSign 7 = .ok (.bipush 43, 2) := by decide +kernel
theorem dX12_isMarkSign_9 : decode cX12_isMarkSign 9 = .ok (.if_icmp .eq 51, 3) := by decide +kernel
theorem dX12_isMarkSign_12 : decode cX12_isMarkSign 12 = .ok (.iload_n 1, 1) := by decide +kernel
theorem dX12_isMarkSign_13 : decode cX12_isMarkSign 13 = .ok (.bipush 45, 2) := by decide +kernel
theorem dX12_isMarkSign_15 : decode cX12_isMarkSign 15 = .ok (.if_icmp .eq 45, 3) := by decide +kernel
theorem dX12_isMarkSign_18 : decode cX12_isMarkSign 18 = .ok (.iload_n 1, 1) := by decide +kernel
theorem dX12_isMarkSign_19 : decode cX12_isMarkSign 19 = .ok (.bipush 42, 2) := by decide +kernel
theorem dX12_isMarkSign_21 : decode cX12_isMarkSign 21 = .ok (.if_icmp .eq 39, 3) := by decide +kernel
theorem dX12_isMarkSign_24 : decode cX12_isMarkSign 24 = .ok (.iload_n 1, 1) := by decide +kernel
theorem dX12_isMarkSign_25 : decode cX12_isMarkSign 25 = .ok (.bipush 47, 2) := by decide +kernel
theorem dX12_isMarkSign_27 : decode cX12_isMarkSign 27 = .ok (.if_icmp .eq 33, 3) := by decide +kernel
theorem dX12_isMarkSign_30 : decode cX12_isMarkSign 30 = .ok (.iload_n 1, 1) := by decide +kernel
theorem dX12_isMarkSign_31 : decode cX12_isMarkSign 31 = .ok (.bipush 40, 2) := by decide +kernel
theorem dX12_isMarkSign_33 : decode cX12_isMarkSign 33 = .ok (.if_icmp .eq 27, 3) := by decide +kernel
theorem dX12_isMarkSign_36 : decode cX12_isMarkSign 36 = .ok (.iload_n 1, 1) := by decide +kernel
theorem dX12_isMarkSign_37 : decode cX12_isMarkSign 37 = .ok (.bipush 41, 2) := by decide +kernel
theorem dX12_isMarkSign_39 : decode cX12_isMarkSign 39 = .ok (.if_icmp .eq 21, 3) := by decide +kernel
theorem dX12_isMarkSign_42 : decode cX12_isMarkSign 42 = .ok (.iload_n 1, 1) := by decide +kernel
theorem dX12_isMarkSign_43 : decode cX12_isMarkSign 43 = .ok (.bipush 60, 2) := by decide +kernel
theorem dX12_isMarkSign_45 : decode cX12_isMarkSign 45 = .ok (.if_icmp .eq 15, 3) := by decide +kernel
theorem dX12_isMarkSign_48 : decode cX12_isMarkSign 48 = .ok (.iload_n 1, 1) := by decide +kernel
theorem dX12_isMarkSign_49 : decode cX12_isMarkSign 49 = .ok (.bipush 61, 2) := by decide +kernel
theorem dX12_isMarkSign_51 : decode cX12_isMarkSign 51 = .ok (.if_icmp .eq 9, 3) := by decide +kernel
theorem dX12_isMarkSign_54 : decode cX12_isMarkSign 54 = .ok (.iload_n 1, 1) := by decide +kernel
theorem dX12_isMarkSign_55 : decode cX12_isMarkSign 55 = .ok (.bipush 62, 2) := by decide +kernel
theorem dX12_isMarkSign_57 : decode cX12_isMarkSign 57 = .ok (.if_icmp .ne 7, 3) := by decide +kernel
theorem dX12_isMarkSign_60 : decode cX12_isMarkSign 60 = .ok (.iconst 1, 1) := by decide +kernel
theorem dX12_isMarkSign_61 : decode cX12_isMarkSign 61 = .ok (.goto 4, 3) := by decide +kernel
theorem dX12_isMarkSign_64 : decode cX12_isMarkSign 64 = .ok (.iconst 0, 1) := by decide +kernel
theorem dX12_isMarkSign_65 : decode cX12_isMarkSign 65 = .ok (.ireturn, 1) := by decide +kernel
theorem dX12_wordAt_0 : decode cX12_wordAt 0 = .ok (.iconst (-1), 1) := by decide +kernel
theorem dX12_wordAt_1 : decode cX12_wordAt 1 = .ok (.istore_n 3, 1) := by decide +kernel
theorem dX12_wordAt_2 : decode cX12_wordAt 2 = .ok (.iconst 0, 1) := by decide +kernel
theorem dX12_wordAt_3 : decode cX12_wordAt 3 = .ok (.istore 4, 2) := by decide +kernel
theorem dX12_wordAt_5 : decode cX12_wordAt 5 = .ok (.iload 4, 2) := by decide +kernel
theorem dX12_wordAt_7 : decode cX12_wordAt 7 = .ok (.bipush 114, 2) := by decide +kernel
theorem dX12_wordAt_9 : decode cX12_wordAt 9 = .ok (.if_icmp .ge 108, 3) := by decide +kernel
theorem dX12_wordAt_12 : decode cX12_wordAt 12 = .ok (.iconst 0, 1) := by decide +kernel
theorem dX12_wordAt_13 : decode cX12_wordAt 13 = .ok (.istore 5, 2) := by decide +kernel
theorem dX12_wordAt_15 : decode cX12_wordAt 15 = .ok (.iload_n 3, 1) := by decide +kernel
theorem dX12_wordAt_16 : decode cX12_wordAt 16 = .ok (.iconst 1, 1) := by decide +kernel
theorem dX12_wordAt_17 : decode cX12_wordAt 17 = .ok (.iadd, 1) := by decide +kernel
theorem dX12_wordAt_18 : decode cX12_wordAt 18 = .ok (.istore_n 3, 1) := by decide +kernel
theorem dX12_wordAt_19 : decode cX12_wordAt 19 = .ok (.iload_n 1, 1) := by decide +kernel
theorem dX12_wordAt_20 : decode cX12_wordAt 20 = .ok (.iload 5, 2) := by decide +kernel
theorem dX12_wordAt_22 : decode cX12_wordAt 22 = .ok (.iadd, 1) := by decide +kernel
theorem dX12_wordAt_23 : decode cX12_wordAt 23 = .ok (.iload_n 2, 1) := by decide +kernel
theorem dX12_wordAt_24 : decode cX12_wordAt 24 = .ok (.if_icmp .ge 36, 3) := by decide +kernel
theorem dX12_wordAt_27 : decode cX12_wordAt 27 = .ok (.aload_n 0, 1) := by decide +kernel
theorem dX12_wordAt_28 : decode cX12_wordAt 28 = .ok (.getfield 52, 3) := by decide +kernel
theorem dX12_wordAt_31 : decode cX12_wordAt 31 = .ok (.iload 4, 2) := by decide +kernel
theorem dX12_wordAt_33 : decode cX12_wordAt 33 = .ok (.iconst 1, 1) := by decide +kernel
theorem dX12_wordAt_34 : decode cX12_wordAt 34 = .ok (.iadd, 1) := by decide +kernel
theorem dX12_wordAt_35 : decode cX12_wordAt 35 = .ok (.iload 5, 2) := by decide +kernel
theorem dX12_wordAt_37 : decode cX12_wordAt 37 = .ok (.iadd, 1) := by decide +kernel
theorem dX12_wordAt_38 : decode cX12_wordAt 38 = .ok (.iaload, 1) := by decide +kernel
theorem dX12_wordAt_39 : decode cX12_wordAt 39 = .ok (.aload_n 0, 1) := by decide +kernel
theorem dX12_wordAt_40 : decode cX12_wordAt 40 = .ok (.getfield 49, 3) := by decide +kernel
theorem dX12_wordAt_43 : decode cX12_wordAt 43 = .ok (.iload_n 1, 1) := by decide +kernel
theorem dX12_wordAt_44 : decode cX12_wordAt 44 = .ok (.iload 5, 2) := by decide +kernel
theorem dX12_wordAt_46 : decode cX12_wordAt 46 = .ok (.iadd, 1) := by decide +kernel
theorem dX12_wordAt_47 : decode cX12_wordAt 47 = .ok (.iaload, 1) := by decide +kernel
theorem dX12_wordAt_48 : decode cX12_wordAt 48 = .ok (.if_icmp .ne 12, 3) := by decide +kernel
theorem dX12_wordAt_51 : decode cX12_wordAt 51 = .ok (.iload 5, 2) := by decide +kernel
theorem dX12_wordAt_53 : decode cX12_wordAt 53 = .ok (.iconst 1, 1) := by decide +kernel
theorem dX12_wordAt_54 : decode cX12_wordAt 54 = .ok (.iadd, 1) := by decide +kernel
theorem dX12_wordAt_55 : decode cX12_wordAt 55 = .ok (.istore 5, 2) := by decide +kernel
theorem dX12_wordAt_57 : decode cX12_wordAt 57 = .ok (.goto (-38), 3) := by decide +kernel
theorem dX12_wordAt_60 : decode cX12_wordAt 60 = .ok (.iload_n 1, 1) := by decide +kernel
theorem dX12_wordAt_61 : decode cX12_wordAt 61 = .ok (.iload 5, 2) := by decide +kernel
theorem dX12_wordAt_63 : decode cX12_wordAt 63 = .ok (.iadd, 1) := by decide +kernel
theorem dX12_wordAt_64 : decode cX12_wordAt 64 = .ok (.iload_n 2, 1) := by decide +kernel
theorem dX12_wordAt_65 : decode cX12_wordAt 65 = .ok (.if_icmp .ne 22, 3) := by decide +kernel
theorem dX12_wordAt_68 : decode cX12_wordAt 68 = .ok (.aload_n 0, 1) := by decide +kernel
theorem dX12_wordAt_69 : decode cX12_wordAt 69 = .ok (.getfield 52, 3) := by decide +kernel
theorem dX12_wordAt_72 : decode cX12_wordAt 72 = .ok (.iload 4, 2) := by decide +kernel
theorem dX12_wordAt_74 : decode cX12_wordAt 74 = .ok (.iconst 1, 1) := by decide +kernel
theorem dX12_wordAt_75 : decode cX12_wordAt 75 = .ok (.iadd, 1) := by decide +kernel
theorem dX12_wordAt_76 : decode cX12_wordAt 76 = .ok (.iload 5, 2) := by decide +kernel
theorem dX12_wordAt_78 : decode cX12_wordAt 78 = .ok (.iadd, 1) := by decide +kernel
theorem dX12_wordAt_79 : decode cX12_wordAt 79 = .ok (.iaload, 1) := by decide +kernel
theorem dX12_wordAt_80 : decode cX12_wordAt 80 = .ok (.bipush 32, 2) := by decide +kernel
theorem dX12_wordAt_82 : decode cX12_wordAt 82 = .ok (.if_icmp .ne 5, 3) := by decide +kernel
theorem dX12_wordAt_85 : decode cX12_wordAt 85 = .ok (.iload_n 3, 1) := by decide +kernel
theorem dX12_wordAt_86 : decode cX12_wordAt 86 = .ok (.ireturn, 1) := by decide +kernel
theorem dX12_wordAt_87 : decode cX12_wordAt 87 = .ok (.iload 4, 2) := by decide +kernel
theorem dX12_wordAt_89 : decode cX12_wordAt 89 = .ok (.iconst 1, 1) := by decide +kernel
theorem dX12_wordAt_90 : decode cX12_wordAt 90 = .ok (.iadd, 1) := by decide +kernel
theorem dX12_wordAt_91 : decode cX12_wordAt 91 = .ok (.istore 4, 2) := by decide +kernel
theorem dX12_wordAt_93 : decode cX12_wordAt 93 = .ok (.aload_n 0, 1) := by decide +kernel
theorem dX12_wordAt_94 : decode cX12_wordAt 94 = .ok (.getfield 52, 3) := by decide +kernel
theorem dX12_wordAt_97 : decode cX12_wordAt 97 = .ok (.iload 4, 2) := by decide +kernel
theorem dX12_wordAt_99 : decode cX12_wordAt 99 = .ok (.iaload, 1) := by decide +kernel
theorem dX12_wordAt_100 : decode cX12_wordAt 100 = .ok (.bipush 32, 2) := by decide +kernel
theorem dX12_wordAt_102 : decode cX12_wordAt 102 = .ok (.if_icmp .eq 12, 3) := by decide +kernel
theorem dX12_wordAt_105 : decode cX12_wordAt 105 = .ok (.iload 4, 2) := by decide +kernel
theorem dX12_wordAt_107 : decode cX12_wordAt 107 = .ok (.iconst 1, 1) := by decide +kernel
theorem dX12_wordAt_108 : decode cX12_wordAt 108 = .ok (.iadd, 1) := by decide +kernel
theorem dX12_wordAt_109 : decode cX12_wordAt 109 = .ok (.istore 4, 2) := by decide +kernel
theorem dX12_wordAt_111 : decode cX12_wordAt 111 = .ok (.goto (-18), 3) := by decide +kernel
theorem dX12_wordAt_114 : decode cX12_wordAt 114 = .ok (.goto (-109), 3) := by decide +kernel
theorem dX12_wordAt_117 : decode cX12_wordAt 117 = .ok (.iconst (-1), 1) := by decide +kernel
theorem dX12_wordAt_118 : decode cX12_wordAt 118 = .ok (.ireturn, 1) := by decide +kernel
theorem dX12_reads_0 : decode cX12_reads 0 = .ok (.aload_n 0, 1) := by decide +kernel
theorem dX12_reads_1 : decode cX12_reads 1 = .ok (.aload_n 0, 1) := by decide +kernel
theorem dX12_reads_2 : decode cX12_reads 2 = .ok (.getfield 182, 3) := by decide +kernel
theorem dX12_reads_5 : decode cX12_reads 5 = .ok (.invokevirtual 185, 3) := by decide +kernel
theorem dX12_reads_8 : decode cX12_reads 8 = .ok (.bipush 32, 2) := by decide +kernel
theorem dX12_reads_10 : decode cX12_reads 10 = .ok (.if_icmp .eq 16, 3) := by decide +kernel
theorem dX12_reads_13 : decode cX12_reads 13 = .ok (.aload_n 0, 1) := by decide +kernel
theorem dX12_reads_14 : decode cX12_reads 14 = .ok (.aload_n 0, 1) := by decide +kernel
theorem dX12_reads_15 : decode cX12_reads 15 = .ok (.getfield 182, 3) := by decide +kernel
theorem dX12_reads_18 : decode cX12_reads 18 = .ok (.invokevirtual 185, 3) := by decide +kernel
theorem dX12_reads_21 : decode cX12_reads 21 = .ok (.bipush 10, 2) := by decide +kernel
theorem dX12_reads_23 : decode cX12_reads 23 = .ok (.if_icmp .ne 16, 3) := by decide +kernel
theorem dX12_reads_26 : decode cX12_reads 26 = .ok (.aload_n 0, 1) := by decide +kernel
theorem dX12_reads_27 : decode cX12_reads 27 = .ok (.aload_n 0, 1) := by decide +kernel
theorem dX12_reads_28 : decode cX12_reads 28 = .ok (.getfield 182, 3) := by decide +kernel
theorem dX12_reads_31 : decode cX12_reads 31 = .ok (.iconst 1, 1) := by decide +kernel
theorem dX12_reads_32 : decode cX12_reads 32 = .ok (.iadd, 1) := by decide +kernel
theorem dX12_reads_33 : decode cX12_reads 33 = .ok (.putfield 182, 3) := by decide +kernel
theorem dX12_reads_36 : decode cX12_reads 36 = .ok (.goto (-36), 3) := by decide +kernel
theorem dX12_reads_39 : decode cX12_reads 39 = .ok (.aload_n 0, 1) := by decide +kernel
theorem dX12_reads_40 : decode cX12_reads 40 = .ok (.aload_n 0, 1) := by decide +kernel
theorem dX12_reads_41 : decode cX12_reads 41 = .ok (.getfield 182, 3) := by decide +kernel
theorem dX12_reads_44 : decode cX12_reads 44 = .ok (.putfield 188, 3) := by decide +kernel
theorem dX12_reads_47 : decode cX12_reads 47 = .ok (.aload_n 0, 1) := by decide +kernel
theorem dX12_reads_48 : decode cX12_reads 48 = .ok (.iconst 1, 1) := by decide +kernel
theorem dX12_reads_49 : decode cX12_reads 49 = .ok (.putfield 191, 3) := by decide +kernel
theorem dX12_reads_52 : decode cX12_reads 52 = .ok (.aload_n 0, 1) := by decide +kernel
theorem dX12_reads_53 : decode cX12_reads 53 = .ok (.aload_n 0, 1) := by decide +kernel
theorem dX12_reads_54 : decode cX12_reads 54 = .ok (.getfield 182, 3) := by decide +kernel
theorem dX12_reads_57 : decode cX12_reads 57 = .ok (.invokevirtual 185, 3) := by decide +kernel
theorem dX12_reads_60 : decode cX12_reads 60 = .ok (.istore_n 1, 1) := by decide +kernel
theorem dX12_reads_61 : decode cX12_reads 61 = .ok (.iload_n 1, 1) := by decide +kernel
theorem dX12_reads_62 : decode cX12_reads 62 = .ok (.iconst (-1), 1) := by decide +kernel
theorem dX12_reads_63 : decode cX12_reads 63 = .ok (.if_icmp .ne 9, 3) := by decide +kernel
theorem dX12_reads_66 : decode cX12_reads 66 = .ok (.aload_n 0, 1) := by decide +kernel
theorem dX12_reads_67 : decode cX12_reads 67 = .ok (.iconst 0, 1) := by decide +kernel
theorem dX12_reads_68 : decode cX12_reads 68 = .ok (.putfield 191, 3) := by decide +kernel
theorem dX12_reads_71 : decode cX12_reads 71 = .ok (.return_, 1) := by decide +kernel
theorem dX12_reads_72 : decode cX12_reads 72 = .ok (.aload_n 0, 1) := by decide +kernel
theorem dX12_reads_73 : decode cX12_reads 73 = .ok (.aload_n 0, 1) := by decide +kernel
theorem dX12_reads_74 : decode cX12_reads 74 = .ok (.getfield 182, 3) := by decide +kernel
theorem dX12_reads_77 : decode cX12_reads 77 = .ok (.iconst 1, 1) := by decide +kernel
theorem dX12_reads_78 : decode cX12_reads 78 = .ok (.iadd, 1) := by decide +kernel
theorem dX12_reads_79 : decode cX12_reads 79 = .ok (.putfield 182, 3) := by decide +kernel
theorem dX12_reads_82 : decode cX12_reads 82 = .ok (.aload_n 0, 1) := by decide +kernel
theorem dX12_reads_83 : decode cX12_reads 83 = .ok (.iload_n 1, 1) := by decide +kernel
theorem dX12_reads_84 : decode cX12_reads 84 = .ok (.putfield 194, 3) := by decide +kernel
theorem dX12_reads_87 : decode cX12_reads 87 = .ok (.aload_n 0, 1) := by decide +kernel
theorem dX12_reads_88 : decode cX12_reads 88 = .ok (.iload_n 1, 1) := by decide +kernel
theorem dX12_reads_89 : decode cX12_reads 89 = .ok (.invokevirtual 197, 3) := by decide +kernel
theorem dX12_reads_92 : decode cX12_reads 92 = .ok (.ifCond .eq 63, 3) := by decide +kernel
theorem dX12_reads_95 : decode cX12_reads 95 = .ok (.aload_n 0, 1) := by decide +kernel
theorem dX12_reads_96 : decode cX12_reads 96 = .ok (.aload_n 0, 1) := by decide +kernel
theorem dX12_reads_97 : decode cX12_reads 97 = .ok (.aload_n 0, 1) := by decide +kernel
theorem dX12_reads_98 : decode cX12_reads 98 = .ok (.getfield 182, 3) := by decide +kernel
theorem dX12_reads_101 : decode cX12_reads 101 = .ok (.invokevirtual 185, 3) := by decide +kernel
theorem dX12_reads_104 : decode cX12_reads 104 = .ok (.invokevirtual 197, 3) := by decide +kernel
theorem dX12_reads_107 : decode cX12_reads 107 = .ok (.ifCond .eq 16, 3) := by decide +kernel
theorem dX12_reads_110 : decode cX12_reads 110 = .ok (.aload_n 0, 1) := by decide +kernel
theorem dX12_reads_111 : decode cX12_reads 111 = .ok (.aload_n 0, 1) := by decide +kernel
theorem dX12_reads_112 : decode cX12_reads 112 = .ok (.getfield 182, 3) := by decide +kernel
theorem dX12_reads_115 : decode cX12_reads 115 = .ok (.iconst 1, 1) := by decide +kernel
theorem dX12_reads_116 : decode cX12_reads 116 = .ok (.iadd, 1) := by decide +kernel
theorem dX12_reads_117 : decode cX12_reads 117 = .ok (.putfield 182, 3) := by decide +kernel
theorem dX12_reads_120 : decode cX12_reads 120 = .ok (.goto (-25), 3) := by decide +kernel
theorem dX12_reads_123 : decode cX12_reads 123 = .ok (.aload_n 0, 1) := by decide +kernel
theorem dX12_reads_124 : decode cX12_reads 124 = .ok (.aload_n 0, 1) := by decide +kernel
theorem dX12_reads_125 : decode cX12_reads 125 = .ok (.aload_n 0, 1) := by decide +kernel
theorem dX12_reads_126 : decode cX12_reads 126 = .ok (.getfield 188, 3) := by decide +kernel
theorem dX12_reads_129 : decode cX12_reads 129 = .ok (.aload_n 0, 1) := by decide +kernel
theorem dX12_reads_130 : decode cX12_reads 130 = .ok (.getfield 182, 3) := by decide +kernel
theorem dX12_reads_133 : decode cX12_reads 133 = .ok (.invokevirtual 200, 3) := by decide +kernel
theorem dX12_reads_136 : decode cX12_reads 136 = .ok (.putfield 194, 3) := by decide +kernel
theorem dX12_reads_139 : decode cX12_reads 139 = .ok (.aload_n 0, 1) := by decide +kernel
theorem dX12_reads_140 : decode cX12_reads 140 = .ok (.getfield 194, 3) := by decide +kernel
theorem dX12_reads_143 : decode cX12_reads 143 = .ok (.iconst (-1), 1) := by decide +kernel
theorem dX12_reads_144 : decode cX12_reads 144 = .ok (.if_icmp .eq 129, 3) := by decide +kernel
theorem dX12_reads_147 : decode cX12_reads 147 = .ok (.aload_n 0, 1) := by decide +kernel
theorem dX12_reads_148 : decode cX12_reads 148 = .ok (.iconst 2, 1) := by decide +kernel
theorem dX12_reads_149 : decode cX12_reads 149 = .ok (.putfield 191, 3) := by decide +kernel
theorem dX12_reads_152 : decode cX12_reads 152 = .ok (.goto 121, 3) := by decide +kernel
theorem dX12_reads_155 : decode cX12_reads 155 = .ok (.aload_n 0, 1) := by decide +kernel
theorem dX12_reads_156 : decode cX12_reads 156 = .ok (.iload_n 1, 1) := by decide +kernel
theorem dX12_reads_157 : decode cX12_reads 157 = .ok (.invokevirtual 204, 3) := by decide +kernel
theorem dX12_reads_160 : decode cX12_reads 160 = .ok (.ifCond .eq 100, 3) := by decide +kernel
theorem dX12_reads_163 : decode cX12_reads 163 = .ok (.aload_n 0, 1) := by decide +kernel
theorem dX12_reads_164 : decode cX12_reads 164 = .ok (.iload_n 1, 1) := by decide +kernel
theorem dX12_reads_165 : decode cX12_reads 165 = .ok (.bipush 48, 2) := by decide +kernel
theorem dX12_reads_167 : decode cX12_reads 167 = .ok (.isub, 1) := by decide +kernel
theorem dX12_reads_168 : decode cX12_reads 168 = .ok (.putfield 194, 3) := by decide +kernel
theorem dX12_reads_171 : decode cX12_reads 171 = .ok (.aload_n 0, 1) := by decide +kernel
theorem dX12_reads_172 : decode cX12_reads 172 = .ok (.aload_n 0, 1) := by decide +kernel
theorem dX12_reads_173 : decode cX12_reads 173 = .ok (.aload_n 0, 1) := by decide +kernel
theorem dX12_reads_174 : decode cX12_reads 174 = .ok (.getfield 182, 3) := by decide +kernel
theorem dX12_reads_177 : decode cX12_reads 177 = .ok (.invokevirtual 185, 3) := by decide +kernel
theorem dX12_reads_180 : decode cX12_reads 180 = .ok (.invokevirtual 204, 3) := by decide +kernel
theorem dX12_reads_183 : decode cX12_reads 183 = .ok (.ifCond .eq 56, 3) := by decide +kernel
theorem dX12_reads_186 : decode cX12_reads 186 = .ok (.aload_n 0, 1) := by decide +kernel
theorem dX12_reads_187 : decode cX12_reads 187 = .ok (.aload_n 0, 1) := by decide +kernel
theorem dX12_reads_188 : decode cX12_reads 188 = .ok (.getfield 194, 3) := by decide +kernel
theorem dX12_reads_191 : decode cX12_reads 191 = .ok (.sipush 10000, 3) := by decide +kernel
theorem dX12_reads_194 : decode cX12_reads 194 = .ok (.if_icmp .ge 25, 3) := by decide +kernel
theorem dX12_reads_197 : decode cX12_reads 197 = .ok (.bipush 10, 2) := by decide +kernel
theorem dX12_reads_199 : decode cX12_reads 199 = .ok (.aload_n 0, 1) := by decide +kernel
theorem dX12_reads_200 : decode cX12_reads 200 = .ok (.getfield 194, 3) := by decide +kernel
theorem dX12_reads_203 : decode cX12_reads 203 = .ok (.imul, 1) := by decide +kernel
theorem dX12_reads_204 : decode cX12_reads 204 = .ok (.aload_n 0, 1) := by decide +kernel
theorem dX12_reads_205 : decode cX12_reads 205 = .ok (.aload_n 0, 1) := by decide +kernel
theorem dX12_reads_206 : decode cX12_reads 206 = .ok (.getfield 182, 3) := by decide +kernel
theorem dX12_reads_209 : decode cX12_reads 209 = .ok (.invokevirtual 185, 3) := by decide +kernel
theorem dX12_reads_212 : decode cX12_reads 212 = .ok (.iadd, 1) := by decide +kernel
theorem dX12_reads_213 : decode cX12_reads 213 = .ok (.bipush 48, 2) := by decide +kernel
theorem dX12_reads_215 : decode cX12_reads 215 = .ok (.isub, 1) := by decide +kernel
theorem dX12_reads_216 : decode cX12_reads 216 = .ok (.goto 7, 3) := by decide +kernel
theorem dX12_reads_219 : decode cX12_reads 219 = .ok (.aload_n 0, 1) := by decide +kernel
theorem dX12_reads_220 : decode cX12_reads 220 = .ok (.getfield 194, 3) := by decide +kernel
theorem dX12_reads_223 : decode cX12_reads 223 = .ok (.putfield 194, 3) := by decide +kernel
theorem dX12_reads_226 : decode cX12_reads 226 = .ok (.aload_n 0, 1) := by decide +kernel
theorem dX12_reads_227 : decode cX12_reads 227 = .ok (.aload_n 0, 1) := by decide +kernel
theorem dX12_reads_228 : decode cX12_reads 228 = .ok (.getfield 182, 3) := by decide +kernel
theorem dX12_reads_231 : decode cX12_reads 231 = .ok (.iconst 1, 1) := by decide +kernel
theorem dX12_reads_232 : decode cX12_reads 232 = .ok (.iadd, 1) := by decide +kernel
theorem dX12_reads_233 : decode cX12_reads 233 = .ok (.putfield 182, 3) := by decide +kernel
theorem dX12_reads_236 : decode cX12_reads 236 = .ok (.goto (-65), 3) := by decide +kernel
theorem dX12_reads_239 : decode cX12_reads 239 = .ok (.aload_n 0, 1) := by decide +kernel
theorem dX12_reads_240 : decode cX12_reads 240 = .ok (.getfield 182, 3) := by decide +kernel
theorem dX12_reads_243 : decode cX12_reads 243 = .ok (.aload_n 0, 1) := by decide +kernel
theorem dX12_reads_244 : decode cX12_reads 244 = .ok (.getfield 188, 3) := by decide +kernel
theorem dX12_reads_247 : decode cX12_reads 247 = .ok (.isub, 1) := by decide +kernel
theorem dX12_reads_248 : decode cX12_reads 248 = .ok (.iconst 5, 1) := by decide +kernel
theorem dX12_reads_249 : decode cX12_reads 249 = .ok (.if_icmp .ge 24, 3) := by decide +kernel
theorem dX12_reads_252 : decode cX12_reads 252 = .ok (.aload_n 0, 1) := by decide +kernel
theorem dX12_reads_253 : decode cX12_reads 253 = .ok (.iconst 3, 1) := by decide +kernel
theorem dX12_reads_254 : decode cX12_reads 254 = .ok (.putfield 191, 3) := by decide +kernel
theorem dX12_reads_257 : decode cX12_reads 257 = .ok (.goto 16, 3) := by decide +kernel
theorem dX12_reads_260 : decode cX12_reads 260 = .ok (.aload_n 0, 1) := by decide +kernel
theorem dX12_reads_261 : decode cX12_reads 261 = .ok (.iload_n 1, 1) := by decide +kernel
theorem dX12_reads_262 : decode cX12_reads 262 = .ok (.invokevirtual 207, 3) := by decide +kernel
theorem dX12_reads_265 : decode cX12_reads 265 = .ok (.ifCond .eq 8, 3) := by decide +kernel
theorem dX12_reads_268 : decode cX12_reads 268 = .ok (.aload_n 0, 1) := by decide +kernel
theorem dX12_reads_269 : decode cX12_reads 269 = .ok (.iconst 4, 1) := by decide +kernel
theorem dX12_reads_270 : decode cX12_reads 270 = .ok (.putfield 191, 3) := by decide +kernel
theorem dX12_reads_273 : decode cX12_reads 273 = .ok (.return_, 1) := by decide +kernel
theorem dX12_fails_0 : decode cX12_fails 0 = .ok (.aload_n 0, 1) := by decide +kernel
theorem dX12_fails_1 : decode cX12_fails 1 = .ok (.iload_n 1, 1) := by decide +kernel
theorem dX12_fails_2 : decode cX12_fails 2 = .ok (.putfield 210, 3) := by decide +kernel
theorem dX12_fails_5 : decode cX12_fails 5 = .ok (.aload_n 0, 1) := by decide +kernel
theorem dX12_fails_6 : decode cX12_fails 6 = .ok (.aload_n 0, 1) := by decide +kernel
theorem dX12_fails_7 : decode cX12_fails 7 = .ok (.getfield 188, 3) := by decide +kernel
theorem dX12_fails_10 : decode cX12_fails 10 = .ok (.putfield 213, 3) := by decide +kernel
theorem dX12_fails_13 : decode cX12_fails 13 = .ok (.iconst (-1), 1) := by decide +kernel
theorem dX12_fails_14 : decode cX12_fails 14 = .ok (.ireturn, 1) := by decide +kernel
theorem dX12_isWord_0 : decode cX12_isWord 0 = .ok (.aload_n 0, 1) := by decide +kernel
theorem dX12_isWord_1 : decode cX12_isWord 1 = .ok (.getfield 191, 3) := by decide +kernel
theorem dX12_isWord_4 : decode cX12_isWord 4 = .ok (.iconst 2, 1) := by decide +kernel
theorem dX12_isWord_5 : decode cX12_isWord 5 = .ok (.if_icmp .ne 15, 3) := by decide +kernel
theorem dX12_isWord_8 : decode cX12_isWord 8 = .ok (.aload_n 0, 1) := by decide +kernel
theorem dX12_isWord_9 : decode cX12_isWord 9 = .ok (.getfield 194, 3) := by decide +kernel
theorem dX12_isWord_12 : decode cX12_isWord 12 = .ok (.iload_n 1, 1) := by decide +kernel
theorem dX12_isWord_13 : decode cX12_isWord 13 = .ok (.if_icmp .ne 7, 3) := by decide +kernel
theorem dX12_isWord_16 : decode cX12_isWord 16 = .ok (.iconst 1, 1) := by decide +kernel
theorem dX12_isWord_17 : decode cX12_isWord 17 = .ok (.goto 4, 3) := by decide +kernel
theorem dX12_isWord_20 : decode cX12_isWord 20 = .ok (.iconst 0, 1) := by decide +kernel
theorem dX12_isWord_21 : decode cX12_isWord 21 = .ok (.ireturn, 1) := by decide +kernel
theorem dX12_isSign_0 : decode cX12_isSign 0 = .ok (.aload_n 0, 1) := by decide +kernel
theorem dX12_isSign_1 : decode cX12_isSign 1 = .ok (.getfield 191, 3) := by decide +kernel
theorem dX12_isSign_4 : decode cX12_isSign 4 = .ok (.iconst 4, 1) := by decide +kernel
theorem dX12_isSign_5 : decode cX12_isSign 5 = .ok (.if_icmp .ne 15, 3) := by decide +kernel
theorem dX12_isSign_8 : decode cX12_isSign 8 = .ok (.aload_n 0, 1) := by decide +kernel
theorem dX12_isSign_9 : decode cX12_isSign 9 = .ok (.getfield 194, 3) := by decide +kernel
theorem dX12_isSign_12 : decode cX12_isSign 12 = .ok (.iload_n 1, 1) := by decide +kernel
theorem dX12_isSign_13 : decode cX12_isSign 13 = .ok (.if_icmp .ne 7, 3) := by decide +kernel
theorem dX12_isSign_16 : decode cX12_isSign 16 = .ok (.iconst 1, 1) := by decide +kernel
theorem dX12_isSign_17 : decode cX12_isSign 17 = .ok (.goto 4, 3) := by decide +kernel
theorem dX12_isSign_20 : decode cX12_isSign 20 = .ok (.iconst 0, 1) := by decide +kernel
theorem dX12_isSign_21 : decode cX12_isSign 21 = .ok (.ireturn, 1) := by decide +kernel
theorem dX12_emits_0 : decode cX12_emits 0 = .ok (.aload_n 0, 1) := by decide +kernel
theorem dX12_emits_1 : decode cX12_emits 1 = .ok (.getfield 70, 3) := by decide +kernel
theorem dX12_emits_4 : decode cX12_emits 4 = .ok (.sipush 4200, 3) := by decide +kernel
theorem dX12_emits_7 : decode cX12_emits 7 = .ok (.aload_n 0, 1) := by decide +kernel
theorem dX12_emits_8 : decode cX12_emits 8 = .ok (.getfield 216, 3) := by decide +kernel
theorem dX12_emits_11 : decode cX12_emits 11 = .ok (.iadd, 1) := by decide +kernel
theorem dX12_emits_12 : decode cX12_emits 12 = .ok (.iload_n 1, 1) := by decide +kernel
theorem dX12_emits_13 : decode cX12_emits 13 = .ok (.iastore, 1) := by decide +kernel
theorem dX12_emits_14 : decode cX12_emits 14 = .ok (.aload_n 0, 1) := by decide +kernel
theorem dX12_emits_15 : decode cX12_emits 15 = .ok (.getfield 73, 3) := by decide +kernel
theorem dX12_emits_18 : decode cX12_emits 18 = .ok (.sipush 4200, 3) := by decide +kernel
theorem dX12_emits_21 : decode cX12_emits 21 = .ok (.aload_n 0, 1) := by decide +kernel
theorem dX12_emits_22 : decode cX12_emits 22 = .ok (.getfield 216, 3) := by decide +kernel
theorem dX12_emits_25 : decode cX12_emits 25 = .ok (.iadd, 1) := by decide +kernel
theorem dX12_emits_26 : decode cX12_emits 26 = .ok (.iload_n 2, 1) := by decide +kernel
theorem dX12_emits_27 : decode cX12_emits 27 = .ok (.iastore, 1) := by decide +kernel
theorem dX12_emits_28 : decode cX12_emits 28 = .ok (.aload_n 0, 1) := by decide +kernel
theorem dX12_emits_29 : decode cX12_emits 29 = .ok (.aload_n 0, 1) := by decide +kernel
theorem dX12_emits_30 : decode cX12_emits 30 = .ok (.getfield 216, 3) := by decide +kernel
theorem dX12_emits_33 : decode cX12_emits 33 = .ok (.iconst 1, 1) := by decide +kernel
theorem dX12_emits_34 : decode cX12_emits 34 = .ok (.iadd, 1) := by decide +kernel
theorem dX12_emits_35 : decode cX12_emits 35 = .ok (.putfield 216, 3) := by decide +kernel
theorem dX12_emits_38 : decode cX12_emits 38 = .ok (.return_, 1) := by decide +kernel
theorem dX12_readUnit_0 : decode cX12_readUnit 0 = .ok (.aload_n 0, 1) := by decide +kernel
theorem dX12_readUnit_1 : decode cX12_readUnit 1 = .ok (.getfield 191, 3) := by decide +kernel
theorem dX12_readUnit_4 : decode cX12_readUnit 4 = .ok (.iconst 2, 1) := by decide +kernel
theorem dX12_readUnit_5 : decode cX12_readUnit 5 = .ok (.if_icmp .ne 41, 3) := by decide +kernel
theorem dX12_readUnit_8 : decode cX12_readUnit 8 = .ok (.aload_n 0, 1) := by decide +kernel
theorem dX12_readUnit_9 : decode cX12_readUnit 9 = .ok (.getfield 219, 3) := by decide +kernel
theorem dX12_readUnit_12 : decode cX12_readUnit 12 = .ok (.ifCond .eq 21, 3) := by decide +kernel
theorem dX12_readUnit_15 : decode cX12_readUnit 15 = .ok (.aload_n 0, 1) := by decide +kernel
theorem dX12_readUnit_16 : decode cX12_readUnit 16 = .ok (.aload_n 0, 1) := by decide +kernel
theorem dX12_readUnit_17 : decode cX12_readUnit 17 = .ok (.getfield 194, 3) := by decide +kernel
theorem dX12_readUnit_20 : decode cX12_readUnit 20 = .ok (.bipush 9, 2) := by decide +kernel
theorem dX12_readUnit_22 : decode cX12_readUnit 22 = .ok (.bipush 16, 2) := by decide +kernel
theorem dX12_readUnit_24 : decode cX12_readUnit 24 = .ok (.invokevirtual 144, 3) := by decide +kernel
theorem dX12_readUnit_27 : decode cX12_readUnit 27 = .ok (.ifCond .eq 19, 3) := by decide +kernel
theorem dX12_readUnit_30 : decode cX12_readUnit 30 = .ok (.goto 12, 3) := by decide +kernel
theorem dX12_readUnit_33 : decode cX12_readUnit 33 = .ok (.aload_n 0, 1) := by decide +kernel
theorem dX12_readUnit_34 : decode cX12_readUnit 34 = .ok (.getfield 194, 3) := by decide +kernel
theorem dX12_readUnit_37 : decode cX12_readUnit 37 = .ok (.bipush 17, 2) := by decide +kernel
theorem dX12_readUnit_39 : decode cX12_readUnit 39 = .ok (.if_icmp .lt 7, 3) := by decide +kernel
theorem dX12_readUnit_42 : decode cX12_readUnit 42 = .ok (.iconst 1, 1) := by decide +kernel
theorem dX12_readUnit_43 : decode cX12_readUnit 43 = .ok (.goto 4, 3) := by decide +kernel
theorem dX12_readUnit_46 : decode cX12_readUnit 46 = .ok (.iconst 0, 1) := by decide +kernel
theorem dX12_readUnit_47 : decode cX12_readUnit 47 = .ok (.istore_n 1, 1) := by decide +kernel
theorem dX12_readUnit_48 : decode cX12_readUnit 48 = .ok (.iload_n 1, 1) := by decide +kernel
theorem dX12_readUnit_49 : decode cX12_readUnit 49 = .ok (.ifCond .ne 17, 3) := by decide +kernel
theorem dX12_readUnit_52 : decode cX12_readUnit 52 = .ok (.aload_n 0, 1) := by decide +kernel
theorem dX12_readUnit_53 : decode cX12_readUnit 53 = .ok (.getfield 191, 3) := by decide +kernel
theorem dX12_readUnit_56 : decode cX12_readUnit 56 = .ok (.iconst 3, 1) := by decide +kernel
theorem dX12_readUnit_57 : decode cX12_readUnit 57 = .ok (.if_icmp .eq 9, 3) := by decide +kernel
theorem dX12_readUnit_60 : decode cX12_readUnit 60 = .ok (.aload_n 0, 1) := by decide +kernel
theorem dX12_readUnit_61 : decode cX12_readUnit 61 = .ok (.iconst 1, 1) := by decide +kernel
theorem dX12_readUnit_62 : decode cX12_readUnit 62 = .ok (.invokevirtual 223, 3) := by decide +kernel
theorem dX12_readUnit_65 : decode cX12_readUnit 65 = .ok (.ireturn, 1) := by decide +kernel
theorem dX12_readUnit_66 : decode cX12_readUnit 66 = .ok (.aload_n 0, 1) := by decide +kernel
theorem dX12_readUnit_67 : decode cX12_readUnit 67 = .ok (.iload_n 1, 1) := by decide +kernel
theorem dX12_readUnit_68 : decode cX12_readUnit 68 = .ok (.ifCond .eq 7, 3) := by decide +kernel
theorem dX12_readUnit_71 : decode cX12_readUnit 71 = .ok (.iconst 1, 1) := by decide +kernel
theorem dX12_readUnit_72 : decode cX12_readUnit 72 = .ok (.goto 4, 3) := by decide +kernel
theorem dX12_readUnit_75 : decode cX12_readUnit 75 = .ok (.iconst 0, 1) := by decide +kernel
theorem dX12_readUnit_76 : decode cX12_readUnit 76 = .ok (.iload_n 1, 1) := by decide +kernel
theorem dX12_readUnit_77 : decode cX12_readUnit 77 = .ok (.ifCond .eq 13, 3) := by decide +kernel
theorem dX12_readUnit_80 : decode cX12_readUnit 80 = .ok (.aload_n 0, 1) := by decide +kernel
theorem dX12_readUnit_81 : decode cX12_readUnit 81 = .ok (.getfield 194, 3) := by decide +kernel
theorem dX12_readUnit_84 : decode cX12_readUnit 84 = .ok (.bipush 9, 2) := by decide +kernel
theorem dX12_readUnit_86 : decode cX12_readUnit 86 = .ok (.isub, 1) := by decide +kernel
theorem dX12_readUnit_87 : decode cX12_readUnit 87 = .ok (.goto 7, 3) := by decide +kernel
theorem dX12_readUnit_90 : decode cX12_readUnit 90 = .ok (.aload_n 0, 1) := by decide +kernel
theorem dX12_readUnit_91 : decode cX12_readUnit 91 = .ok (.getfield 194, 3) := by decide +kernel
theorem dX12_readUnit_94 : decode cX12_readUnit 94 = .ok (.invokevirtual 226, 3) := by decide +kernel
theorem dX12_readUnit_97 : decode cX12_readUnit 97 = .ok (.aload_n 0, 1) := by decide +kernel
theorem dX12_readUnit_98 : decode cX12_readUnit 98 = .ok (.invokevirtual 230, 3) := by decide +kernel
theorem dX12_readUnit_101 : decode cX12_readUnit 101 = .ok (.iconst 0, 1) := by decide +kernel
theorem dX12_readUnit_102 : decode cX12_readUnit 102 = .ok (.ireturn, 1) := by decide +kernel
theorem dX12_readProduct_0 : decode cX12_readProduct 0 = .ok (.aload_n 0, 1) := by decide +kernel
theorem dX12_readProduct_1 : decode cX12_readProduct 1 = .ok (.invokevirtual 233, 3) := by decide +kernel
theorem dX12_readProduct_4 : decode cX12_readProduct 4 = .ok (.iconst (-1), 1) := by decide +kernel
theorem dX12_readProduct_5 : decode cX12_readProduct 5 = .ok (.if_icmp .ne 5, 3) := by decide +kernel
theorem dX12_readProduct_8 : decode cX12_readProduct 8 = .ok (.iconst (-1), 1) := by decide +kernel
theorem dX12_readProduct_9 : decode cX12_readProduct 9 = .ok (.ireturn, 1) := by decide +kernel
theorem dX12_readProduct_10 : decode cX12_readProduct 10 = .ok (.aload_n 0, 1) := by decide +kernel
theorem dX12_readProduct_11 : decode cX12_readProduct 11 = .ok (.bipush 42, 2) := by decide +kernel
theorem dX12_readProduct_13 : decode cX12_readProduct 13 = .ok (.invokevirtual 237, 3) := by decide +kernel
theorem dX12_readProduct_16 : decode cX12_readProduct 16 = .ok (.ifCond .ne 12, 3) := by decide +kernel
theorem dX12_readProduct_19 : decode cX12_readProduct 19 = .ok (.aload_n 0, 1) := by decide +kernel
