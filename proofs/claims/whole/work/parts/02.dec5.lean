theorem smd_V_firstPoint_0 : decode prog_5_method_9_code 0 = .ok (.iconst 0, 1) := by decide +kernel
theorem smd_V_firstPoint_1 : decode prog_5_method_9_code 1 = .ok (.istore_n 3, 1) := by decide +kernel
theorem smd_V_firstPoint_2 : decode prog_5_method_9_code 2 = .ok (.iload_n 3, 1) := by decide +kernel
theorem smd_V_firstPoint_3 : decode prog_5_method_9_code 3 = .ok (.aload_n 0, 1) := by decide +kernel
theorem smd_V_firstPoint_4 : decode prog_5_method_9_code 4 = .ok (.getfield 9, 3) := by decide +kernel
theorem smd_V_firstPoint_7 : decode prog_5_method_9_code 7 = .ok (.iload_n 1, 1) := by decide +kernel
theorem smd_V_firstPoint_8 : decode prog_5_method_9_code 8 = .ok (.iaload, 1) := by decide +kernel
theorem smd_V_firstPoint_9 : decode prog_5_method_9_code 9 = .ok (.if_icmp .ge 40, 3) := by decide +kernel
theorem smd_V_firstPoint_12 : decode prog_5_method_9_code 12 = .ok (.aload_n 0, 1) := by decide +kernel
theorem smd_V_firstPoint_13 : decode prog_5_method_9_code 13 = .ok (.getfield 15, 3) := by decide +kernel
theorem smd_V_firstPoint_16 : decode prog_5_method_9_code 16 = .ok (.iload_n 1, 1) := by decide +kernel
theorem smd_V_firstPoint_17 : decode prog_5_method_9_code 17 = .ok (.iload_n 3, 1) := by decide +kernel
theorem smd_V_firstPoint_18 : decode prog_5_method_9_code 18 = .ok (.invokestatic 34, 3) := by decide +kernel
theorem smd_V_firstPoint_21 : decode prog_5_method_9_code 21 = .ok (.iaload, 1) := by decide +kernel
theorem smd_V_firstPoint_22 : decode prog_5_method_9_code 22 = .ok (.bipush 12, 2) := by decide +kernel
theorem smd_V_firstPoint_24 : decode prog_5_method_9_code 24 = .ok (.if_icmp .ne 19, 3) := by decide +kernel
theorem smd_V_firstPoint_27 : decode prog_5_method_9_code 27 = .ok (.aload_n 0, 1) := by decide +kernel
theorem smd_V_firstPoint_28 : decode prog_5_method_9_code 28 = .ok (.getfield 18, 3) := by decide +kernel
theorem smd_V_firstPoint_31 : decode prog_5_method_9_code 31 = .ok (.iload_n 1, 1) := by decide +kernel
theorem smd_V_firstPoint_32 : decode prog_5_method_9_code 32 = .ok (.iload_n 3, 1) := by decide +kernel
theorem smd_V_firstPoint_33 : decode prog_5_method_9_code 33 = .ok (.invokestatic 34, 3) := by decide +kernel
theorem smd_V_firstPoint_36 : decode prog_5_method_9_code 36 = .ok (.iaload, 1) := by decide +kernel
theorem smd_V_firstPoint_37 : decode prog_5_method_9_code 37 = .ok (.iload_n 2, 1) := by decide +kernel
theorem smd_V_firstPoint_38 : decode prog_5_method_9_code 38 = .ok (.if_icmp .ne 5, 3) := by decide +kernel
theorem smd_V_firstPoint_41 : decode prog_5_method_9_code 41 = .ok (.iload_n 3, 1) := by decide +kernel
theorem smd_V_firstPoint_42 : decode prog_5_method_9_code 42 = .ok (.ireturn, 1) := by decide +kernel
theorem smd_V_firstPoint_43 : decode prog_5_method_9_code 43 = .ok (.iinc 3 1, 3) := by decide +kernel
theorem smd_V_firstPoint_46 : decode prog_5_method_9_code 46 = .ok (.goto (-44), 3) := by decide +kernel
theorem smd_V_firstPoint_49 : decode prog_5_method_9_code 49 = .ok (.iconst (-1), 1) := by decide +kernel
theorem smd_V_firstPoint_50 : decode prog_5_method_9_code 50 = .ok (.ireturn, 1) := by decide +kernel
theorem smd_V_firstWrongWord_0 : decode prog_5_method_10_code 0 = .ok (.iconst 0, 1) := by decide +kernel
theorem smd_V_firstWrongWord_1 : decode prog_5_method_10_code 1 = .ok (.istore_n 1, 1) := by decide +kernel
theorem smd_V_firstWrongWord_2 : decode prog_5_method_10_code 2 = .ok (.iload_n 1, 1) := by decide +kernel
theorem smd_V_firstWrongWord_3 : decode prog_5_method_10_code 3 = .ok (.bipush 6, 2) := by decide +kernel
theorem smd_V_firstWrongWord_5 : decode prog_5_method_10_code 5 = .ok (.if_icmp .ge 77, 3) := by decide +kernel
theorem smd_V_firstWrongWord_8 : decode prog_5_method_10_code 8 = .ok (.iconst 0, 1) := by decide +kernel
theorem smd_V_firstWrongWord_9 : decode prog_5_method_10_code 9 = .ok (.istore_n 2, 1) := by decide +kernel
theorem smd_V_firstWrongWord_10 : decode prog_5_method_10_code 10 = .ok (.iload_n 2, 1) := by decide +kernel
theorem smd_V_firstWrongWord_11 : decode prog_5_method_10_code 11 = .ok (.aload_n 0, 1) := by decide +kernel
theorem smd_V_firstWrongWord_12 : decode prog_5_method_10_code 12 = .ok (.getfield 9, 3) := by decide +kernel
theorem smd_V_firstWrongWord_15 : decode prog_5_method_10_code 15 = .ok (.iload_n 1, 1) := by decide +kernel
theorem smd_V_firstWrongWord_16 : decode prog_5_method_10_code 16 = .ok (.iaload, 1) := by decide +kernel
theorem smd_V_firstWrongWord_17 : decode prog_5_method_10_code 17 = .ok (.if_icmp .ge 59, 3) := by decide +kernel
theorem smd_V_firstWrongWord_20 : decode prog_5_method_10_code 20 = .ok (.iload_n 1, 1) := by decide +kernel
theorem smd_V_firstWrongWord_21 : decode prog_5_method_10_code 21 = .ok (.iload_n 2, 1) := by decide +kernel
theorem smd_V_firstWrongWord_22 : decode prog_5_method_10_code 22 = .ok (.invokestatic 34, 3) := by decide +kernel
theorem smd_V_firstWrongWord_25 : decode prog_5_method_10_code 25 = .ok (.istore_n 3, 1) := by decide +kernel
theorem smd_V_firstWrongWord_26 : decode prog_5_method_10_code 26 = .ok (.iload_n 2, 1) := by decide +kernel
theorem smd_V_firstWrongWord_27 : decode prog_5_method_10_code 27 = .ok (.aload_n 0, 1) := by decide +kernel
theorem smd_V_firstWrongWord_28 : decode prog_5_method_10_code 28 = .ok (.getfield 9, 3) := by decide +kernel
theorem smd_V_firstWrongWord_31 : decode prog_5_method_10_code 31 = .ok (.iload_n 1, 1) := by decide +kernel
theorem smd_V_firstWrongWord_32 : decode prog_5_method_10_code 32 = .ok (.iaload, 1) := by decide +kernel
theorem smd_V_firstWrongWord_33 : decode prog_5_method_10_code 33 = .ok (.iconst 1, 1) := by decide +kernel
theorem smd_V_firstWrongWord_34 : decode prog_5_method_10_code 34 = .ok (.isub, 1) := by decide +kernel
theorem smd_V_firstWrongWord_35 : decode prog_5_method_10_code 35 = .ok (.if_icmp .ne 16, 3) := by decide +kernel
theorem smd_V_firstWrongWord_38 : decode prog_5_method_10_code 38 = .ok (.aload_n 0, 1) := by decide +kernel
theorem smd_V_firstWrongWord_39 : decode prog_5_method_10_code 39 = .ok (.getfield 15, 3) := by decide +kernel
theorem smd_V_firstWrongWord_42 : decode prog_5_method_10_code 42 = .ok (.iload_n 3, 1) := by decide +kernel
theorem smd_V_firstWrongWord_43 : decode prog_5_method_10_code 43 = .ok (.iaload, 1) := by decide +kernel
theorem smd_V_firstWrongWord_44 : decode prog_5_method_10_code 44 = .ok (.ifCond .eq 7, 3) := by decide +kernel
theorem smd_V_firstWrongWord_47 : decode prog_5_method_10_code 47 = .ok (.iconst 1, 1) := by decide +kernel
theorem smd_V_firstWrongWord_48 : decode prog_5_method_10_code 48 = .ok (.goto 4, 3) := by decide +kernel
theorem smd_V_firstWrongWord_51 : decode prog_5_method_10_code 51 = .ok (.iconst 0, 1) := by decide +kernel
theorem smd_V_firstWrongWord_52 : decode prog_5_method_10_code 52 = .ok (.istore 4, 2) := by decide +kernel
theorem smd_V_firstWrongWord_54 : decode prog_5_method_10_code 54 = .ok (.iload 4, 2) := by decide +kernel
theorem smd_V_firstWrongWord_56 : decode prog_5_method_10_code 56 = .ok (.ifCond .ne 12, 3) := by decide +kernel
theorem smd_V_firstWrongWord_59 : decode prog_5_method_10_code 59 = .ok (.aload_n 0, 1) := by decide +kernel
theorem smd_V_firstWrongWord_60 : decode prog_5_method_10_code 60 = .ok (.iload_n 1, 1) := by decide +kernel
theorem smd_V_firstWrongWord_61 : decode prog_5_method_10_code 61 = .ok (.iload_n 3, 1) := by decide +kernel
theorem smd_V_firstWrongWord_62 : decode prog_5_method_10_code 62 = .ok (.invokevirtual 53, 3) := by decide +kernel
theorem smd_V_firstWrongWord_65 : decode prog_5_method_10_code 65 = .ok (.ifCond .ne 5, 3) := by decide +kernel
theorem smd_V_firstWrongWord_68 : decode prog_5_method_10_code 68 = .ok (.iload_n 3, 1) := by decide +kernel
theorem smd_V_firstWrongWord_69 : decode prog_5_method_10_code 69 = .ok (.ireturn, 1) := by decide +kernel
theorem smd_V_firstWrongWord_70 : decode prog_5_method_10_code 70 = .ok (.iinc 2 1, 3) := by decide +kernel
theorem smd_V_firstWrongWord_73 : decode prog_5_method_10_code 73 = .ok (.goto (-63), 3) := by decide +kernel
theorem smd_V_firstWrongWord_76 : decode prog_5_method_10_code 76 = .ok (.iinc 1 1, 3) := by decide +kernel
theorem smd_V_firstWrongWord_79 : decode prog_5_method_10_code 79 = .ok (.goto (-77), 3) := by decide +kernel
theorem smd_V_firstWrongWord_82 : decode prog_5_method_10_code 82 = .ok (.iconst (-1), 1) := by decide +kernel
theorem smd_V_firstWrongWord_83 : decode prog_5_method_10_code 83 = .ok (.ireturn, 1) := by decide +kernel
theorem smd_V_isRight_0 : decode prog_5_method_11_code 0 = .ok (.aload_n 0, 1) := by decide +kernel
theorem smd_V_isRight_1 : decode prog_5_method_11_code 1 = .ok (.getfield 15, 3) := by decide +kernel
theorem smd_V_isRight_4 : decode prog_5_method_11_code 4 = .ok (.iload_n 2, 1) := by decide +kernel
theorem smd_V_isRight_5 : decode prog_5_method_11_code 5 = .ok (.iaload, 1) := by decide +kernel
theorem smd_V_isRight_6 : decode prog_5_method_11_code 6 = .ok (.tableswitch 327 0 12 #[66, 66, 76, 76, 118, 154, 197, 242, 242, 285, 285, 66, 316], 66) := by decide +kernel
theorem smd_V_isRight_72 : decode prog_5_method_11_code 72 = .ok (.aload_n 0, 1) := by decide +kernel
theorem smd_V_isRight_73 : decode prog_5_method_11_code 73 = .ok (.getfield 18, 3) := by decide +kernel
theorem smd_V_isRight_76 : decode prog_5_method_11_code 76 = .ok (.iload_n 2, 1) := by decide +kernel
theorem smd_V_isRight_77 : decode prog_5_method_11_code 77 = .ok (.iaload, 1) := by decide +kernel
theorem smd_V_isRight_78 : decode prog_5_method_11_code 78 = .ok (.invokestatic 56, 3) := by decide +kernel
theorem smd_V_isRight_81 : decode prog_5_method_11_code 81 = .ok (.ireturn, 1) := by decide +kernel
theorem smd_V_isRight_82 : decode prog_5_method_11_code 82 = .ok (.aload_n 0, 1) := by decide +kernel
theorem smd_V_isRight_83 : decode prog_5_method_11_code 83 = .ok (.getfield 18, 3) := by decide +kernel
theorem smd_V_isRight_86 : decode prog_5_method_11_code 86 = .ok (.iload_n 2, 1) := by decide +kernel
theorem smd_V_isRight_87 : decode prog_5_method_11_code 87 = .ok (.iaload, 1) := by decide +kernel
theorem smd_V_isRight_88 : decode prog_5_method_11_code 88 = .ok (.invokestatic 56, 3) := by decide +kernel
theorem smd_V_isRight_91 : decode prog_5_method_11_code 91 = .ok (.ifCond .eq 31, 3) := by decide +kernel
theorem smd_V_isRight_94 : decode prog_5_method_11_code 94 = .ok (.aload_n 0, 1) := by decide +kernel
theorem smd_V_isRight_95 : decode prog_5_method_11_code 95 = .ok (.getfield 21, 3) := by decide +kernel
theorem smd_V_isRight_98 : decode prog_5_method_11_code 98 = .ok (.iload_n 2, 1) := by decide +kernel
theorem smd_V_isRight_99 : decode prog_5_method_11_code 99 = .ok (.iaload, 1) := by decide +kernel
theorem smd_V_isRight_100 : decode prog_5_method_11_code 100 = .ok (.invokestatic 56, 3) := by decide +kernel
theorem smd_V_isRight_103 : decode prog_5_method_11_code 103 = .ok (.ifCond .eq 19, 3) := by decide +kernel
theorem smd_V_isRight_106 : decode prog_5_method_11_code 106 = .ok (.aload_n 0, 1) := by decide +kernel
theorem smd_V_isRight_107 : decode prog_5_method_11_code 107 = .ok (.getfield 24, 3) := by decide +kernel
theorem smd_V_isRight_110 : decode prog_5_method_11_code 110 = .ok (.iload_n 2, 1) := by decide +kernel
theorem smd_V_isRight_111 : decode prog_5_method_11_code 111 = .ok (.iaload, 1) := by decide +kernel
theorem smd_V_isRight_112 : decode prog_5_method_11_code 112 = .ok (.invokestatic 56, 3) := by decide +kernel
theorem smd_V_isRight_115 : decode prog_5_method_11_code 115 = .ok (.ifCond .eq 7, 3) := by decide +kernel
theorem smd_V_isRight_118 : decode prog_5_method_11_code 118 = .ok (.iconst 1, 1) := by decide +kernel
theorem smd_V_isRight_119 : decode prog_5_method_11_code 119 = .ok (.goto 4, 3) := by decide +kernel
theorem smd_V_isRight_122 : decode prog_5_method_11_code 122 = .ok (.iconst 0, 1) := by decide +kernel
theorem smd_V_isRight_123 : decode prog_5_method_11_code 123 = .ok (.ireturn, 1) := by decide +kernel
theorem smd_V_isRight_124 : decode prog_5_method_11_code 124 = .ok (.aload_n 0, 1) := by decide +kernel
theorem smd_V_isRight_125 : decode prog_5_method_11_code 125 = .ok (.getfield 18, 3) := by decide +kernel
theorem smd_V_isRight_128 : decode prog_5_method_11_code 128 = .ok (.iload_n 2, 1) := by decide +kernel
theorem smd_V_isRight_129 : decode prog_5_method_11_code 129 = .ok (.iaload, 1) := by decide +kernel
theorem smd_V_isRight_130 : decode prog_5_method_11_code 130 = .ok (.invokestatic 56, 3) := by decide +kernel
theorem smd_V_isRight_133 : decode prog_5_method_11_code 133 = .ok (.ifCond .eq 25, 3) := by decide +kernel
theorem smd_V_isRight_136 : decode prog_5_method_11_code 136 = .ok (.aload_n 0, 1) := by decide +kernel
theorem smd_V_isRight_137 : decode prog_5_method_11_code 137 = .ok (.getfield 21, 3) := by decide +kernel
theorem smd_V_isRight_140 : decode prog_5_method_11_code 140 = .ok (.iload_n 2, 1) := by decide +kernel
theorem smd_V_isRight_141 : decode prog_5_method_11_code 141 = .ok (.iaload, 1) := by decide +kernel
theorem smd_V_isRight_142 : decode prog_5_method_11_code 142 = .ok (.aload_n 0, 1) := by decide +kernel
theorem smd_V_isRight_143 : decode prog_5_method_11_code 143 = .ok (.getfield 9, 3) := by decide +kernel
theorem smd_V_isRight_146 : decode prog_5_method_11_code 146 = .ok (.iload_n 1, 1) := by decide +kernel
theorem smd_V_isRight_147 : decode prog_5_method_11_code 147 = .ok (.iaload, 1) := by decide +kernel
theorem smd_V_isRight_148 : decode prog_5_method_11_code 148 = .ok (.invokestatic 30, 3) := by decide +kernel
theorem smd_V_isRight_151 : decode prog_5_method_11_code 151 = .ok (.ifCond .eq 7, 3) := by decide +kernel
theorem smd_V_isRight_154 : decode prog_5_method_11_code 154 = .ok (.iconst 1, 1) := by decide +kernel
theorem smd_V_isRight_155 : decode prog_5_method_11_code 155 = .ok (.goto 4, 3) := by decide +kernel
theorem smd_V_isRight_158 : decode prog_5_method_11_code 158 = .ok (.iconst 0, 1) := by decide +kernel
theorem smd_V_isRight_159 : decode prog_5_method_11_code 159 = .ok (.ireturn, 1) := by decide +kernel
theorem smd_V_isRight_160 : decode prog_5_method_11_code 160 = .ok (.aload_n 0, 1) := by decide +kernel
theorem smd_V_isRight_161 : decode prog_5_method_11_code 161 = .ok (.getfield 18, 3) := by decide +kernel
theorem smd_V_isRight_164 : decode prog_5_method_11_code 164 = .ok (.iload_n 2, 1) := by decide +kernel
theorem smd_V_isRight_165 : decode prog_5_method_11_code 165 = .ok (.iaload, 1) := by decide +kernel
theorem smd_V_isRight_166 : decode prog_5_method_11_code 166 = .ok (.invokestatic 56, 3) := by decide +kernel
theorem smd_V_isRight_169 : decode prog_5_method_11_code 169 = .ok (.ifCond .eq 32, 3) := by decide +kernel
theorem smd_V_isRight_172 : decode prog_5_method_11_code 172 = .ok (.aload_n 0, 1) := by decide +kernel
theorem smd_V_isRight_173 : decode prog_5_method_11_code 173 = .ok (.aload_n 0, 1) := by decide +kernel
theorem smd_V_isRight_174 : decode prog_5_method_11_code 174 = .ok (.getfield 21, 3) := by decide +kernel
theorem smd_V_isRight_177 : decode prog_5_method_11_code 177 = .ok (.iload_n 2, 1) := by decide +kernel
theorem smd_V_isRight_178 : decode prog_5_method_11_code 178 = .ok (.iaload, 1) := by decide +kernel
theorem smd_V_isRight_179 : decode prog_5_method_11_code 179 = .ok (.invokevirtual 60, 3) := by decide +kernel
theorem smd_V_isRight_182 : decode prog_5_method_11_code 182 = .ok (.ifCond .eq 19, 3) := by decide +kernel
theorem smd_V_isRight_185 : decode prog_5_method_11_code 185 = .ok (.aload_n 0, 1) := by decide +kernel
theorem smd_V_isRight_186 : decode prog_5_method_11_code 186 = .ok (.getfield 24, 3) := by decide +kernel
theorem smd_V_isRight_189 : decode prog_5_method_11_code 189 = .ok (.iload_n 2, 1) := by decide +kernel
theorem smd_V_isRight_190 : decode prog_5_method_11_code 190 = .ok (.iaload, 1) := by decide +kernel
theorem smd_V_isRight_191 : decode prog_5_method_11_code 191 = .ok (.invokestatic 56, 3) := by decide +kernel
theorem smd_V_isRight_194 : decode prog_5_method_11_code 194 = .ok (.ifCond .eq 7, 3) := by decide +kernel
theorem smd_V_isRight_197 : decode prog_5_method_11_code 197 = .ok (.iconst 1, 1) := by decide +kernel
theorem smd_V_isRight_198 : decode prog_5_method_11_code 198 = .ok (.goto 4, 3) := by decide +kernel
theorem smd_V_isRight_201 : decode prog_5_method_11_code 201 = .ok (.iconst 0, 1) := by decide +kernel
theorem smd_V_isRight_202 : decode prog_5_method_11_code 202 = .ok (.ireturn, 1) := by decide +kernel
theorem smd_V_isRight_203 : decode prog_5_method_11_code 203 = .ok (.aload_n 0, 1) := by decide +kernel
theorem smd_V_isRight_204 : decode prog_5_method_11_code 204 = .ok (.getfield 18, 3) := by decide +kernel
theorem smd_V_isRight_207 : decode prog_5_method_11_code 207 = .ok (.iload_n 2, 1) := by decide +kernel
theorem smd_V_isRight_208 : decode prog_5_method_11_code 208 = .ok (.iaload, 1) := by decide +kernel
theorem smd_V_isRight_209 : decode prog_5_method_11_code 209 = .ok (.invokestatic 56, 3) := by decide +kernel
theorem smd_V_isRight_212 : decode prog_5_method_11_code 212 = .ok (.ifCond .eq 34, 3) := by decide +kernel
theorem smd_V_isRight_215 : decode prog_5_method_11_code 215 = .ok (.aload_n 0, 1) := by decide +kernel
theorem smd_V_isRight_216 : decode prog_5_method_11_code 216 = .ok (.getfield 21, 3) := by decide +kernel
theorem smd_V_isRight_219 : decode prog_5_method_11_code 219 = .ok (.iload_n 2, 1) := by decide +kernel
theorem smd_V_isRight_220 : decode prog_5_method_11_code 220 = .ok (.iaload, 1) := by decide +kernel
theorem smd_V_isRight_221 : decode prog_5_method_11_code 221 = .ok (.iconst 3, 1) := by decide +kernel
theorem smd_V_isRight_222 : decode prog_5_method_11_code 222 = .ok (.invokestatic 30, 3) := by decide +kernel
theorem smd_V_isRight_225 : decode prog_5_method_11_code 225 = .ok (.ifCond .eq 21, 3) := by decide +kernel
theorem smd_V_isRight_228 : decode prog_5_method_11_code 228 = .ok (.aload_n 0, 1) := by decide +kernel
theorem smd_V_isRight_229 : decode prog_5_method_11_code 229 = .ok (.getfield 27, 3) := by decide +kernel
theorem smd_V_isRight_232 : decode prog_5_method_11_code 232 = .ok (.aload_n 0, 1) := by decide +kernel
theorem smd_V_isRight_233 : decode prog_5_method_11_code 233 = .ok (.getfield 21, 3) := by decide +kernel
theorem smd_V_isRight_236 : decode prog_5_method_11_code 236 = .ok (.iload_n 2, 1) := by decide +kernel
theorem smd_V_isRight_237 : decode prog_5_method_11_code 237 = .ok (.iaload, 1) := by decide +kernel
theorem smd_V_isRight_238 : decode prog_5_method_11_code 238 = .ok (.iaload, 1) := by decide +kernel
theorem smd_V_isRight_239 : decode prog_5_method_11_code 239 = .ok (.ifCond .le 7, 3) := by decide +kernel
theorem smd_V_isRight_242 : decode prog_5_method_11_code 242 = .ok (.iconst 1, 1) := by decide +kernel
theorem smd_V_isRight_243 : decode prog_5_method_11_code 243 = .ok (.goto 4, 3) := by decide +kernel
theorem smd_V_isRight_246 : decode prog_5_method_11_code 246 = .ok (.iconst 0, 1) := by decide +kernel
theorem smd_V_isRight_247 : decode prog_5_method_11_code 247 = .ok (.ireturn, 1) := by decide +kernel
theorem smd_V_isRight_248 : decode prog_5_method_11_code 248 = .ok (.aload_n 0, 1) := by decide +kernel
theorem smd_V_isRight_249 : decode prog_5_method_11_code 249 = .ok (.getfield 18, 3) := by decide +kernel
theorem smd_V_isRight_252 : decode prog_5_method_11_code 252 = .ok (.iload_n 2, 1) := by decide +kernel
theorem smd_V_isRight_253 : decode prog_5_method_11_code 253 = .ok (.iaload, 1) := by decide +kernel
theorem smd_V_isRight_254 : decode prog_5_method_11_code 254 = .ok (.invokestatic 56, 3) := by decide +kernel
theorem smd_V_isRight_257 : decode prog_5_method_11_code 257 = .ok (.ifCond .eq 32, 3) := by decide +kernel
theorem smd_V_isRight_260 : decode prog_5_method_11_code 260 = .ok (.aload_n 0, 1) := by decide +kernel
theorem smd_V_isRight_261 : decode prog_5_method_11_code 261 = .ok (.getfield 21, 3) := by decide +kernel
theorem smd_V_isRight_264 : decode prog_5_method_11_code 264 = .ok (.iload_n 2, 1) := by decide +kernel
theorem smd_V_isRight_265 : decode prog_5_method_11_code 265 = .ok (.iaload, 1) := by decide +kernel
theorem smd_V_isRight_266 : decode prog_5_method_11_code 266 = .ok (.invokestatic 56, 3) := by decide +kernel
theorem smd_V_isRight_269 : decode prog_5_method_11_code 269 = .ok (.ifCond .eq 20, 3) := by decide +kernel
theorem smd_V_isRight_272 : decode prog_5_method_11_code 272 = .ok (.aload_n 0, 1) := by decide +kernel
theorem smd_V_isRight_273 : decode prog_5_method_11_code 273 = .ok (.aload_n 0, 1) := by decide +kernel
theorem smd_V_isRight_274 : decode prog_5_method_11_code 274 = .ok (.getfield 24, 3) := by decide +kernel
theorem smd_V_isRight_277 : decode prog_5_method_11_code 277 = .ok (.iload_n 2, 1) := by decide +kernel
theorem smd_V_isRight_278 : decode prog_5_method_11_code 278 = .ok (.iaload, 1) := by decide +kernel
theorem smd_V_isRight_279 : decode prog_5_method_11_code 279 = .ok (.invokevirtual 63, 3) := by decide +kernel
theorem smd_V_isRight_282 : decode prog_5_method_11_code 282 = .ok (.ifCond .eq 7, 3) := by decide +kernel
theorem smd_V_isRight_285 : decode prog_5_method_11_code 285 = .ok (.iconst 1, 1) := by decide +kernel
theorem smd_V_isRight_286 : decode prog_5_method_11_code 286 = .ok (.goto 4, 3) := by decide +kernel
theorem smd_V_isRight_289 : decode prog_5_method_11_code 289 = .ok (.iconst 0, 1) := by decide +kernel
theorem smd_V_isRight_290 : decode prog_5_method_11_code 290 = .ok (.ireturn, 1) := by decide +kernel
theorem smd_V_isRight_291 : decode prog_5_method_11_code 291 = .ok (.aload_n 0, 1) := by decide +kernel
theorem smd_V_isRight_292 : decode prog_5_method_11_code 292 = .ok (.getfield 18, 3) := by decide +kernel
theorem smd_V_isRight_295 : decode prog_5_method_11_code 295 = .ok (.iload_n 2, 1) := by decide +kernel
theorem smd_V_isRight_296 : decode prog_5_method_11_code 296 = .ok (.iaload, 1) := by decide +kernel
theorem smd_V_isRight_297 : decode prog_5_method_11_code 297 = .ok (.invokestatic 56, 3) := by decide +kernel
theorem smd_V_isRight_300 : decode prog_5_method_11_code 300 = .ok (.ifCond .eq 20, 3) := by decide +kernel
theorem smd_V_isRight_303 : decode prog_5_method_11_code 303 = .ok (.aload_n 0, 1) := by decide +kernel
theorem smd_V_isRight_304 : decode prog_5_method_11_code 304 = .ok (.getfield 21, 3) := by decide +kernel
theorem smd_V_isRight_307 : decode prog_5_method_11_code 307 = .ok (.iload_n 2, 1) := by decide +kernel
theorem smd_V_isRight_308 : decode prog_5_method_11_code 308 = .ok (.iaload, 1) := by decide +kernel
theorem smd_V_isRight_309 : decode prog_5_method_11_code 309 = .ok (.iconst 4, 1) := by decide +kernel
theorem smd_V_isRight_310 : decode prog_5_method_11_code 310 = .ok (.invokestatic 30, 3) := by decide +kernel
theorem smd_V_isRight_313 : decode prog_5_method_11_code 313 = .ok (.ifCond .eq 7, 3) := by decide +kernel
theorem smd_V_isRight_316 : decode prog_5_method_11_code 316 = .ok (.iconst 1, 1) := by decide +kernel
theorem smd_V_isRight_317 : decode prog_5_method_11_code 317 = .ok (.goto 4, 3) := by decide +kernel
theorem smd_V_isRight_320 : decode prog_5_method_11_code 320 = .ok (.iconst 0, 1) := by decide +kernel
theorem smd_V_isRight_321 : decode prog_5_method_11_code 321 = .ok (.ireturn, 1) := by decide +kernel
theorem smd_V_isRight_322 : decode prog_5_method_11_code 322 = .ok (.aload_n 0, 1) := by decide +kernel
theorem smd_V_isRight_323 : decode prog_5_method_11_code 323 = .ok (.getfield 18, 3) := by decide +kernel
theorem smd_V_isRight_326 : decode prog_5_method_11_code 326 = .ok (.iload_n 2, 1) := by decide +kernel
theorem smd_V_isRight_327 : decode prog_5_method_11_code 327 = .ok (.iaload, 1) := by decide +kernel
theorem smd_V_isRight_328 : decode prog_5_method_11_code 328 = .ok (.iconst 4, 1) := by decide +kernel
theorem smd_V_isRight_329 : decode prog_5_method_11_code 329 = .ok (.invokestatic 30, 3) := by decide +kernel
theorem smd_V_isRight_332 : decode prog_5_method_11_code 332 = .ok (.ireturn, 1) := by decide +kernel
theorem smd_V_isRight_333 : decode prog_5_method_11_code 333 = .ok (.iconst 0, 1) := by decide +kernel
theorem smd_V_isRight_334 : decode prog_5_method_11_code 334 = .ok (.ireturn, 1) := by decide +kernel
theorem smd_V_isLocal_0 : decode prog_5_method_12_code 0 = .ok (.iload_n 0, 1) := by decide +kernel
theorem smd_V_isLocal_1 : decode prog_5_method_12_code 1 = .ok (.iconst 3, 1) := by decide +kernel
theorem smd_V_isLocal_2 : decode prog_5_method_12_code 2 = .ok (.invokestatic 30, 3) := by decide +kernel
theorem smd_V_isLocal_5 : decode prog_5_method_12_code 5 = .ok (.ireturn, 1) := by decide +kernel
theorem smd_V_isFieldOfType_0 : decode prog_5_method_13_code 0 = .ok (.iload_n 1, 1) := by decide +kernel
theorem smd_V_isFieldOfType_1 : decode prog_5_method_13_code 1 = .ok (.bipush 12, 2) := by decide +kernel
theorem smd_V_isFieldOfType_3 : decode prog_5_method_13_code 3 = .ok (.invokestatic 30, 3) := by decide +kernel
theorem smd_V_isFieldOfType_6 : decode prog_5_method_13_code 6 = .ok (.ifCond .eq 21, 3) := by decide +kernel
theorem smd_V_isFieldOfType_9 : decode prog_5_method_13_code 9 = .ok (.iload_n 1, 1) := by decide +kernel
theorem smd_V_isFieldOfType_10 : decode prog_5_method_13_code 10 = .ok (.iconst 4, 1) := by decide +kernel
theorem smd_V_isFieldOfType_11 : decode prog_5_method_13_code 11 = .ok (.irem, 1) := by decide +kernel
theorem smd_V_isFieldOfType_12 : decode prog_5_method_13_code 12 = .ok (.aload_n 0, 1) := by decide +kernel
theorem smd_V_isFieldOfType_13 : decode prog_5_method_13_code 13 = .ok (.getfield 27, 3) := by decide +kernel
theorem smd_V_isFieldOfType_16 : decode prog_5_method_13_code 16 = .ok (.iload_n 1, 1) := by decide +kernel
theorem smd_V_isFieldOfType_17 : decode prog_5_method_13_code 17 = .ok (.iconst 4, 1) := by decide +kernel
theorem smd_V_isFieldOfType_18 : decode prog_5_method_13_code 18 = .ok (.idiv, 1) := by decide +kernel
theorem smd_V_isFieldOfType_19 : decode prog_5_method_13_code 19 = .ok (.iaload, 1) := by decide +kernel
theorem smd_V_isFieldOfType_20 : decode prog_5_method_13_code 20 = .ok (.if_icmp .ge 7, 3) := by decide +kernel
theorem smd_V_isFieldOfType_23 : decode prog_5_method_13_code 23 = .ok (.iconst 1, 1) := by decide +kernel
theorem smd_V_isFieldOfType_24 : decode prog_5_method_13_code 24 = .ok (.goto 4, 3) := by decide +kernel
theorem smd_V_isFieldOfType_27 : decode prog_5_method_13_code 27 = .ok (.iconst 0, 1) := by decide +kernel
theorem smd_V_isFieldOfType_28 : decode prog_5_method_13_code 28 = .ok (.ireturn, 1) := by decide +kernel
theorem smd_L_law_0 : decode code 0 = .ok (.new 7, 3) := by decide +kernel
theorem smd_L_law_3 : decode code 3 = .ok (.dup, 1) := by decide +kernel
theorem smd_L_law_4 : decode code 4 = .ok (.invokespecial 9, 3) := by decide +kernel
theorem smd_L_law_7 : decode code 7 = .ok (.astore_n 1, 1) := by decide +kernel
theorem smd_L_law_8 : decode code 8 = .ok (.new 10, 3) := by decide +kernel
theorem smd_L_law_11 : decode code 11 = .ok (.dup, 1) := by decide +kernel
theorem smd_L_law_12 : decode code 12 = .ok (.invokespecial 12, 3) := by decide +kernel
theorem smd_L_law_15 : decode code 15 = .ok (.astore_n 2, 1) := by decide +kernel
theorem smd_L_law_16 : decode code 16 = .ok (.iconst 0, 1) := by decide +kernel
theorem smd_L_law_17 : decode code 17 = .ok (.istore_n 3, 1) := by decide +kernel
theorem smd_L_law_18 : decode code 18 = .ok (.iload_n 3, 1) := by decide +kernel
theorem smd_L_law_19 : decode code 19 = .ok (.aload_n 0, 1) := by decide +kernel
theorem smd_L_law_20 : decode code 20 = .ok (.arraylength, 1) := by decide +kernel
theorem smd_L_law_21 : decode code 21 = .ok (.bipush 7, 2) := by decide +kernel
theorem smd_L_law_23 : decode code 23 = .ok (.isub, 1) := by decide +kernel
theorem smd_L_law_24 : decode code 24 = .ok (.if_icmp .gt 763, 3) := by decide +kernel
theorem smd_L_law_27 : decode code 27 = .ok (.aload_n 0, 1) := by decide +kernel
theorem smd_L_law_28 : decode code 28 = .ok (.iload_n 3, 1) := by decide +kernel
theorem smd_L_law_29 : decode code 29 = .ok (.iaload, 1) := by decide +kernel
theorem smd_L_law_30 : decode code 30 = .ok (.bipush 31, 2) := by decide +kernel
theorem smd_L_law_32 : decode code 32 = .ok (.iand, 1) := by decide +kernel
theorem smd_L_law_33 : decode code 33 = .ok (.tableswitch 748 0 22 #[107, 182, 215, 248, 311, 324, 337, 350, 373, 396, 419, 432, 465, 498, 531, 554, 577, 600, 643, 666, 689, 722, 735], 107) := by decide +kernel
theorem smd_L_law_140 : decode code 140 = .ok (.aload_n 1, 1) := by decide +kernel
theorem smd_L_law_141 : decode code 141 = .ok (.aload_n 0, 1) := by decide +kernel
theorem smd_L_law_142 : decode code 142 = .ok (.iload_n 3, 1) := by decide +kernel
theorem smd_L_law_143 : decode code 143 = .ok (.iconst 1, 1) := by decide +kernel
theorem smd_L_law_144 : decode code 144 = .ok (.iadd, 1) := by decide +kernel
theorem smd_L_law_145 : decode code 145 = .ok (.iaload, 1) := by decide +kernel
theorem smd_L_law_146 : decode code 146 = .ok (.aload_n 0, 1) := by decide +kernel
theorem smd_L_law_147 : decode code 147 = .ok (.iload_n 3, 1) := by decide +kernel
theorem smd_L_law_148 : decode code 148 = .ok (.iconst 2, 1) := by decide +kernel
theorem smd_L_law_149 : decode code 149 = .ok (.iadd, 1) := by decide +kernel
theorem smd_L_law_150 : decode code 150 = .ok (.iaload, 1) := by decide +kernel
theorem smd_L_law_151 : decode code 151 = .ok (.aload_n 0, 1) := by decide +kernel
theorem smd_L_law_152 : decode code 152 = .ok (.iload_n 3, 1) := by decide +kernel
theorem smd_L_law_153 : decode code 153 = .ok (.iconst 3, 1) := by decide +kernel
theorem smd_L_law_154 : decode code 154 = .ok (.iadd, 1) := by decide +kernel
theorem smd_L_law_155 : decode code 155 = .ok (.iaload, 1) := by decide +kernel
theorem smd_L_law_156 : decode code 156 = .ok (.aload_n 0, 1) := by decide +kernel
theorem smd_L_law_157 : decode code 157 = .ok (.iload_n 3, 1) := by decide +kernel
theorem smd_L_law_158 : decode code 158 = .ok (.iconst 4, 1) := by decide +kernel
theorem smd_L_law_159 : decode code 159 = .ok (.iadd, 1) := by decide +kernel
theorem smd_L_law_160 : decode code 160 = .ok (.iaload, 1) := by decide +kernel
theorem smd_L_law_161 : decode code 161 = .ok (.aload_n 0, 1) := by decide +kernel
theorem smd_L_law_162 : decode code 162 = .ok (.iload_n 3, 1) := by decide +kernel
theorem smd_L_law_163 : decode code 163 = .ok (.iconst 5, 1) := by decide +kernel
theorem smd_L_law_164 : decode code 164 = .ok (.iadd, 1) := by decide +kernel
theorem smd_L_law_165 : decode code 165 = .ok (.iaload, 1) := by decide +kernel
theorem smd_L_law_166 : decode code 166 = .ok (.aload_n 0, 1) := by decide +kernel
theorem smd_L_law_167 : decode code 167 = .ok (.iload_n 3, 1) := by decide +kernel
theorem smd_L_law_168 : decode code 168 = .ok (.bipush 6, 2) := by decide +kernel
theorem smd_L_law_170 : decode code 170 = .ok (.iadd, 1) := by decide +kernel
theorem smd_L_law_171 : decode code 171 = .ok (.iaload, 1) := by decide +kernel
theorem smd_L_law_172 : decode code 172 = .ok (.invokevirtual 13, 3) := by decide +kernel
theorem smd_L_law_175 : decode code 175 = .ok (.aload_n 2, 1) := by decide +kernel
theorem smd_L_law_176 : decode code 176 = .ok (.aload_n 0, 1) := by decide +kernel
theorem smd_L_law_177 : decode code 177 = .ok (.iload_n 3, 1) := by decide +kernel
theorem smd_L_law_178 : decode code 178 = .ok (.iconst 1, 1) := by decide +kernel
theorem smd_L_law_179 : decode code 179 = .ok (.iadd, 1) := by decide +kernel
theorem smd_L_law_180 : decode code 180 = .ok (.iaload, 1) := by decide +kernel
theorem smd_L_law_181 : decode code 181 = .ok (.aload_n 0, 1) := by decide +kernel
theorem smd_L_law_182 : decode code 182 = .ok (.iload_n 3, 1) := by decide +kernel
theorem smd_L_law_183 : decode code 183 = .ok (.iconst 2, 1) := by decide +kernel
theorem smd_L_law_184 : decode code 184 = .ok (.iadd, 1) := by decide +kernel
theorem smd_L_law_185 : decode code 185 = .ok (.iaload, 1) := by decide +kernel
theorem smd_L_law_186 : decode code 186 = .ok (.aload_n 0, 1) := by decide +kernel
theorem smd_L_law_187 : decode code 187 = .ok (.iload_n 3, 1) := by decide +kernel
theorem smd_L_law_188 : decode code 188 = .ok (.iconst 3, 1) := by decide +kernel
theorem smd_L_law_189 : decode code 189 = .ok (.iadd, 1) := by decide +kernel
theorem smd_L_law_190 : decode code 190 = .ok (.iaload, 1) := by decide +kernel
theorem smd_L_law_191 : decode code 191 = .ok (.aload_n 0, 1) := by decide +kernel
theorem smd_L_law_192 : decode code 192 = .ok (.iload_n 3, 1) := by decide +kernel
theorem smd_L_law_193 : decode code 193 = .ok (.iconst 4, 1) := by decide +kernel
theorem smd_L_law_194 : decode code 194 = .ok (.iadd, 1) := by decide +kernel
theorem smd_L_law_195 : decode code 195 = .ok (.iaload, 1) := by decide +kernel
theorem smd_L_law_196 : decode code 196 = .ok (.aload_n 0, 1) := by decide +kernel
theorem smd_L_law_197 : decode code 197 = .ok (.iload_n 3, 1) := by decide +kernel
theorem smd_L_law_198 : decode code 198 = .ok (.iconst 5, 1) := by decide +kernel
theorem smd_L_law_199 : decode code 199 = .ok (.iadd, 1) := by decide +kernel
theorem smd_L_law_200 : decode code 200 = .ok (.iaload, 1) := by decide +kernel
theorem smd_L_law_201 : decode code 201 = .ok (.aload_n 0, 1) := by decide +kernel
theorem smd_L_law_202 : decode code 202 = .ok (.iload_n 3, 1) := by decide +kernel
theorem smd_L_law_203 : decode code 203 = .ok (.bipush 6, 2) := by decide +kernel
theorem smd_L_law_205 : decode code 205 = .ok (.iadd, 1) := by decide +kernel
theorem smd_L_law_206 : decode code 206 = .ok (.iaload, 1) := by decide +kernel
theorem smd_L_law_207 : decode code 207 = .ok (.invokevirtual 17, 3) := by decide +kernel
theorem smd_L_law_210 : decode code 210 = .ok (.if_icmp .eq 571, 3) := by decide +kernel
theorem smd_L_law_213 : decode code 213 = .ok (.iconst 0, 1) := by decide +kernel
theorem smd_L_law_214 : decode code 214 = .ok (.ireturn, 1) := by decide +kernel
theorem smd_L_law_215 : decode code 215 = .ok (.aload_n 1, 1) := by decide +kernel
theorem smd_L_law_216 : decode code 216 = .ok (.aload_n 0, 1) := by decide +kernel
theorem smd_L_law_217 : decode code 217 = .ok (.iload_n 3, 1) := by decide +kernel
theorem smd_L_law_218 : decode code 218 = .ok (.iconst 1, 1) := by decide +kernel
theorem smd_L_law_219 : decode code 219 = .ok (.iadd, 1) := by decide +kernel
theorem smd_L_law_220 : decode code 220 = .ok (.iaload, 1) := by decide +kernel
theorem smd_L_law_221 : decode code 221 = .ok (.aload_n 0, 1) := by decide +kernel
theorem smd_L_law_222 : decode code 222 = .ok (.iload_n 3, 1) := by decide +kernel
theorem smd_L_law_223 : decode code 223 = .ok (.iconst 2, 1) := by decide +kernel
theorem smd_L_law_224 : decode code 224 = .ok (.iadd, 1) := by decide +kernel
theorem smd_L_law_225 : decode code 225 = .ok (.iaload, 1) := by decide +kernel
theorem smd_L_law_226 : decode code 226 = .ok (.invokevirtual 18, 3) := by decide +kernel
theorem smd_L_law_229 : decode code 229 = .ok (.aload_n 2, 1) := by decide +kernel
theorem smd_L_law_230 : decode code 230 = .ok (.aload_n 0, 1) := by decide +kernel
theorem smd_L_law_231 : decode code 231 = .ok (.iload_n 3, 1) := by decide +kernel
theorem smd_L_law_232 : decode code 232 = .ok (.iconst 1, 1) := by decide +kernel
theorem smd_L_law_233 : decode code 233 = .ok (.iadd, 1) := by decide +kernel
theorem smd_L_law_234 : decode code 234 = .ok (.iaload, 1) := by decide +kernel
theorem smd_L_law_235 : decode code 235 = .ok (.aload_n 0, 1) := by decide +kernel
theorem smd_L_law_236 : decode code 236 = .ok (.iload_n 3, 1) := by decide +kernel
theorem smd_L_law_237 : decode code 237 = .ok (.iconst 2, 1) := by decide +kernel
theorem smd_L_law_238 : decode code 238 = .ok (.iadd, 1) := by decide +kernel
theorem smd_L_law_239 : decode code 239 = .ok (.iaload, 1) := by decide +kernel
theorem smd_L_law_240 : decode code 240 = .ok (.invokevirtual 22, 3) := by decide +kernel
theorem smd_L_law_243 : decode code 243 = .ok (.if_icmp .eq 538, 3) := by decide +kernel
theorem smd_L_law_246 : decode code 246 = .ok (.iconst 0, 1) := by decide +kernel
theorem smd_L_law_247 : decode code 247 = .ok (.ireturn, 1) := by decide +kernel
theorem smd_L_law_248 : decode code 248 = .ok (.aload_n 1, 1) := by decide +kernel
theorem smd_L_law_249 : decode code 249 = .ok (.aload_n 0, 1) := by decide +kernel
theorem smd_L_law_250 : decode code 250 = .ok (.iload_n 3, 1) := by decide +kernel
theorem smd_L_law_251 : decode code 251 = .ok (.iconst 1, 1) := by decide +kernel
theorem smd_L_law_252 : decode code 252 = .ok (.iadd, 1) := by decide +kernel
theorem smd_L_law_253 : decode code 253 = .ok (.iaload, 1) := by decide +kernel
theorem smd_L_law_254 : decode code 254 = .ok (.aload_n 0, 1) := by decide +kernel
theorem smd_L_law_255 : decode code 255 = .ok (.iload_n 3, 1) := by decide +kernel
theorem smd_L_law_256 : decode code 256 = .ok (.iconst 2, 1) := by decide +kernel
theorem smd_L_law_257 : decode code 257 = .ok (.iadd, 1) := by decide +kernel
theorem smd_L_law_258 : decode code 258 = .ok (.iaload, 1) := by decide +kernel
theorem smd_L_law_259 : decode code 259 = .ok (.invokevirtual 23, 3) := by decide +kernel
theorem smd_L_law_262 : decode code 262 = .ok (.aload_n 2, 1) := by decide +kernel
theorem smd_L_law_263 : decode code 263 = .ok (.aload_n 0, 1) := by decide +kernel
theorem smd_L_law_264 : decode code 264 = .ok (.iload_n 3, 1) := by decide +kernel
theorem smd_L_law_265 : decode code 265 = .ok (.iconst 1, 1) := by decide +kernel
theorem smd_L_law_266 : decode code 266 = .ok (.iadd, 1) := by decide +kernel
theorem smd_L_law_267 : decode code 267 = .ok (.iaload, 1) := by decide +kernel
theorem smd_L_law_268 : decode code 268 = .ok (.aload_n 0, 1) := by decide +kernel
theorem smd_L_law_269 : decode code 269 = .ok (.iload_n 3, 1) := by decide +kernel
theorem smd_L_law_270 : decode code 270 = .ok (.iconst 2, 1) := by decide +kernel
theorem smd_L_law_271 : decode code 271 = .ok (.iadd, 1) := by decide +kernel
theorem smd_L_law_272 : decode code 272 = .ok (.iaload, 1) := by decide +kernel
theorem smd_L_law_273 : decode code 273 = .ok (.invokevirtual 26, 3) := by decide +kernel
theorem smd_L_law_276 : decode code 276 = .ok (.if_icmp .eq 505, 3) := by decide +kernel
theorem smd_L_law_279 : decode code 279 = .ok (.iconst 0, 1) := by decide +kernel
theorem smd_L_law_280 : decode code 280 = .ok (.ireturn, 1) := by decide +kernel
theorem smd_L_law_281 : decode code 281 = .ok (.aload_n 1, 1) := by decide +kernel
theorem smd_L_law_282 : decode code 282 = .ok (.aload_n 0, 1) := by decide +kernel
theorem smd_L_law_283 : decode code 283 = .ok (.iload_n 3, 1) := by decide +kernel
theorem smd_L_law_284 : decode code 284 = .ok (.iconst 1, 1) := by decide +kernel
theorem smd_L_law_285 : decode code 285 = .ok (.iadd, 1) := by decide +kernel
theorem smd_L_law_286 : decode code 286 = .ok (.iaload, 1) := by decide +kernel
theorem smd_L_law_287 : decode code 287 = .ok (.aload_n 0, 1) := by decide +kernel
theorem smd_L_law_288 : decode code 288 = .ok (.iload_n 3, 1) := by decide +kernel
theorem smd_L_law_289 : decode code 289 = .ok (.iconst 2, 1) := by decide +kernel
theorem smd_L_law_290 : decode code 290 = .ok (.iadd, 1) := by decide +kernel
theorem smd_L_law_291 : decode code 291 = .ok (.iaload, 1) := by decide +kernel
theorem smd_L_law_292 : decode code 292 = .ok (.aload_n 0, 1) := by decide +kernel
theorem smd_L_law_293 : decode code 293 = .ok (.iload_n 3, 1) := by decide +kernel
theorem smd_L_law_294 : decode code 294 = .ok (.iconst 3, 1) := by decide +kernel
theorem smd_L_law_295 : decode code 295 = .ok (.iadd, 1) := by decide +kernel
theorem smd_L_law_296 : decode code 296 = .ok (.iaload, 1) := by decide +kernel
theorem smd_L_law_297 : decode code 297 = .ok (.aload_n 0, 1) := by decide +kernel
theorem smd_L_law_298 : decode code 298 = .ok (.iload_n 3, 1) := by decide +kernel
theorem smd_L_law_299 : decode code 299 = .ok (.iconst 4, 1) := by decide +kernel
theorem smd_L_law_300 : decode code 300 = .ok (.iadd, 1) := by decide +kernel
theorem smd_L_law_301 : decode code 301 = .ok (.iaload, 1) := by decide +kernel
theorem smd_L_law_302 : decode code 302 = .ok (.aload_n 0, 1) := by decide +kernel
theorem smd_L_law_303 : decode code 303 = .ok (.iload_n 3, 1) := by decide +kernel
theorem smd_L_law_304 : decode code 304 = .ok (.iconst 5, 1) := by decide +kernel
theorem smd_L_law_305 : decode code 305 = .ok (.iadd, 1) := by decide +kernel
theorem smd_L_law_306 : decode code 306 = .ok (.iaload, 1) := by decide +kernel
theorem smd_L_law_307 : decode code 307 = .ok (.invokevirtual 27, 3) := by decide +kernel
theorem smd_L_law_310 : decode code 310 = .ok (.aload_n 2, 1) := by decide +kernel
theorem smd_L_law_311 : decode code 311 = .ok (.aload_n 0, 1) := by decide +kernel
theorem smd_L_law_312 : decode code 312 = .ok (.iload_n 3, 1) := by decide +kernel
theorem smd_L_law_313 : decode code 313 = .ok (.iconst 1, 1) := by decide +kernel
theorem smd_L_law_314 : decode code 314 = .ok (.iadd, 1) := by decide +kernel
theorem smd_L_law_315 : decode code 315 = .ok (.iaload, 1) := by decide +kernel
theorem smd_L_law_316 : decode code 316 = .ok (.aload_n 0, 1) := by decide +kernel
theorem smd_L_law_317 : decode code 317 = .ok (.iload_n 3, 1) := by decide +kernel
theorem smd_L_law_318 : decode code 318 = .ok (.iconst 2, 1) := by decide +kernel
theorem smd_L_law_319 : decode code 319 = .ok (.iadd, 1) := by decide +kernel
theorem smd_L_law_320 : decode code 320 = .ok (.iaload, 1) := by decide +kernel
theorem smd_L_law_321 : decode code 321 = .ok (.aload_n 0, 1) := by decide +kernel
theorem smd_L_law_322 : decode code 322 = .ok (.iload_n 3, 1) := by decide +kernel
theorem smd_L_law_323 : decode code 323 = .ok (.iconst 3, 1) := by decide +kernel
theorem smd_L_law_324 : decode code 324 = .ok (.iadd, 1) := by decide +kernel
theorem smd_L_law_325 : decode code 325 = .ok (.iaload, 1) := by decide +kernel
theorem smd_L_law_326 : decode code 326 = .ok (.aload_n 0, 1) := by decide +kernel
theorem smd_L_law_327 : decode code 327 = .ok (.iload_n 3, 1) := by decide +kernel
theorem smd_L_law_328 : decode code 328 = .ok (.iconst 4, 1) := by decide +kernel
theorem smd_L_law_329 : decode code 329 = .ok (.iadd, 1) := by decide +kernel
theorem smd_L_law_330 : decode code 330 = .ok (.iaload, 1) := by decide +kernel
theorem smd_L_law_331 : decode code 331 = .ok (.aload_n 0, 1) := by decide +kernel
theorem smd_L_law_332 : decode code 332 = .ok (.iload_n 3, 1) := by decide +kernel
theorem smd_L_law_333 : decode code 333 = .ok (.iconst 5, 1) := by decide +kernel
theorem smd_L_law_334 : decode code 334 = .ok (.iadd, 1) := by decide +kernel
theorem smd_L_law_335 : decode code 335 = .ok (.iaload, 1) := by decide +kernel
theorem smd_L_law_336 : decode code 336 = .ok (.invokevirtual 31, 3) := by decide +kernel
theorem smd_L_law_339 : decode code 339 = .ok (.if_icmp .eq 442, 3) := by decide +kernel
theorem smd_L_law_342 : decode code 342 = .ok (.iconst 0, 1) := by decide +kernel
theorem smd_L_law_343 : decode code 343 = .ok (.ireturn, 1) := by decide +kernel
theorem smd_L_law_344 : decode code 344 = .ok (.aload_n 1, 1) := by decide +kernel
theorem smd_L_law_345 : decode code 345 = .ok (.invokevirtual 32, 3) := by decide +kernel
theorem smd_L_law_348 : decode code 348 = .ok (.aload_n 2, 1) := by decide +kernel
theorem smd_L_law_349 : decode code 349 = .ok (.invokevirtual 36, 3) := by decide +kernel
theorem smd_L_law_352 : decode code 352 = .ok (.if_icmp .eq 429, 3) := by decide +kernel
theorem smd_L_law_355 : decode code 355 = .ok (.iconst 0, 1) := by decide +kernel
theorem smd_L_law_356 : decode code 356 = .ok (.ireturn, 1) := by decide +kernel
theorem smd_L_law_357 : decode code 357 = .ok (.aload_n 1, 1) := by decide +kernel
theorem smd_L_law_358 : decode code 358 = .ok (.invokevirtual 37, 3) := by decide +kernel
theorem smd_L_law_361 : decode code 361 = .ok (.aload_n 2, 1) := by decide +kernel
theorem smd_L_law_362 : decode code 362 = .ok (.invokevirtual 41, 3) := by decide +kernel
theorem smd_L_law_365 : decode code 365 = .ok (.if_icmp .eq 416, 3) := by decide +kernel
theorem smd_L_law_368 : decode code 368 = .ok (.iconst 0, 1) := by decide +kernel
theorem smd_L_law_369 : decode code 369 = .ok (.ireturn, 1) := by decide +kernel
theorem smd_L_law_370 : decode code 370 = .ok (.aload_n 1, 1) := by decide +kernel
theorem smd_L_law_371 : decode code 371 = .ok (.invokevirtual 42, 3) := by decide +kernel
theorem smd_L_law_374 : decode code 374 = .ok (.aload_n 2, 1) := by decide +kernel
theorem smd_L_law_375 : decode code 375 = .ok (.invokevirtual 45, 3) := by decide +kernel
theorem smd_L_law_378 : decode code 378 = .ok (.if_icmp .eq 403, 3) := by decide +kernel
theorem smd_L_law_381 : decode code 381 = .ok (.iconst 0, 1) := by decide +kernel
theorem smd_L_law_382 : decode code 382 = .ok (.ireturn, 1) := by decide +kernel
theorem smd_L_law_383 : decode code 383 = .ok (.aload_n 1, 1) := by decide +kernel
theorem smd_L_law_384 : decode code 384 = .ok (.aload_n 0, 1) := by decide +kernel
theorem smd_L_law_385 : decode code 385 = .ok (.iload_n 3, 1) := by decide +kernel
theorem smd_L_law_386 : decode code 386 = .ok (.iconst 1, 1) := by decide +kernel
theorem smd_L_law_387 : decode code 387 = .ok (.iadd, 1) := by decide +kernel
theorem smd_L_law_388 : decode code 388 = .ok (.iaload, 1) := by decide +kernel
theorem smd_L_law_389 : decode code 389 = .ok (.invokevirtual 46, 3) := by decide +kernel
theorem smd_L_law_392 : decode code 392 = .ok (.aload_n 2, 1) := by decide +kernel
theorem smd_L_law_393 : decode code 393 = .ok (.aload_n 0, 1) := by decide +kernel
theorem smd_L_law_394 : decode code 394 = .ok (.iload_n 3, 1) := by decide +kernel
theorem smd_L_law_395 : decode code 395 = .ok (.iconst 1, 1) := by decide +kernel
theorem smd_L_law_396 : decode code 396 = .ok (.iadd, 1) := by decide +kernel
theorem smd_L_law_397 : decode code 397 = .ok (.iaload, 1) := by decide +kernel
theorem smd_L_law_398 : decode code 398 = .ok (.invokevirtual 50, 3) := by decide +kernel
theorem smd_L_law_401 : decode code 401 = .ok (.if_icmp .eq 380, 3) := by decide +kernel
theorem smd_L_law_404 : decode code 404 = .ok (.iconst 0, 1) := by decide +kernel
theorem smd_L_law_405 : decode code 405 = .ok (.ireturn, 1) := by decide +kernel
theorem smd_L_law_406 : decode code 406 = .ok (.aload_n 1, 1) := by decide +kernel
theorem smd_L_law_407 : decode code 407 = .ok (.aload_n 0, 1) := by decide +kernel
theorem smd_L_law_408 : decode code 408 = .ok (.iload_n 3, 1) := by decide +kernel
theorem smd_L_law_409 : decode code 409 = .ok (.iconst 1, 1) := by decide +kernel
theorem smd_L_law_410 : decode code 410 = .ok (.iadd, 1) := by decide +kernel
theorem smd_L_law_411 : decode code 411 = .ok (.iaload, 1) := by decide +kernel
theorem smd_L_law_412 : decode code 412 = .ok (.invokevirtual 51, 3) := by decide +kernel
theorem smd_L_law_415 : decode code 415 = .ok (.aload_n 2, 1) := by decide +kernel
theorem smd_L_law_416 : decode code 416 = .ok (.aload_n 0, 1) := by decide +kernel
theorem smd_L_law_417 : decode code 417 = .ok (.iload_n 3, 1) := by decide +kernel
theorem smd_L_law_418 : decode code 418 = .ok (.iconst 1, 1) := by decide +kernel
theorem smd_L_law_419 : decode code 419 = .ok (.iadd, 1) := by decide +kernel
theorem smd_L_law_420 : decode code 420 = .ok (.iaload, 1) := by decide +kernel
theorem smd_L_law_421 : decode code 421 = .ok (.invokevirtual 55, 3) := by decide +kernel
theorem smd_L_law_424 : decode code 424 = .ok (.if_icmp .eq 357, 3) := by decide +kernel
theorem smd_L_law_427 : decode code 427 = .ok (.iconst 0, 1) := by decide +kernel
theorem smd_L_law_428 : decode code 428 = .ok (.ireturn, 1) := by decide +kernel
theorem smd_L_law_429 : decode code 429 = .ok (.aload_n 1, 1) := by decide +kernel
theorem smd_L_law_430 : decode code 430 = .ok (.aload_n 0, 1) := by decide +kernel
theorem smd_L_law_431 : decode code 431 = .ok (.iload_n 3, 1) := by decide +kernel
theorem smd_L_law_432 : decode code 432 = .ok (.iconst 1, 1) := by decide +kernel
theorem smd_L_law_433 : decode code 433 = .ok (.iadd, 1) := by decide +kernel
theorem smd_L_law_434 : decode code 434 = .ok (.iaload, 1) := by decide +kernel
theorem smd_L_law_435 : decode code 435 = .ok (.invokevirtual 56, 3) := by decide +kernel
theorem smd_L_law_438 : decode code 438 = .ok (.aload_n 2, 1) := by decide +kernel
theorem smd_L_law_439 : decode code 439 = .ok (.aload_n 0, 1) := by decide +kernel
theorem smd_L_law_440 : decode code 440 = .ok (.iload_n 3, 1) := by decide +kernel
theorem smd_L_law_441 : decode code 441 = .ok (.iconst 1, 1) := by decide +kernel
theorem smd_L_law_442 : decode code 442 = .ok (.iadd, 1) := by decide +kernel
theorem smd_L_law_443 : decode code 443 = .ok (.iaload, 1) := by decide +kernel
theorem smd_L_law_444 : decode code 444 = .ok (.invokevirtual 59, 3) := by decide +kernel
theorem smd_L_law_447 : decode code 447 = .ok (.if_icmp .eq 334, 3) := by decide +kernel
theorem smd_L_law_450 : decode code 450 = .ok (.iconst 0, 1) := by decide +kernel
theorem smd_L_law_451 : decode code 451 = .ok (.ireturn, 1) := by decide +kernel
theorem smd_L_law_452 : decode code 452 = .ok (.aload_n 1, 1) := by decide +kernel
theorem smd_L_law_453 : decode code 453 = .ok (.invokevirtual 60, 3) := by decide +kernel
theorem smd_L_law_456 : decode code 456 = .ok (.aload_n 2, 1) := by decide +kernel
theorem smd_L_law_457 : decode code 457 = .ok (.invokevirtual 63, 3) := by decide +kernel
theorem smd_L_law_460 : decode code 460 = .ok (.if_icmp .eq 321, 3) := by decide +kernel
theorem smd_L_law_463 : decode code 463 = .ok (.iconst 0, 1) := by decide +kernel
theorem smd_L_law_464 : decode code 464 = .ok (.ireturn, 1) := by decide +kernel
theorem smd_L_law_465 : decode code 465 = .ok (.aload_n 1, 1) := by decide +kernel
theorem smd_L_law_466 : decode code 466 = .ok (.aload_n 0, 1) := by decide +kernel
theorem smd_L_law_467 : decode code 467 = .ok (.iload_n 3, 1) := by decide +kernel
theorem smd_L_law_468 : decode code 468 = .ok (.iconst 1, 1) := by decide +kernel
theorem smd_L_law_469 : decode code 469 = .ok (.iadd, 1) := by decide +kernel
theorem smd_L_law_470 : decode code 470 = .ok (.iaload, 1) := by decide +kernel
theorem smd_L_law_471 : decode code 471 = .ok (.aload_n 0, 1) := by decide +kernel
theorem smd_L_law_472 : decode code 472 = .ok (.iload_n 3, 1) := by decide +kernel
theorem smd_L_law_473 : decode code 473 = .ok (.iconst 2, 1) := by decide +kernel
theorem smd_L_law_474 : decode code 474 = .ok (.iadd, 1) := by decide +kernel
theorem smd_L_law_475 : decode code 475 = .ok (.iaload, 1) := by decide +kernel
theorem smd_L_law_476 : decode code 476 = .ok (.invokevirtual 64, 3) := by decide +kernel
theorem smd_L_law_479 : decode code 479 = .ok (.aload_n 2, 1) := by decide +kernel
theorem smd_L_law_480 : decode code 480 = .ok (.aload_n 0, 1) := by decide +kernel
theorem smd_L_law_481 : decode code 481 = .ok (.iload_n 3, 1) := by decide +kernel
theorem smd_L_law_482 : decode code 482 = .ok (.iconst 1, 1) := by decide +kernel
theorem smd_L_law_483 : decode code 483 = .ok (.iadd, 1) := by decide +kernel
theorem smd_L_law_484 : decode code 484 = .ok (.iaload, 1) := by decide +kernel
theorem smd_L_law_485 : decode code 485 = .ok (.aload_n 0, 1) := by decide +kernel
theorem smd_L_law_486 : decode code 486 = .ok (.iload_n 3, 1) := by decide +kernel
theorem smd_L_law_487 : decode code 487 = .ok (.iconst 2, 1) := by decide +kernel
theorem smd_L_law_488 : decode code 488 = .ok (.iadd, 1) := by decide +kernel
theorem smd_L_law_489 : decode code 489 = .ok (.iaload, 1) := by decide +kernel
theorem smd_L_law_490 : decode code 490 = .ok (.invokevirtual 68, 3) := by decide +kernel
theorem smd_L_law_493 : decode code 493 = .ok (.if_icmp .eq 288, 3) := by decide +kernel
theorem smd_L_law_496 : decode code 496 = .ok (.iconst 0, 1) := by decide +kernel
theorem smd_L_law_497 : decode code 497 = .ok (.ireturn, 1) := by decide +kernel
theorem smd_L_law_498 : decode code 498 = .ok (.aload_n 1, 1) := by decide +kernel
theorem smd_L_law_499 : decode code 499 = .ok (.aload_n 0, 1) := by decide +kernel
theorem smd_L_law_500 : decode code 500 = .ok (.iload_n 3, 1) := by decide +kernel
theorem smd_L_law_501 : decode code 501 = .ok (.iconst 1, 1) := by decide +kernel
theorem smd_L_law_502 : decode code 502 = .ok (.iadd, 1) := by decide +kernel
theorem smd_L_law_503 : decode code 503 = .ok (.iaload, 1) := by decide +kernel
theorem smd_L_law_504 : decode code 504 = .ok (.aload_n 0, 1) := by decide +kernel
theorem smd_L_law_505 : decode code 505 = .ok (.iload_n 3, 1) := by decide +kernel
theorem smd_L_law_506 : decode code 506 = .ok (.iconst 2, 1) := by decide +kernel
theorem smd_L_law_507 : decode code 507 = .ok (.iadd, 1) := by decide +kernel
theorem smd_L_law_508 : decode code 508 = .ok (.iaload, 1) := by decide +kernel
theorem smd_L_law_509 : decode code 509 = .ok (.invokevirtual 69, 3) := by decide +kernel
theorem smd_L_law_512 : decode code 512 = .ok (.aload_n 2, 1) := by decide +kernel
theorem smd_L_law_513 : decode code 513 = .ok (.aload_n 0, 1) := by decide +kernel
theorem smd_L_law_514 : decode code 514 = .ok (.iload_n 3, 1) := by decide +kernel
theorem smd_L_law_515 : decode code 515 = .ok (.iconst 1, 1) := by decide +kernel
theorem smd_L_law_516 : decode code 516 = .ok (.iadd, 1) := by decide +kernel
theorem smd_L_law_517 : decode code 517 = .ok (.iaload, 1) := by decide +kernel
theorem smd_L_law_518 : decode code 518 = .ok (.aload_n 0, 1) := by decide +kernel
theorem smd_L_law_519 : decode code 519 = .ok (.iload_n 3, 1) := by decide +kernel
theorem smd_L_law_520 : decode code 520 = .ok (.iconst 2, 1) := by decide +kernel
theorem smd_L_law_521 : decode code 521 = .ok (.iadd, 1) := by decide +kernel
theorem smd_L_law_522 : decode code 522 = .ok (.iaload, 1) := by decide +kernel
theorem smd_L_law_523 : decode code 523 = .ok (.invokevirtual 72, 3) := by decide +kernel
theorem smd_L_law_526 : decode code 526 = .ok (.if_icmp .eq 255, 3) := by decide +kernel
theorem smd_L_law_529 : decode code 529 = .ok (.iconst 0, 1) := by decide +kernel
theorem smd_L_law_530 : decode code 530 = .ok (.ireturn, 1) := by decide +kernel
theorem smd_L_law_531 : decode code 531 = .ok (.aload_n 1, 1) := by decide +kernel
theorem smd_L_law_532 : decode code 532 = .ok (.aload_n 0, 1) := by decide +kernel
theorem smd_L_law_533 : decode code 533 = .ok (.iload_n 3, 1) := by decide +kernel
theorem smd_L_law_534 : decode code 534 = .ok (.iconst 1, 1) := by decide +kernel
theorem smd_L_law_535 : decode code 535 = .ok (.iadd, 1) := by decide +kernel
theorem smd_L_law_536 : decode code 536 = .ok (.iaload, 1) := by decide +kernel
theorem smd_L_law_537 : decode code 537 = .ok (.aload_n 0, 1) := by decide +kernel
theorem smd_L_law_538 : decode code 538 = .ok (.iload_n 3, 1) := by decide +kernel
theorem smd_L_law_539 : decode code 539 = .ok (.iconst 2, 1) := by decide +kernel
theorem smd_L_law_540 : decode code 540 = .ok (.iadd, 1) := by decide +kernel
theorem smd_L_law_541 : decode code 541 = .ok (.iaload, 1) := by decide +kernel
theorem smd_L_law_542 : decode code 542 = .ok (.invokevirtual 73, 3) := by decide +kernel
theorem smd_L_law_545 : decode code 545 = .ok (.aload_n 2, 1) := by decide +kernel
theorem smd_L_law_546 : decode code 546 = .ok (.aload_n 0, 1) := by decide +kernel
theorem smd_L_law_547 : decode code 547 = .ok (.iload_n 3, 1) := by decide +kernel
theorem smd_L_law_548 : decode code 548 = .ok (.iconst 1, 1) := by decide +kernel
theorem smd_L_law_549 : decode code 549 = .ok (.iadd, 1) := by decide +kernel
theorem smd_L_law_550 : decode code 550 = .ok (.iaload, 1) := by decide +kernel
theorem smd_L_law_551 : decode code 551 = .ok (.aload_n 0, 1) := by decide +kernel
theorem smd_L_law_552 : decode code 552 = .ok (.iload_n 3, 1) := by decide +kernel
theorem smd_L_law_553 : decode code 553 = .ok (.iconst 2, 1) := by decide +kernel
theorem smd_L_law_554 : decode code 554 = .ok (.iadd, 1) := by decide +kernel
theorem smd_L_law_555 : decode code 555 = .ok (.iaload, 1) := by decide +kernel
theorem smd_L_law_556 : decode code 556 = .ok (.invokevirtual 76, 3) := by decide +kernel
theorem smd_L_law_559 : decode code 559 = .ok (.if_icmp .eq 222, 3) := by decide +kernel
theorem smd_L_law_562 : decode code 562 = .ok (.iconst 0, 1) := by decide +kernel
theorem smd_L_law_563 : decode code 563 = .ok (.ireturn, 1) := by decide +kernel
theorem smd_L_law_564 : decode code 564 = .ok (.aload_n 1, 1) := by decide +kernel
theorem smd_L_law_565 : decode code 565 = .ok (.aload_n 0, 1) := by decide +kernel
theorem smd_L_law_566 : decode code 566 = .ok (.iload_n 3, 1) := by decide +kernel
theorem smd_L_law_567 : decode code 567 = .ok (.iconst 1, 1) := by decide +kernel
theorem smd_L_law_568 : decode code 568 = .ok (.iadd, 1) := by decide +kernel
theorem smd_L_law_569 : decode code 569 = .ok (.iaload, 1) := by decide +kernel
theorem smd_L_law_570 : decode code 570 = .ok (.invokevirtual 77, 3) := by decide +kernel
theorem smd_L_law_573 : decode code 573 = .ok (.aload_n 2, 1) := by decide +kernel
theorem smd_L_law_574 : decode code 574 = .ok (.aload_n 0, 1) := by decide +kernel
theorem smd_L_law_575 : decode code 575 = .ok (.iload_n 3, 1) := by decide +kernel
theorem smd_L_law_576 : decode code 576 = .ok (.iconst 1, 1) := by decide +kernel
theorem smd_L_law_577 : decode code 577 = .ok (.iadd, 1) := by decide +kernel
theorem smd_L_law_578 : decode code 578 = .ok (.iaload, 1) := by decide +kernel
theorem smd_L_law_579 : decode code 579 = .ok (.invokevirtual 80, 3) := by decide +kernel
theorem smd_L_law_582 : decode code 582 = .ok (.if_icmp .eq 199, 3) := by decide +kernel
theorem smd_L_law_585 : decode code 585 = .ok (.iconst 0, 1) := by decide +kernel
theorem smd_L_law_586 : decode code 586 = .ok (.ireturn, 1) := by decide +kernel
theorem smd_L_law_587 : decode code 587 = .ok (.aload_n 1, 1) := by decide +kernel
theorem smd_L_law_588 : decode code 588 = .ok (.aload_n 0, 1) := by decide +kernel
theorem smd_L_law_589 : decode code 589 = .ok (.iload_n 3, 1) := by decide +kernel
theorem smd_L_law_590 : decode code 590 = .ok (.iconst 1, 1) := by decide +kernel
theorem smd_L_law_591 : decode code 591 = .ok (.iadd, 1) := by decide +kernel
theorem smd_L_law_592 : decode code 592 = .ok (.iaload, 1) := by decide +kernel
theorem smd_L_law_593 : decode code 593 = .ok (.invokevirtual 81, 3) := by decide +kernel
theorem smd_L_law_596 : decode code 596 = .ok (.aload_n 2, 1) := by decide +kernel
theorem smd_L_law_597 : decode code 597 = .ok (.aload_n 0, 1) := by decide +kernel
theorem smd_L_law_598 : decode code 598 = .ok (.iload_n 3, 1) := by decide +kernel
theorem smd_L_law_599 : decode code 599 = .ok (.iconst 1, 1) := by decide +kernel
theorem smd_L_law_600 : decode code 600 = .ok (.iadd, 1) := by decide +kernel
theorem smd_L_law_601 : decode code 601 = .ok (.iaload, 1) := by decide +kernel
theorem smd_L_law_602 : decode code 602 = .ok (.invokevirtual 84, 3) := by decide +kernel
theorem smd_L_law_605 : decode code 605 = .ok (.if_icmp .eq 176, 3) := by decide +kernel
theorem smd_L_law_608 : decode code 608 = .ok (.iconst 0, 1) := by decide +kernel
theorem smd_L_law_609 : decode code 609 = .ok (.ireturn, 1) := by decide +kernel
theorem smd_L_law_610 : decode code 610 = .ok (.aload_n 1, 1) := by decide +kernel
theorem smd_L_law_611 : decode code 611 = .ok (.aload_n 0, 1) := by decide +kernel
theorem smd_L_law_612 : decode code 612 = .ok (.iload_n 3, 1) := by decide +kernel
theorem smd_L_law_613 : decode code 613 = .ok (.iconst 1, 1) := by decide +kernel
theorem smd_L_law_614 : decode code 614 = .ok (.iadd, 1) := by decide +kernel
theorem smd_L_law_615 : decode code 615 = .ok (.iaload, 1) := by decide +kernel
theorem smd_L_law_616 : decode code 616 = .ok (.invokevirtual 85, 3) := by decide +kernel
theorem smd_L_law_619 : decode code 619 = .ok (.aload_n 2, 1) := by decide +kernel
theorem smd_L_law_620 : decode code 620 = .ok (.aload_n 0, 1) := by decide +kernel
theorem smd_L_law_621 : decode code 621 = .ok (.iload_n 3, 1) := by decide +kernel
theorem smd_L_law_622 : decode code 622 = .ok (.iconst 1, 1) := by decide +kernel
theorem smd_L_law_623 : decode code 623 = .ok (.iadd, 1) := by decide +kernel
theorem smd_L_law_624 : decode code 624 = .ok (.iaload, 1) := by decide +kernel
theorem smd_L_law_625 : decode code 625 = .ok (.invokevirtual 88, 3) := by decide +kernel
theorem smd_L_law_628 : decode code 628 = .ok (.if_icmp .eq 153, 3) := by decide +kernel
theorem smd_L_law_631 : decode code 631 = .ok (.iconst 0, 1) := by decide +kernel
theorem smd_L_law_632 : decode code 632 = .ok (.ireturn, 1) := by decide +kernel
theorem smd_L_law_633 : decode code 633 = .ok (.aload_n 1, 1) := by decide +kernel
theorem smd_L_law_634 : decode code 634 = .ok (.aload_n 0, 1) := by decide +kernel
theorem smd_L_law_635 : decode code 635 = .ok (.iload_n 3, 1) := by decide +kernel
theorem smd_L_law_636 : decode code 636 = .ok (.iconst 1, 1) := by decide +kernel
theorem smd_L_law_637 : decode code 637 = .ok (.iadd, 1) := by decide +kernel
theorem smd_L_law_638 : decode code 638 = .ok (.iaload, 1) := by decide +kernel
theorem smd_L_law_639 : decode code 639 = .ok (.aload_n 0, 1) := by decide +kernel
theorem smd_L_law_640 : decode code 640 = .ok (.iload_n 3, 1) := by decide +kernel
theorem smd_L_law_641 : decode code 641 = .ok (.iconst 2, 1) := by decide +kernel
theorem smd_L_law_642 : decode code 642 = .ok (.iadd, 1) := by decide +kernel
theorem smd_L_law_643 : decode code 643 = .ok (.iaload, 1) := by decide +kernel
theorem smd_L_law_644 : decode code 644 = .ok (.aload_n 0, 1) := by decide +kernel
theorem smd_L_law_645 : decode code 645 = .ok (.iload_n 3, 1) := by decide +kernel
theorem smd_L_law_646 : decode code 646 = .ok (.iconst 3, 1) := by decide +kernel
theorem smd_L_law_647 : decode code 647 = .ok (.iadd, 1) := by decide +kernel
theorem smd_L_law_648 : decode code 648 = .ok (.iaload, 1) := by decide +kernel
theorem smd_L_law_649 : decode code 649 = .ok (.invokevirtual 89, 3) := by decide +kernel
theorem smd_L_law_652 : decode code 652 = .ok (.aload_n 2, 1) := by decide +kernel
theorem smd_L_law_653 : decode code 653 = .ok (.aload_n 0, 1) := by decide +kernel
theorem smd_L_law_654 : decode code 654 = .ok (.iload_n 3, 1) := by decide +kernel
theorem smd_L_law_655 : decode code 655 = .ok (.iconst 1, 1) := by decide +kernel
theorem smd_L_law_656 : decode code 656 = .ok (.iadd, 1) := by decide +kernel
theorem smd_L_law_657 : decode code 657 = .ok (.iaload, 1) := by decide +kernel
theorem smd_L_law_658 : decode code 658 = .ok (.aload_n 0, 1) := by decide +kernel
theorem smd_L_law_659 : decode code 659 = .ok (.iload_n 3, 1) := by decide +kernel
theorem smd_L_law_660 : decode code 660 = .ok (.iconst 2, 1) := by decide +kernel
theorem smd_L_law_661 : decode code 661 = .ok (.iadd, 1) := by decide +kernel
theorem smd_L_law_662 : decode code 662 = .ok (.iaload, 1) := by decide +kernel
theorem smd_L_law_663 : decode code 663 = .ok (.aload_n 0, 1) := by decide +kernel
theorem smd_L_law_664 : decode code 664 = .ok (.iload_n 3, 1) := by decide +kernel
theorem smd_L_law_665 : decode code 665 = .ok (.iconst 3, 1) := by decide +kernel
theorem smd_L_law_666 : decode code 666 = .ok (.iadd, 1) := by decide +kernel
theorem smd_L_law_667 : decode code 667 = .ok (.iaload, 1) := by decide +kernel
theorem smd_L_law_668 : decode code 668 = .ok (.invokevirtual 93, 3) := by decide +kernel
theorem smd_L_law_671 : decode code 671 = .ok (.if_icmp .eq 110, 3) := by decide +kernel
theorem smd_L_law_674 : decode code 674 = .ok (.iconst 0, 1) := by decide +kernel
theorem smd_L_law_675 : decode code 675 = .ok (.ireturn, 1) := by decide +kernel
theorem smd_L_law_676 : decode code 676 = .ok (.aload_n 1, 1) := by decide +kernel
theorem smd_L_law_677 : decode code 677 = .ok (.aload_n 0, 1) := by decide +kernel
theorem smd_L_law_678 : decode code 678 = .ok (.iload_n 3, 1) := by decide +kernel
theorem smd_L_law_679 : decode code 679 = .ok (.iconst 1, 1) := by decide +kernel
theorem smd_L_law_680 : decode code 680 = .ok (.iadd, 1) := by decide +kernel
theorem smd_L_law_681 : decode code 681 = .ok (.iaload, 1) := by decide +kernel
theorem smd_L_law_682 : decode code 682 = .ok (.invokevirtual 94, 3) := by decide +kernel
theorem smd_L_law_685 : decode code 685 = .ok (.aload_n 2, 1) := by decide +kernel
theorem smd_L_law_686 : decode code 686 = .ok (.aload_n 0, 1) := by decide +kernel
theorem smd_L_law_687 : decode code 687 = .ok (.iload_n 3, 1) := by decide +kernel
theorem smd_L_law_688 : decode code 688 = .ok (.iconst 1, 1) := by decide +kernel
theorem smd_L_law_689 : decode code 689 = .ok (.iadd, 1) := by decide +kernel
theorem smd_L_law_690 : decode code 690 = .ok (.iaload, 1) := by decide +kernel
theorem smd_L_law_691 : decode code 691 = .ok (.invokevirtual 97, 3) := by decide +kernel
theorem smd_L_law_694 : decode code 694 = .ok (.if_icmp .eq 87, 3) := by decide +kernel
theorem smd_L_law_697 : decode code 697 = .ok (.iconst 0, 1) := by decide +kernel
theorem smd_L_law_698 : decode code 698 = .ok (.ireturn, 1) := by decide +kernel
theorem smd_L_law_699 : decode code 699 = .ok (.aload_n 1, 1) := by decide +kernel
theorem smd_L_law_700 : decode code 700 = .ok (.aload_n 0, 1) := by decide +kernel
theorem smd_L_law_701 : decode code 701 = .ok (.iload_n 3, 1) := by decide +kernel
theorem smd_L_law_702 : decode code 702 = .ok (.iconst 1, 1) := by decide +kernel
theorem smd_L_law_703 : decode code 703 = .ok (.iadd, 1) := by decide +kernel
theorem smd_L_law_704 : decode code 704 = .ok (.iaload, 1) := by decide +kernel
theorem smd_L_law_705 : decode code 705 = .ok (.invokevirtual 98, 3) := by decide +kernel
theorem smd_L_law_708 : decode code 708 = .ok (.aload_n 2, 1) := by decide +kernel
theorem smd_L_law_709 : decode code 709 = .ok (.aload_n 0, 1) := by decide +kernel
theorem smd_L_law_710 : decode code 710 = .ok (.iload_n 3, 1) := by decide +kernel
theorem smd_L_law_711 : decode code 711 = .ok (.iconst 1, 1) := by decide +kernel
theorem smd_L_law_712 : decode code 712 = .ok (.iadd, 1) := by decide +kernel
theorem smd_L_law_713 : decode code 713 = .ok (.iaload, 1) := by decide +kernel
theorem smd_L_law_714 : decode code 714 = .ok (.invokevirtual 101, 3) := by decide +kernel
theorem smd_L_law_717 : decode code 717 = .ok (.if_icmp .eq 64, 3) := by decide +kernel
theorem smd_L_law_720 : decode code 720 = .ok (.iconst 0, 1) := by decide +kernel
theorem smd_L_law_721 : decode code 721 = .ok (.ireturn, 1) := by decide +kernel
theorem smd_L_law_722 : decode code 722 = .ok (.aload_n 1, 1) := by decide +kernel
theorem smd_L_law_723 : decode code 723 = .ok (.aload_n 0, 1) := by decide +kernel
theorem smd_L_law_724 : decode code 724 = .ok (.iload_n 3, 1) := by decide +kernel
theorem smd_L_law_725 : decode code 725 = .ok (.iconst 1, 1) := by decide +kernel
theorem smd_L_law_726 : decode code 726 = .ok (.iadd, 1) := by decide +kernel
theorem smd_L_law_727 : decode code 727 = .ok (.iaload, 1) := by decide +kernel
theorem smd_L_law_728 : decode code 728 = .ok (.aload_n 0, 1) := by decide +kernel
theorem smd_L_law_729 : decode code 729 = .ok (.iload_n 3, 1) := by decide +kernel
theorem smd_L_law_730 : decode code 730 = .ok (.iconst 2, 1) := by decide +kernel
theorem smd_L_law_731 : decode code 731 = .ok (.iadd, 1) := by decide +kernel
theorem smd_L_law_732 : decode code 732 = .ok (.iaload, 1) := by decide +kernel
theorem smd_L_law_733 : decode code 733 = .ok (.invokevirtual 102, 3) := by decide +kernel
theorem smd_L_law_736 : decode code 736 = .ok (.aload_n 2, 1) := by decide +kernel
theorem smd_L_law_737 : decode code 737 = .ok (.aload_n 0, 1) := by decide +kernel
theorem smd_L_law_738 : decode code 738 = .ok (.iload_n 3, 1) := by decide +kernel
theorem smd_L_law_739 : decode code 739 = .ok (.iconst 1, 1) := by decide +kernel
theorem smd_L_law_740 : decode code 740 = .ok (.iadd, 1) := by decide +kernel
theorem smd_L_law_741 : decode code 741 = .ok (.iaload, 1) := by decide +kernel
theorem smd_L_law_742 : decode code 742 = .ok (.aload_n 0, 1) := by decide +kernel
theorem smd_L_law_743 : decode code 743 = .ok (.iload_n 3, 1) := by decide +kernel
theorem smd_L_law_744 : decode code 744 = .ok (.iconst 2, 1) := by decide +kernel
theorem smd_L_law_745 : decode code 745 = .ok (.iadd, 1) := by decide +kernel
theorem smd_L_law_746 : decode code 746 = .ok (.iaload, 1) := by decide +kernel
theorem smd_L_law_747 : decode code 747 = .ok (.invokevirtual 105, 3) := by decide +kernel
theorem smd_L_law_750 : decode code 750 = .ok (.if_icmp .eq 31, 3) := by decide +kernel
theorem smd_L_law_753 : decode code 753 = .ok (.iconst 0, 1) := by decide +kernel
theorem smd_L_law_754 : decode code 754 = .ok (.ireturn, 1) := by decide +kernel
theorem smd_L_law_755 : decode code 755 = .ok (.aload_n 1, 1) := by decide +kernel
theorem smd_L_law_756 : decode code 756 = .ok (.invokevirtual 106, 3) := by decide +kernel
theorem smd_L_law_759 : decode code 759 = .ok (.aload_n 2, 1) := by decide +kernel
theorem smd_L_law_760 : decode code 760 = .ok (.invokevirtual 109, 3) := by decide +kernel
theorem smd_L_law_763 : decode code 763 = .ok (.if_icmp .eq 18, 3) := by decide +kernel
theorem smd_L_law_766 : decode code 766 = .ok (.iconst 0, 1) := by decide +kernel
theorem smd_L_law_767 : decode code 767 = .ok (.ireturn, 1) := by decide +kernel
theorem smd_L_law_768 : decode code 768 = .ok (.aload_n 1, 1) := by decide +kernel
theorem smd_L_law_769 : decode code 769 = .ok (.invokevirtual 110, 3) := by decide +kernel
theorem smd_L_law_772 : decode code 772 = .ok (.aload_n 2, 1) := by decide +kernel
theorem smd_L_law_773 : decode code 773 = .ok (.invokevirtual 113, 3) := by decide +kernel
theorem smd_L_law_776 : decode code 776 = .ok (.if_icmp .eq 5, 3) := by decide +kernel
theorem smd_L_law_779 : decode code 779 = .ok (.iconst 0, 1) := by decide +kernel
theorem smd_L_law_780 : decode code 780 = .ok (.ireturn, 1) := by decide +kernel
theorem smd_L_law_781 : decode code 781 = .ok (.iinc 3 7, 3) := by decide +kernel
theorem smd_L_law_784 : decode code 784 = .ok (.goto (-766), 3) := by decide +kernel
theorem smd_L_law_787 : decode code 787 = .ok (.iconst 1, 1) := by decide +kernel
theorem smd_L_law_788 : decode code 788 = .ok (.ireturn, 1) := by decide +kernel
