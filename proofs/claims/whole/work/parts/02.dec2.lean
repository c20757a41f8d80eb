theorem smd_M_stage_0 : decode prog_7_method_14_code 0 = .ok (.aload_n 0, 1) := by decide +kernel
theorem smd_M_stage_1 : decode prog_7_method_14_code 1 = .ok (.getfield 63, 3) := by decide +kernel
theorem smd_M_stage_4 : decode prog_7_method_14_code 4 = .ok (.ifCond .eq 6, 3) := by decide +kernel
theorem smd_M_stage_7 : decode prog_7_method_14_code 7 = .ok (.bipush (-2), 2) := by decide +kernel
theorem smd_M_stage_9 : decode prog_7_method_14_code 9 = .ok (.ireturn, 1) := by decide +kernel
theorem smd_M_stage_10 : decode prog_7_method_14_code 10 = .ok (.iconst 0, 1) := by decide +kernel
theorem smd_M_stage_11 : decode prog_7_method_14_code 11 = .ok (.istore_n 1, 1) := by decide +kernel
theorem smd_M_stage_12 : decode prog_7_method_14_code 12 = .ok (.iload_n 1, 1) := by decide +kernel
theorem smd_M_stage_13 : decode prog_7_method_14_code 13 = .ok (.bipush 6, 2) := by decide +kernel
theorem smd_M_stage_15 : decode prog_7_method_14_code 15 = .ok (.if_icmp .ge 94, 3) := by decide +kernel
theorem smd_M_stage_18 : decode prog_7_method_14_code 18 = .ok (.iconst 0, 1) := by decide +kernel
theorem smd_M_stage_19 : decode prog_7_method_14_code 19 = .ok (.istore_n 2, 1) := by decide +kernel
theorem smd_M_stage_20 : decode prog_7_method_14_code 20 = .ok (.iload_n 2, 1) := by decide +kernel
theorem smd_M_stage_21 : decode prog_7_method_14_code 21 = .ok (.aload_n 0, 1) := by decide +kernel
theorem smd_M_stage_22 : decode prog_7_method_14_code 22 = .ok (.getfield 13, 3) := by decide +kernel
theorem smd_M_stage_25 : decode prog_7_method_14_code 25 = .ok (.bipush 6, 2) := by decide +kernel
theorem smd_M_stage_27 : decode prog_7_method_14_code 27 = .ok (.iload_n 1, 1) := by decide +kernel
theorem smd_M_stage_28 : decode prog_7_method_14_code 28 = .ok (.iadd, 1) := by decide +kernel
theorem smd_M_stage_29 : decode prog_7_method_14_code 29 = .ok (.iaload, 1) := by decide +kernel
theorem smd_M_stage_30 : decode prog_7_method_14_code 30 = .ok (.if_icmp .ge 73, 3) := by decide +kernel
theorem smd_M_stage_33 : decode prog_7_method_14_code 33 = .ok (.iload_n 2, 1) := by decide +kernel
theorem smd_M_stage_34 : decode prog_7_method_14_code 34 = .ok (.iconst 1, 1) := by decide +kernel
theorem smd_M_stage_35 : decode prog_7_method_14_code 35 = .ok (.iadd, 1) := by decide +kernel
theorem smd_M_stage_36 : decode prog_7_method_14_code 36 = .ok (.aload_n 0, 1) := by decide +kernel
theorem smd_M_stage_37 : decode prog_7_method_14_code 37 = .ok (.getfield 13, 3) := by decide +kernel
theorem smd_M_stage_40 : decode prog_7_method_14_code 40 = .ok (.bipush 6, 2) := by decide +kernel
theorem smd_M_stage_42 : decode prog_7_method_14_code 42 = .ok (.iload_n 1, 1) := by decide +kernel
theorem smd_M_stage_43 : decode prog_7_method_14_code 43 = .ok (.iadd, 1) := by decide +kernel
theorem smd_M_stage_44 : decode prog_7_method_14_code 44 = .ok (.iaload, 1) := by decide +kernel
theorem smd_M_stage_45 : decode prog_7_method_14_code 45 = .ok (.if_icmp .lt 23, 3) := by decide +kernel
theorem smd_M_stage_48 : decode prog_7_method_14_code 48 = .ok (.aload_n 0, 1) := by decide +kernel
theorem smd_M_stage_49 : decode prog_7_method_14_code 49 = .ok (.getfield 7, 3) := by decide +kernel
theorem smd_M_stage_52 : decode prog_7_method_14_code 52 = .ok (.sipush 288, 3) := by decide +kernel
theorem smd_M_stage_55 : decode prog_7_method_14_code 55 = .ok (.bipush 48, 2) := by decide +kernel
theorem smd_M_stage_57 : decode prog_7_method_14_code 57 = .ok (.iload_n 1, 1) := by decide +kernel
theorem smd_M_stage_58 : decode prog_7_method_14_code 58 = .ok (.imul, 1) := by decide +kernel
theorem smd_M_stage_59 : decode prog_7_method_14_code 59 = .ok (.iadd, 1) := by decide +kernel
theorem smd_M_stage_60 : decode prog_7_method_14_code 60 = .ok (.iconst 4, 1) := by decide +kernel
theorem smd_M_stage_61 : decode prog_7_method_14_code 61 = .ok (.iload_n 2, 1) := by decide +kernel
theorem smd_M_stage_62 : decode prog_7_method_14_code 62 = .ok (.imul, 1) := by decide +kernel
theorem smd_M_stage_63 : decode prog_7_method_14_code 63 = .ok (.iadd, 1) := by decide +kernel
theorem smd_M_stage_64 : decode prog_7_method_14_code 64 = .ok (.iaload, 1) := by decide +kernel
theorem smd_M_stage_65 : decode prog_7_method_14_code 65 = .ok (.ifCond .ne 7, 3) := by decide +kernel
theorem smd_M_stage_68 : decode prog_7_method_14_code 68 = .ok (.iconst 1, 1) := by decide +kernel
theorem smd_M_stage_69 : decode prog_7_method_14_code 69 = .ok (.goto 4, 3) := by decide +kernel
theorem smd_M_stage_72 : decode prog_7_method_14_code 72 = .ok (.iconst 0, 1) := by decide +kernel
theorem smd_M_stage_73 : decode prog_7_method_14_code 73 = .ok (.istore_n 3, 1) := by decide +kernel
theorem smd_M_stage_74 : decode prog_7_method_14_code 74 = .ok (.aload_n 0, 1) := by decide +kernel
theorem smd_M_stage_75 : decode prog_7_method_14_code 75 = .ok (.iload_n 1, 1) := by decide +kernel
theorem smd_M_stage_76 : decode prog_7_method_14_code 76 = .ok (.iload_n 2, 1) := by decide +kernel
theorem smd_M_stage_77 : decode prog_7_method_14_code 77 = .ok (.invokevirtual 83, 3) := by decide +kernel
theorem smd_M_stage_80 : decode prog_7_method_14_code 80 = .ok (.ifCond .eq 7, 3) := by decide +kernel
theorem smd_M_stage_83 : decode prog_7_method_14_code 83 = .ok (.iload_n 3, 1) := by decide +kernel
theorem smd_M_stage_84 : decode prog_7_method_14_code 84 = .ok (.ifCond .ne 13, 3) := by decide +kernel
theorem smd_M_stage_87 : decode prog_7_method_14_code 87 = .ok (.bipush (-100), 2) := by decide +kernel
theorem smd_M_stage_89 : decode prog_7_method_14_code 89 = .ok (.bipush 12, 2) := by decide +kernel
theorem smd_M_stage_91 : decode prog_7_method_14_code 91 = .ok (.iload_n 1, 1) := by decide +kernel
theorem smd_M_stage_92 : decode prog_7_method_14_code 92 = .ok (.imul, 1) := by decide +kernel
theorem smd_M_stage_93 : decode prog_7_method_14_code 93 = .ok (.iload_n 2, 1) := by decide +kernel
theorem smd_M_stage_94 : decode prog_7_method_14_code 94 = .ok (.iadd, 1) := by decide +kernel
theorem smd_M_stage_95 : decode prog_7_method_14_code 95 = .ok (.isub, 1) := by decide +kernel
theorem smd_M_stage_96 : decode prog_7_method_14_code 96 = .ok (.ireturn, 1) := by decide +kernel
theorem smd_M_stage_97 : decode prog_7_method_14_code 97 = .ok (.iinc 2 1, 3) := by decide +kernel
theorem smd_M_stage_100 : decode prog_7_method_14_code 100 = .ok (.goto (-80), 3) := by decide +kernel
theorem smd_M_stage_103 : decode prog_7_method_14_code 103 = .ok (.iinc 1 1, 3) := by decide +kernel
theorem smd_M_stage_106 : decode prog_7_method_14_code 106 = .ok (.goto (-94), 3) := by decide +kernel
theorem smd_M_stage_109 : decode prog_7_method_14_code 109 = .ok (.iconst 0, 1) := by decide +kernel
theorem smd_M_stage_110 : decode prog_7_method_14_code 110 = .ok (.istore_n 1, 1) := by decide +kernel
theorem smd_M_stage_111 : decode prog_7_method_14_code 111 = .ok (.iload_n 1, 1) := by decide +kernel
theorem smd_M_stage_112 : decode prog_7_method_14_code 112 = .ok (.iconst 3, 1) := by decide +kernel
theorem smd_M_stage_113 : decode prog_7_method_14_code 113 = .ok (.if_icmp .ge 88, 3) := by decide +kernel
theorem smd_M_stage_116 : decode prog_7_method_14_code 116 = .ok (.iconst 0, 1) := by decide +kernel
theorem smd_M_stage_117 : decode prog_7_method_14_code 117 = .ok (.istore_n 2, 1) := by decide +kernel
theorem smd_M_stage_118 : decode prog_7_method_14_code 118 = .ok (.iload_n 2, 1) := by decide +kernel
theorem smd_M_stage_119 : decode prog_7_method_14_code 119 = .ok (.aload_n 0, 1) := by decide +kernel
theorem smd_M_stage_120 : decode prog_7_method_14_code 120 = .ok (.getfield 16, 3) := by decide +kernel
theorem smd_M_stage_123 : decode prog_7_method_14_code 123 = .ok (.iconst 3, 1) := by decide +kernel
theorem smd_M_stage_124 : decode prog_7_method_14_code 124 = .ok (.iload_n 1, 1) := by decide +kernel
theorem smd_M_stage_125 : decode prog_7_method_14_code 125 = .ok (.iadd, 1) := by decide +kernel
theorem smd_M_stage_126 : decode prog_7_method_14_code 126 = .ok (.iaload, 1) := by decide +kernel
theorem smd_M_stage_127 : decode prog_7_method_14_code 127 = .ok (.if_icmp .ge 68, 3) := by decide +kernel
theorem smd_M_stage_130 : decode prog_7_method_14_code 130 = .ok (.aload_n 0, 1) := by decide +kernel
theorem smd_M_stage_131 : decode prog_7_method_14_code 131 = .ok (.getfield 22, 3) := by decide +kernel
theorem smd_M_stage_134 : decode prog_7_method_14_code 134 = .ok (.iload_n 1, 1) := by decide +kernel
theorem smd_M_stage_135 : decode prog_7_method_14_code 135 = .ok (.baload, 1) := by decide +kernel
theorem smd_M_stage_136 : decode prog_7_method_14_code 136 = .ok (.ifCond .eq 59, 3) := by decide +kernel
theorem smd_M_stage_139 : decode prog_7_method_14_code 139 = .ok (.aload_n 0, 1) := by decide +kernel
theorem smd_M_stage_140 : decode prog_7_method_14_code 140 = .ok (.getfield 19, 3) := by decide +kernel
theorem smd_M_stage_143 : decode prog_7_method_14_code 143 = .ok (.bipush 12, 2) := by decide +kernel
theorem smd_M_stage_145 : decode prog_7_method_14_code 145 = .ok (.iload_n 1, 1) := by decide +kernel
theorem smd_M_stage_146 : decode prog_7_method_14_code 146 = .ok (.imul, 1) := by decide +kernel
theorem smd_M_stage_147 : decode prog_7_method_14_code 147 = .ok (.iconst 3, 1) := by decide +kernel
theorem smd_M_stage_148 : decode prog_7_method_14_code 148 = .ok (.iload_n 2, 1) := by decide +kernel
theorem smd_M_stage_149 : decode prog_7_method_14_code 149 = .ok (.imul, 1) := by decide +kernel
theorem smd_M_stage_150 : decode prog_7_method_14_code 150 = .ok (.iadd, 1) := by decide +kernel
theorem smd_M_stage_151 : decode prog_7_method_14_code 151 = .ok (.iaload, 1) := by decide +kernel
theorem smd_M_stage_152 : decode prog_7_method_14_code 152 = .ok (.ifCond .le 37, 3) := by decide +kernel
theorem smd_M_stage_155 : decode prog_7_method_14_code 155 = .ok (.aload_n 0, 1) := by decide +kernel
theorem smd_M_stage_156 : decode prog_7_method_14_code 156 = .ok (.getfield 19, 3) := by decide +kernel
theorem smd_M_stage_159 : decode prog_7_method_14_code 159 = .ok (.bipush 12, 2) := by decide +kernel
theorem smd_M_stage_161 : decode prog_7_method_14_code 161 = .ok (.iload_n 1, 1) := by decide +kernel
theorem smd_M_stage_162 : decode prog_7_method_14_code 162 = .ok (.imul, 1) := by decide +kernel
theorem smd_M_stage_163 : decode prog_7_method_14_code 163 = .ok (.iconst 3, 1) := by decide +kernel
theorem smd_M_stage_164 : decode prog_7_method_14_code 164 = .ok (.iload_n 2, 1) := by decide +kernel
theorem smd_M_stage_165 : decode prog_7_method_14_code 165 = .ok (.imul, 1) := by decide +kernel
theorem smd_M_stage_166 : decode prog_7_method_14_code 166 = .ok (.iadd, 1) := by decide +kernel
theorem smd_M_stage_167 : decode prog_7_method_14_code 167 = .ok (.iconst 1, 1) := by decide +kernel
theorem smd_M_stage_168 : decode prog_7_method_14_code 168 = .ok (.iadd, 1) := by decide +kernel
theorem smd_M_stage_169 : decode prog_7_method_14_code 169 = .ok (.iaload, 1) := by decide +kernel
theorem smd_M_stage_170 : decode prog_7_method_14_code 170 = .ok (.aload_n 0, 1) := by decide +kernel
theorem smd_M_stage_171 : decode prog_7_method_14_code 171 = .ok (.getfield 16, 3) := by decide +kernel
theorem smd_M_stage_174 : decode prog_7_method_14_code 174 = .ok (.iload_n 1, 1) := by decide +kernel
theorem smd_M_stage_175 : decode prog_7_method_14_code 175 = .ok (.iaload, 1) := by decide +kernel
theorem smd_M_stage_176 : decode prog_7_method_14_code 176 = .ok (.if_icmp .lt 13, 3) := by decide +kernel
theorem smd_M_stage_179 : decode prog_7_method_14_code 179 = .ok (.sipush (-200), 3) := by decide +kernel
theorem smd_M_stage_182 : decode prog_7_method_14_code 182 = .ok (.iconst 4, 1) := by decide +kernel
theorem smd_M_stage_183 : decode prog_7_method_14_code 183 = .ok (.iload_n 1, 1) := by decide +kernel
theorem smd_M_stage_184 : decode prog_7_method_14_code 184 = .ok (.imul, 1) := by decide +kernel
theorem smd_M_stage_185 : decode prog_7_method_14_code 185 = .ok (.iload_n 2, 1) := by decide +kernel
theorem smd_M_stage_186 : decode prog_7_method_14_code 186 = .ok (.iadd, 1) := by decide +kernel
theorem smd_M_stage_187 : decode prog_7_method_14_code 187 = .ok (.isub, 1) := by decide +kernel
theorem smd_M_stage_188 : decode prog_7_method_14_code 188 = .ok (.ireturn, 1) := by decide +kernel
theorem smd_M_stage_189 : decode prog_7_method_14_code 189 = .ok (.iinc 2 1, 3) := by decide +kernel
theorem smd_M_stage_192 : decode prog_7_method_14_code 192 = .ok (.goto (-74), 3) := by decide +kernel
theorem smd_M_stage_195 : decode prog_7_method_14_code 195 = .ok (.iinc 1 1, 3) := by decide +kernel
theorem smd_M_stage_198 : decode prog_7_method_14_code 198 = .ok (.goto (-87), 3) := by decide +kernel
theorem smd_M_stage_201 : decode prog_7_method_14_code 201 = .ok (.aload_n 0, 1) := by decide +kernel
theorem smd_M_stage_202 : decode prog_7_method_14_code 202 = .ok (.iconst 1, 1) := by decide +kernel
theorem smd_M_stage_203 : decode prog_7_method_14_code 203 = .ok (.putfield 63, 3) := by decide +kernel
theorem smd_M_stage_206 : decode prog_7_method_14_code 206 = .ok (.iconst 0, 1) := by decide +kernel
theorem smd_M_stage_207 : decode prog_7_method_14_code 207 = .ok (.ireturn, 1) := by decide +kernel
theorem smd_M_withdraw_0 : decode prog_7_method_15_code 0 = .ok (.aload_n 0, 1) := by decide +kernel
theorem smd_M_withdraw_1 : decode prog_7_method_15_code 1 = .ok (.getfield 63, 3) := by decide +kernel
theorem smd_M_withdraw_4 : decode prog_7_method_15_code 4 = .ok (.istore_n 1, 1) := by decide +kernel
theorem smd_M_withdraw_5 : decode prog_7_method_15_code 5 = .ok (.aload_n 0, 1) := by decide +kernel
theorem smd_M_withdraw_6 : decode prog_7_method_15_code 6 = .ok (.iconst 0, 1) := by decide +kernel
theorem smd_M_withdraw_7 : decode prog_7_method_15_code 7 = .ok (.putfield 63, 3) := by decide +kernel
theorem smd_M_withdraw_10 : decode prog_7_method_15_code 10 = .ok (.iload_n 1, 1) := by decide +kernel
theorem smd_M_withdraw_11 : decode prog_7_method_15_code 11 = .ok (.ireturn, 1) := by decide +kernel
theorem smd_M_isOther_0 : decode prog_7_method_16_code 0 = .ok (.aload_n 0, 1) := by decide +kernel
theorem smd_M_isOther_1 : decode prog_7_method_16_code 1 = .ok (.getfield 13, 3) := by decide +kernel
theorem smd_M_isOther_4 : decode prog_7_method_16_code 4 = .ok (.iload_n 1, 1) := by decide +kernel
theorem smd_M_isOther_5 : decode prog_7_method_16_code 5 = .ok (.iaload, 1) := by decide +kernel
theorem smd_M_isOther_6 : decode prog_7_method_16_code 6 = .ok (.aload_n 0, 1) := by decide +kernel
theorem smd_M_isOther_7 : decode prog_7_method_16_code 7 = .ok (.getfield 13, 3) := by decide +kernel
theorem smd_M_isOther_10 : decode prog_7_method_16_code 10 = .ok (.bipush 6, 2) := by decide +kernel
theorem smd_M_isOther_12 : decode prog_7_method_16_code 12 = .ok (.iload_n 1, 1) := by decide +kernel
theorem smd_M_isOther_13 : decode prog_7_method_16_code 13 = .ok (.iadd, 1) := by decide +kernel
theorem smd_M_isOther_14 : decode prog_7_method_16_code 14 = .ok (.iaload, 1) := by decide +kernel
theorem smd_M_isOther_15 : decode prog_7_method_16_code 15 = .ok (.if_icmp .eq 5, 3) := by decide +kernel
theorem smd_M_isOther_18 : decode prog_7_method_16_code 18 = .ok (.iconst 1, 1) := by decide +kernel
theorem smd_M_isOther_19 : decode prog_7_method_16_code 19 = .ok (.ireturn, 1) := by decide +kernel
theorem smd_M_isOther_20 : decode prog_7_method_16_code 20 = .ok (.iconst 0, 1) := by decide +kernel
theorem smd_M_isOther_21 : decode prog_7_method_16_code 21 = .ok (.istore_n 2, 1) := by decide +kernel
theorem smd_M_isOther_22 : decode prog_7_method_16_code 22 = .ok (.bipush 48, 2) := by decide +kernel
theorem smd_M_isOther_24 : decode prog_7_method_16_code 24 = .ok (.iload_n 1, 1) := by decide +kernel
theorem smd_M_isOther_25 : decode prog_7_method_16_code 25 = .ok (.imul, 1) := by decide +kernel
theorem smd_M_isOther_26 : decode prog_7_method_16_code 26 = .ok (.istore_n 3, 1) := by decide +kernel
theorem smd_M_isOther_27 : decode prog_7_method_16_code 27 = .ok (.iload_n 3, 1) := by decide +kernel
theorem smd_M_isOther_28 : decode prog_7_method_16_code 28 = .ok (.bipush 48, 2) := by decide +kernel
theorem smd_M_isOther_30 : decode prog_7_method_16_code 30 = .ok (.iload_n 1, 1) := by decide +kernel
theorem smd_M_isOther_31 : decode prog_7_method_16_code 31 = .ok (.imul, 1) := by decide +kernel
theorem smd_M_isOther_32 : decode prog_7_method_16_code 32 = .ok (.iconst 4, 1) := by decide +kernel
theorem smd_M_isOther_33 : decode prog_7_method_16_code 33 = .ok (.aload_n 0, 1) := by decide +kernel
theorem smd_M_isOther_34 : decode prog_7_method_16_code 34 = .ok (.getfield 13, 3) := by decide +kernel
theorem smd_M_isOther_37 : decode prog_7_method_16_code 37 = .ok (.iload_n 1, 1) := by decide +kernel
theorem smd_M_isOther_38 : decode prog_7_method_16_code 38 = .ok (.iaload, 1) := by decide +kernel
theorem smd_M_isOther_39 : decode prog_7_method_16_code 39 = .ok (.imul, 1) := by decide +kernel
theorem smd_M_isOther_40 : decode prog_7_method_16_code 40 = .ok (.iadd, 1) := by decide +kernel
theorem smd_M_isOther_41 : decode prog_7_method_16_code 41 = .ok (.if_icmp .ge 38, 3) := by decide +kernel
theorem smd_M_isOther_44 : decode prog_7_method_16_code 44 = .ok (.iload_n 2, 1) := by decide +kernel
theorem smd_M_isOther_45 : decode prog_7_method_16_code 45 = .ok (.ifCond .ne 22, 3) := by decide +kernel
theorem smd_M_isOther_48 : decode prog_7_method_16_code 48 = .ok (.aload_n 0, 1) := by decide +kernel
theorem smd_M_isOther_49 : decode prog_7_method_16_code 49 = .ok (.getfield 7, 3) := by decide +kernel
theorem smd_M_isOther_52 : decode prog_7_method_16_code 52 = .ok (.iload_n 3, 1) := by decide +kernel
theorem smd_M_isOther_53 : decode prog_7_method_16_code 53 = .ok (.iaload, 1) := by decide +kernel
theorem smd_M_isOther_54 : decode prog_7_method_16_code 54 = .ok (.aload_n 0, 1) := by decide +kernel
theorem smd_M_isOther_55 : decode prog_7_method_16_code 55 = .ok (.getfield 7, 3) := by decide +kernel
theorem smd_M_isOther_58 : decode prog_7_method_16_code 58 = .ok (.sipush 288, 3) := by decide +kernel
theorem smd_M_isOther_61 : decode prog_7_method_16_code 61 = .ok (.iload_n 3, 1) := by decide +kernel
theorem smd_M_isOther_62 : decode prog_7_method_16_code 62 = .ok (.iadd, 1) := by decide +kernel
theorem smd_M_isOther_63 : decode prog_7_method_16_code 63 = .ok (.iaload, 1) := by decide +kernel
theorem smd_M_isOther_64 : decode prog_7_method_16_code 64 = .ok (.if_icmp .eq 7, 3) := by decide +kernel
theorem smd_M_isOther_67 : decode prog_7_method_16_code 67 = .ok (.iconst 1, 1) := by decide +kernel
theorem smd_M_isOther_68 : decode prog_7_method_16_code 68 = .ok (.goto 4, 3) := by decide +kernel
theorem smd_M_isOther_71 : decode prog_7_method_16_code 71 = .ok (.iconst 0, 1) := by decide +kernel
theorem smd_M_isOther_72 : decode prog_7_method_16_code 72 = .ok (.istore_n 2, 1) := by decide +kernel
theorem smd_M_isOther_73 : decode prog_7_method_16_code 73 = .ok (.iinc 3 1, 3) := by decide +kernel
theorem smd_M_isOther_76 : decode prog_7_method_16_code 76 = .ok (.goto (-49), 3) := by decide +kernel
theorem smd_M_isOther_79 : decode prog_7_method_16_code 79 = .ok (.iload_n 2, 1) := by decide +kernel
theorem smd_M_isOther_80 : decode prog_7_method_16_code 80 = .ok (.ireturn, 1) := by decide +kernel
theorem smd_M_usesTouched_0 : decode prog_7_method_17_code 0 = .ok (.iconst 0, 1) := by decide +kernel
theorem smd_M_usesTouched_1 : decode prog_7_method_17_code 1 = .ok (.istore_n 2, 1) := by decide +kernel
theorem smd_M_usesTouched_2 : decode prog_7_method_17_code 2 = .ok (.iconst 0, 1) := by decide +kernel
theorem smd_M_usesTouched_3 : decode prog_7_method_17_code 3 = .ok (.istore_n 3, 1) := by decide +kernel
theorem smd_M_usesTouched_4 : decode prog_7_method_17_code 4 = .ok (.iload_n 3, 1) := by decide +kernel
theorem smd_M_usesTouched_5 : decode prog_7_method_17_code 5 = .ok (.aload_n 0, 1) := by decide +kernel
theorem smd_M_usesTouched_6 : decode prog_7_method_17_code 6 = .ok (.getfield 13, 3) := by decide +kernel
theorem smd_M_usesTouched_9 : decode prog_7_method_17_code 9 = .ok (.iload_n 1, 1) := by decide +kernel
theorem smd_M_usesTouched_10 : decode prog_7_method_17_code 10 = .ok (.iaload, 1) := by decide +kernel
theorem smd_M_usesTouched_11 : decode prog_7_method_17_code 11 = .ok (.if_icmp .ge 109, 3) := by decide +kernel
theorem smd_M_usesTouched_14 : decode prog_7_method_17_code 14 = .ok (.bipush 48, 2) := by decide +kernel
theorem smd_M_usesTouched_16 : decode prog_7_method_17_code 16 = .ok (.iload_n 1, 1) := by decide +kernel
theorem smd_M_usesTouched_17 : decode prog_7_method_17_code 17 = .ok (.imul, 1) := by decide +kernel
theorem smd_M_usesTouched_18 : decode prog_7_method_17_code 18 = .ok (.iconst 4, 1) := by decide +kernel
theorem smd_M_usesTouched_19 : decode prog_7_method_17_code 19 = .ok (.iload_n 3, 1) := by decide +kernel
theorem smd_M_usesTouched_20 : decode prog_7_method_17_code 20 = .ok (.imul, 1) := by decide +kernel
theorem smd_M_usesTouched_21 : decode prog_7_method_17_code 21 = .ok (.iadd, 1) := by decide +kernel
theorem smd_M_usesTouched_22 : decode prog_7_method_17_code 22 = .ok (.istore 4, 2) := by decide +kernel
theorem smd_M_usesTouched_24 : decode prog_7_method_17_code 24 = .ok (.aload_n 0, 1) := by decide +kernel
theorem smd_M_usesTouched_25 : decode prog_7_method_17_code 25 = .ok (.getfield 7, 3) := by decide +kernel
theorem smd_M_usesTouched_28 : decode prog_7_method_17_code 28 = .ok (.iload 4, 2) := by decide +kernel
theorem smd_M_usesTouched_30 : decode prog_7_method_17_code 30 = .ok (.iaload, 1) := by decide +kernel
theorem smd_M_usesTouched_31 : decode prog_7_method_17_code 31 = .ok (.bipush 6, 2) := by decide +kernel
theorem smd_M_usesTouched_33 : decode prog_7_method_17_code 33 = .ok (.if_icmp .ne 15, 3) := by decide +kernel
theorem smd_M_usesTouched_36 : decode prog_7_method_17_code 36 = .ok (.aload_n 0, 1) := by decide +kernel
theorem smd_M_usesTouched_37 : decode prog_7_method_17_code 37 = .ok (.getfield 7, 3) := by decide +kernel
theorem smd_M_usesTouched_40 : decode prog_7_method_17_code 40 = .ok (.iload 4, 2) := by decide +kernel
theorem smd_M_usesTouched_42 : decode prog_7_method_17_code 42 = .ok (.iconst 2, 1) := by decide +kernel
theorem smd_M_usesTouched_43 : decode prog_7_method_17_code 43 = .ok (.iadd, 1) := by decide +kernel
theorem smd_M_usesTouched_44 : decode prog_7_method_17_code 44 = .ok (.iaload, 1) := by decide +kernel
theorem smd_M_usesTouched_45 : decode prog_7_method_17_code 45 = .ok (.goto 42, 3) := by decide +kernel
theorem smd_M_usesTouched_48 : decode prog_7_method_17_code 48 = .ok (.aload_n 0, 1) := by decide +kernel
theorem smd_M_usesTouched_49 : decode prog_7_method_17_code 49 = .ok (.getfield 7, 3) := by decide +kernel
theorem smd_M_usesTouched_52 : decode prog_7_method_17_code 52 = .ok (.iload 4, 2) := by decide +kernel
theorem smd_M_usesTouched_54 : decode prog_7_method_17_code 54 = .ok (.iaload, 1) := by decide +kernel
theorem smd_M_usesTouched_55 : decode prog_7_method_17_code 55 = .ok (.bipush 7, 2) := by decide +kernel
theorem smd_M_usesTouched_57 : decode prog_7_method_17_code 57 = .ok (.if_icmp .eq 15, 3) := by decide +kernel
theorem smd_M_usesTouched_60 : decode prog_7_method_17_code 60 = .ok (.aload_n 0, 1) := by decide +kernel
theorem smd_M_usesTouched_61 : decode prog_7_method_17_code 61 = .ok (.getfield 7, 3) := by decide +kernel
theorem smd_M_usesTouched_64 : decode prog_7_method_17_code 64 = .ok (.iload 4, 2) := by decide +kernel
theorem smd_M_usesTouched_66 : decode prog_7_method_17_code 66 = .ok (.iaload, 1) := by decide +kernel
theorem smd_M_usesTouched_67 : decode prog_7_method_17_code 67 = .ok (.bipush 8, 2) := by decide +kernel
theorem smd_M_usesTouched_69 : decode prog_7_method_17_code 69 = .ok (.if_icmp .ne 17, 3) := by decide +kernel
theorem smd_M_usesTouched_72 : decode prog_7_method_17_code 72 = .ok (.aload_n 0, 1) := by decide +kernel
theorem smd_M_usesTouched_73 : decode prog_7_method_17_code 73 = .ok (.getfield 7, 3) := by decide +kernel
theorem smd_M_usesTouched_76 : decode prog_7_method_17_code 76 = .ok (.iload 4, 2) := by decide +kernel
theorem smd_M_usesTouched_78 : decode prog_7_method_17_code 78 = .ok (.iconst 3, 1) := by decide +kernel
theorem smd_M_usesTouched_79 : decode prog_7_method_17_code 79 = .ok (.iadd, 1) := by decide +kernel
theorem smd_M_usesTouched_80 : decode prog_7_method_17_code 80 = .ok (.iaload, 1) := by decide +kernel
theorem smd_M_usesTouched_81 : decode prog_7_method_17_code 81 = .ok (.iconst 4, 1) := by decide +kernel
theorem smd_M_usesTouched_82 : decode prog_7_method_17_code 82 = .ok (.idiv, 1) := by decide +kernel
theorem smd_M_usesTouched_83 : decode prog_7_method_17_code 83 = .ok (.goto 4, 3) := by decide +kernel
theorem smd_M_usesTouched_86 : decode prog_7_method_17_code 86 = .ok (.iconst (-1), 1) := by decide +kernel
theorem smd_M_usesTouched_87 : decode prog_7_method_17_code 87 = .ok (.istore 5, 2) := by decide +kernel
theorem smd_M_usesTouched_89 : decode prog_7_method_17_code 89 = .ok (.iload_n 2, 1) := by decide +kernel
theorem smd_M_usesTouched_90 : decode prog_7_method_17_code 90 = .ok (.ifCond .ne 18, 3) := by decide +kernel
theorem smd_M_usesTouched_93 : decode prog_7_method_17_code 93 = .ok (.iload 5, 2) := by decide +kernel
theorem smd_M_usesTouched_95 : decode prog_7_method_17_code 95 = .ok (.ifCond .lt 17, 3) := by decide +kernel
theorem smd_M_usesTouched_98 : decode prog_7_method_17_code 98 = .ok (.aload_n 0, 1) := by decide +kernel
theorem smd_M_usesTouched_99 : decode prog_7_method_17_code 99 = .ok (.getfield 22, 3) := by decide +kernel
theorem smd_M_usesTouched_102 : decode prog_7_method_17_code 102 = .ok (.iload 5, 2) := by decide +kernel
theorem smd_M_usesTouched_104 : decode prog_7_method_17_code 104 = .ok (.baload, 1) := by decide +kernel
theorem smd_M_usesTouched_105 : decode prog_7_method_17_code 105 = .ok (.ifCond .eq 7, 3) := by decide +kernel
theorem smd_M_usesTouched_108 : decode prog_7_method_17_code 108 = .ok (.iconst 1, 1) := by decide +kernel
theorem smd_M_usesTouched_109 : decode prog_7_method_17_code 109 = .ok (.goto 4, 3) := by decide +kernel
theorem smd_M_usesTouched_112 : decode prog_7_method_17_code 112 = .ok (.iconst 0, 1) := by decide +kernel
theorem smd_M_usesTouched_113 : decode prog_7_method_17_code 113 = .ok (.istore_n 2, 1) := by decide +kernel
theorem smd_M_usesTouched_114 : decode prog_7_method_17_code 114 = .ok (.iinc 3 1, 3) := by decide +kernel
theorem smd_M_usesTouched_117 : decode prog_7_method_17_code 117 = .ok (.goto (-113), 3) := by decide +kernel
theorem smd_M_usesTouched_120 : decode prog_7_method_17_code 120 = .ok (.iload_n 2, 1) := by decide +kernel
theorem smd_M_usesTouched_121 : decode prog_7_method_17_code 121 = .ok (.ireturn, 1) := by decide +kernel
theorem smd_M_isChanged_0 : decode prog_7_method_18_code 0 = .ok (.aload_n 0, 1) := by decide +kernel
theorem smd_M_isChanged_1 : decode prog_7_method_18_code 1 = .ok (.iload_n 1, 1) := by decide +kernel
theorem smd_M_isChanged_2 : decode prog_7_method_18_code 2 = .ok (.invokevirtual 87, 3) := by decide +kernel
theorem smd_M_isChanged_5 : decode prog_7_method_18_code 5 = .ok (.ifCond .ne 11, 3) := by decide +kernel
theorem smd_M_isChanged_8 : decode prog_7_method_18_code 8 = .ok (.aload_n 0, 1) := by decide +kernel
theorem smd_M_isChanged_9 : decode prog_7_method_18_code 9 = .ok (.iload_n 1, 1) := by decide +kernel
theorem smd_M_isChanged_10 : decode prog_7_method_18_code 10 = .ok (.invokevirtual 90, 3) := by decide +kernel
theorem smd_M_isChanged_13 : decode prog_7_method_18_code 13 = .ok (.ifCond .eq 7, 3) := by decide +kernel
theorem smd_M_isChanged_16 : decode prog_7_method_18_code 16 = .ok (.iconst 1, 1) := by decide +kernel
theorem smd_M_isChanged_17 : decode prog_7_method_18_code 17 = .ok (.goto 4, 3) := by decide +kernel
theorem smd_M_isChanged_20 : decode prog_7_method_18_code 20 = .ok (.iconst 0, 1) := by decide +kernel
theorem smd_M_isChanged_21 : decode prog_7_method_18_code 21 = .ok (.ireturn, 1) := by decide +kernel
theorem smd_M_changed_0 : decode prog_7_method_19_code 0 = .ok (.aload_n 0, 1) := by decide +kernel
theorem smd_M_changed_1 : decode prog_7_method_19_code 1 = .ok (.getfield 63, 3) := by decide +kernel
theorem smd_M_changed_4 : decode prog_7_method_19_code 4 = .ok (.ifCond .eq 22, 3) := by decide +kernel
theorem smd_M_changed_7 : decode prog_7_method_19_code 7 = .ok (.iload_n 1, 1) := by decide +kernel
theorem smd_M_changed_8 : decode prog_7_method_19_code 8 = .ok (.invokestatic 59, 3) := by decide +kernel
theorem smd_M_changed_11 : decode prog_7_method_19_code 11 = .ok (.ifCond .eq 15, 3) := by decide +kernel
theorem smd_M_changed_14 : decode prog_7_method_19_code 14 = .ok (.aload_n 0, 1) := by decide +kernel
theorem smd_M_changed_15 : decode prog_7_method_19_code 15 = .ok (.iload_n 1, 1) := by decide +kernel
theorem smd_M_changed_16 : decode prog_7_method_19_code 16 = .ok (.invokevirtual 93, 3) := by decide +kernel
theorem smd_M_changed_19 : decode prog_7_method_19_code 19 = .ok (.ifCond .eq 7, 3) := by decide +kernel
theorem smd_M_changed_22 : decode prog_7_method_19_code 22 = .ok (.iconst 1, 1) := by decide +kernel
theorem smd_M_changed_23 : decode prog_7_method_19_code 23 = .ok (.goto 4, 3) := by decide +kernel
theorem smd_M_changed_26 : decode prog_7_method_19_code 26 = .ok (.iconst 0, 1) := by decide +kernel
theorem smd_M_changed_27 : decode prog_7_method_19_code 27 = .ok (.ireturn, 1) := by decide +kernel
theorem smd_M_pointOf_0 : decode prog_7_method_20_code 0 = .ok (.iconst (-1), 1) := by decide +kernel
theorem smd_M_pointOf_1 : decode prog_7_method_20_code 1 = .ok (.istore_n 3, 1) := by decide +kernel
theorem smd_M_pointOf_2 : decode prog_7_method_20_code 2 = .ok (.aload_n 0, 1) := by decide +kernel
theorem smd_M_pointOf_3 : decode prog_7_method_20_code 3 = .ok (.getfield 13, 3) := by decide +kernel
theorem smd_M_pointOf_6 : decode prog_7_method_20_code 6 = .ok (.bipush 6, 2) := by decide +kernel
theorem smd_M_pointOf_8 : decode prog_7_method_20_code 8 = .ok (.iload_n 1, 1) := by decide +kernel
theorem smd_M_pointOf_9 : decode prog_7_method_20_code 9 = .ok (.iadd, 1) := by decide +kernel
theorem smd_M_pointOf_10 : decode prog_7_method_20_code 10 = .ok (.iaload, 1) := by decide +kernel
theorem smd_M_pointOf_11 : decode prog_7_method_20_code 11 = .ok (.iconst 1, 1) := by decide +kernel
theorem smd_M_pointOf_12 : decode prog_7_method_20_code 12 = .ok (.isub, 1) := by decide +kernel
theorem smd_M_pointOf_13 : decode prog_7_method_20_code 13 = .ok (.istore 4, 2) := by decide +kernel
theorem smd_M_pointOf_15 : decode prog_7_method_20_code 15 = .ok (.iload 4, 2) := by decide +kernel
theorem smd_M_pointOf_17 : decode prog_7_method_20_code 17 = .ok (.ifCond .lt 56, 3) := by decide +kernel
theorem smd_M_pointOf_20 : decode prog_7_method_20_code 20 = .ok (.sipush 288, 3) := by decide +kernel
theorem smd_M_pointOf_23 : decode prog_7_method_20_code 23 = .ok (.bipush 48, 2) := by decide +kernel
theorem smd_M_pointOf_25 : decode prog_7_method_20_code 25 = .ok (.iload_n 1, 1) := by decide +kernel
theorem smd_M_pointOf_26 : decode prog_7_method_20_code 26 = .ok (.imul, 1) := by decide +kernel
theorem smd_M_pointOf_27 : decode prog_7_method_20_code 27 = .ok (.iadd, 1) := by decide +kernel
theorem smd_M_pointOf_28 : decode prog_7_method_20_code 28 = .ok (.iconst 4, 1) := by decide +kernel
theorem smd_M_pointOf_29 : decode prog_7_method_20_code 29 = .ok (.iload 4, 2) := by decide +kernel
theorem smd_M_pointOf_31 : decode prog_7_method_20_code 31 = .ok (.imul, 1) := by decide +kernel
theorem smd_M_pointOf_32 : decode prog_7_method_20_code 32 = .ok (.iadd, 1) := by decide +kernel
theorem smd_M_pointOf_33 : decode prog_7_method_20_code 33 = .ok (.istore 5, 2) := by decide +kernel
theorem smd_M_pointOf_35 : decode prog_7_method_20_code 35 = .ok (.aload_n 0, 1) := by decide +kernel
theorem smd_M_pointOf_36 : decode prog_7_method_20_code 36 = .ok (.getfield 7, 3) := by decide +kernel
theorem smd_M_pointOf_39 : decode prog_7_method_20_code 39 = .ok (.iload 5, 2) := by decide +kernel
theorem smd_M_pointOf_41 : decode prog_7_method_20_code 41 = .ok (.iaload, 1) := by decide +kernel
theorem smd_M_pointOf_42 : decode prog_7_method_20_code 42 = .ok (.bipush 12, 2) := by decide +kernel
theorem smd_M_pointOf_44 : decode prog_7_method_20_code 44 = .ok (.if_icmp .ne 21, 3) := by decide +kernel
theorem smd_M_pointOf_47 : decode prog_7_method_20_code 47 = .ok (.aload_n 0, 1) := by decide +kernel
theorem smd_M_pointOf_48 : decode prog_7_method_20_code 48 = .ok (.getfield 7, 3) := by decide +kernel
theorem smd_M_pointOf_51 : decode prog_7_method_20_code 51 = .ok (.iload 5, 2) := by decide +kernel
theorem smd_M_pointOf_53 : decode prog_7_method_20_code 53 = .ok (.iconst 1, 1) := by decide +kernel
theorem smd_M_pointOf_54 : decode prog_7_method_20_code 54 = .ok (.iadd, 1) := by decide +kernel
theorem smd_M_pointOf_55 : decode prog_7_method_20_code 55 = .ok (.iaload, 1) := by decide +kernel
theorem smd_M_pointOf_56 : decode prog_7_method_20_code 56 = .ok (.iload_n 2, 1) := by decide +kernel
theorem smd_M_pointOf_57 : decode prog_7_method_20_code 57 = .ok (.if_icmp .ne 8, 3) := by decide +kernel
theorem smd_M_pointOf_60 : decode prog_7_method_20_code 60 = .ok (.iload 4, 2) := by decide +kernel
theorem smd_M_pointOf_62 : decode prog_7_method_20_code 62 = .ok (.goto 4, 3) := by decide +kernel
theorem smd_M_pointOf_65 : decode prog_7_method_20_code 65 = .ok (.iload_n 3, 1) := by decide +kernel
theorem smd_M_pointOf_66 : decode prog_7_method_20_code 66 = .ok (.istore_n 3, 1) := by decide +kernel
theorem smd_M_pointOf_67 : decode prog_7_method_20_code 67 = .ok (.iinc 4 (-1), 3) := by decide +kernel
theorem smd_M_pointOf_70 : decode prog_7_method_20_code 70 = .ok (.goto (-55), 3) := by decide +kernel
theorem smd_M_pointOf_73 : decode prog_7_method_20_code 73 = .ok (.iload_n 3, 1) := by decide +kernel
theorem smd_M_pointOf_74 : decode prog_7_method_20_code 74 = .ok (.ireturn, 1) := by decide +kernel
theorem smd_M_frameAt_0 : decode prog_7_method_21_code 0 = .ok (.bipush 36, 2) := by decide +kernel
theorem smd_M_frameAt_2 : decode prog_7_method_21_code 2 = .ok (.iload_n 0, 1) := by decide +kernel
theorem smd_M_frameAt_3 : decode prog_7_method_21_code 3 = .ok (.imul, 1) := by decide +kernel
theorem smd_M_frameAt_4 : decode prog_7_method_21_code 4 = .ok (.bipush 6, 2) := by decide +kernel
theorem smd_M_frameAt_6 : decode prog_7_method_21_code 6 = .ok (.iload_n 1, 1) := by decide +kernel
theorem smd_M_frameAt_7 : decode prog_7_method_21_code 7 = .ok (.imul, 1) := by decide +kernel
theorem smd_M_frameAt_8 : decode prog_7_method_21_code 8 = .ok (.iadd, 1) := by decide +kernel
theorem smd_M_frameAt_9 : decode prog_7_method_21_code 9 = .ok (.ireturn, 1) := by decide +kernel
theorem smd_M_isInTheWay_0 : decode prog_7_method_22_code 0 = .ok (.aload_n 0, 1) := by decide +kernel
theorem smd_M_isInTheWay_1 : decode prog_7_method_22_code 1 = .ok (.getfield 50, 3) := by decide +kernel
theorem smd_M_isInTheWay_4 : decode prog_7_method_22_code 4 = .ok (.iload_n 1, 1) := by decide +kernel
theorem smd_M_isInTheWay_5 : decode prog_7_method_22_code 5 = .ok (.iload_n 2, 1) := by decide +kernel
theorem smd_M_isInTheWay_6 : decode prog_7_method_22_code 6 = .ok (.invokestatic 96, 3) := by decide +kernel
theorem smd_M_isInTheWay_9 : decode prog_7_method_22_code 9 = .ok (.iaload, 1) := by decide +kernel
theorem smd_M_isInTheWay_10 : decode prog_7_method_22_code 10 = .ok (.istore_n 3, 1) := by decide +kernel
theorem smd_M_isInTheWay_11 : decode prog_7_method_22_code 11 = .ok (.aload_n 0, 1) := by decide +kernel
theorem smd_M_isInTheWay_12 : decode prog_7_method_22_code 12 = .ok (.iload_n 3, 1) := by decide +kernel
theorem smd_M_isInTheWay_13 : decode prog_7_method_22_code 13 = .ok (.invokevirtual 93, 3) := by decide +kernel
theorem smd_M_isInTheWay_16 : decode prog_7_method_22_code 16 = .ok (.ifCond .ne 5, 3) := by decide +kernel
theorem smd_M_isInTheWay_19 : decode prog_7_method_22_code 19 = .ok (.iconst 0, 1) := by decide +kernel
theorem smd_M_isInTheWay_20 : decode prog_7_method_22_code 20 = .ok (.ireturn, 1) := by decide +kernel
theorem smd_M_isInTheWay_21 : decode prog_7_method_22_code 21 = .ok (.bipush 48, 2) := by decide +kernel
theorem smd_M_isInTheWay_23 : decode prog_7_method_22_code 23 = .ok (.iload_n 3, 1) := by decide +kernel
theorem smd_M_isInTheWay_24 : decode prog_7_method_22_code 24 = .ok (.imul, 1) := by decide +kernel
theorem smd_M_isInTheWay_25 : decode prog_7_method_22_code 25 = .ok (.iconst 4, 1) := by decide +kernel
theorem smd_M_isInTheWay_26 : decode prog_7_method_22_code 26 = .ok (.aload_n 0, 1) := by decide +kernel
theorem smd_M_isInTheWay_27 : decode prog_7_method_22_code 27 = .ok (.getfield 50, 3) := by decide +kernel
theorem smd_M_isInTheWay_30 : decode prog_7_method_22_code 30 = .ok (.iload_n 1, 1) := by decide +kernel
theorem smd_M_isInTheWay_31 : decode prog_7_method_22_code 31 = .ok (.iload_n 2, 1) := by decide +kernel
theorem smd_M_isInTheWay_32 : decode prog_7_method_22_code 32 = .ok (.invokestatic 96, 3) := by decide +kernel
theorem smd_M_isInTheWay_35 : decode prog_7_method_22_code 35 = .ok (.iconst 1, 1) := by decide +kernel
theorem smd_M_isInTheWay_36 : decode prog_7_method_22_code 36 = .ok (.iadd, 1) := by decide +kernel
theorem smd_M_isInTheWay_37 : decode prog_7_method_22_code 37 = .ok (.iaload, 1) := by decide +kernel
theorem smd_M_isInTheWay_38 : decode prog_7_method_22_code 38 = .ok (.imul, 1) := by decide +kernel
theorem smd_M_isInTheWay_39 : decode prog_7_method_22_code 39 = .ok (.iadd, 1) := by decide +kernel
theorem smd_M_isInTheWay_40 : decode prog_7_method_22_code 40 = .ok (.istore 4, 2) := by decide +kernel
theorem smd_M_isInTheWay_42 : decode prog_7_method_22_code 42 = .ok (.iload_n 2, 1) := by decide +kernel
theorem smd_M_isInTheWay_43 : decode prog_7_method_22_code 43 = .ok (.iconst 1, 1) := by decide +kernel
theorem smd_M_isInTheWay_44 : decode prog_7_method_22_code 44 = .ok (.iadd, 1) := by decide +kernel
theorem smd_M_isInTheWay_45 : decode prog_7_method_22_code 45 = .ok (.aload_n 0, 1) := by decide +kernel
theorem smd_M_isInTheWay_46 : decode prog_7_method_22_code 46 = .ok (.getfield 47, 3) := by decide +kernel
theorem smd_M_isInTheWay_49 : decode prog_7_method_22_code 49 = .ok (.iload_n 1, 1) := by decide +kernel
theorem smd_M_isInTheWay_50 : decode prog_7_method_22_code 50 = .ok (.iaload, 1) := by decide +kernel
theorem smd_M_isInTheWay_51 : decode prog_7_method_22_code 51 = .ok (.if_icmp .lt 32, 3) := by decide +kernel
theorem smd_M_isInTheWay_54 : decode prog_7_method_22_code 54 = .ok (.aload_n 0, 1) := by decide +kernel
theorem smd_M_isInTheWay_55 : decode prog_7_method_22_code 55 = .ok (.getfield 7, 3) := by decide +kernel
theorem smd_M_isInTheWay_58 : decode prog_7_method_22_code 58 = .ok (.iload 4, 2) := by decide +kernel
theorem smd_M_isInTheWay_60 : decode prog_7_method_22_code 60 = .ok (.iaload, 1) := by decide +kernel
theorem smd_M_isInTheWay_61 : decode prog_7_method_22_code 61 = .ok (.bipush 12, 2) := by decide +kernel
theorem smd_M_isInTheWay_63 : decode prog_7_method_22_code 63 = .ok (.if_icmp .ne 20, 3) := by decide +kernel
theorem smd_M_isInTheWay_66 : decode prog_7_method_22_code 66 = .ok (.aload_n 0, 1) := by decide +kernel
theorem smd_M_isInTheWay_67 : decode prog_7_method_22_code 67 = .ok (.iload_n 3, 1) := by decide +kernel
theorem smd_M_isInTheWay_68 : decode prog_7_method_22_code 68 = .ok (.aload_n 0, 1) := by decide +kernel
theorem smd_M_isInTheWay_69 : decode prog_7_method_22_code 69 = .ok (.getfield 7, 3) := by decide +kernel
theorem smd_M_isInTheWay_72 : decode prog_7_method_22_code 72 = .ok (.iload 4, 2) := by decide +kernel
theorem smd_M_isInTheWay_74 : decode prog_7_method_22_code 74 = .ok (.iconst 1, 1) := by decide +kernel
theorem smd_M_isInTheWay_75 : decode prog_7_method_22_code 75 = .ok (.iadd, 1) := by decide +kernel
theorem smd_M_isInTheWay_76 : decode prog_7_method_22_code 76 = .ok (.iaload, 1) := by decide +kernel
theorem smd_M_isInTheWay_77 : decode prog_7_method_22_code 77 = .ok (.invokevirtual 100, 3) := by decide +kernel
theorem smd_M_isInTheWay_80 : decode prog_7_method_22_code 80 = .ok (.ifCond .ge 7, 3) := by decide +kernel
theorem smd_M_isInTheWay_83 : decode prog_7_method_22_code 83 = .ok (.iconst 1, 1) := by decide +kernel
theorem smd_M_isInTheWay_84 : decode prog_7_method_22_code 84 = .ok (.goto 4, 3) := by decide +kernel
theorem smd_M_isInTheWay_87 : decode prog_7_method_22_code 87 = .ok (.iconst 0, 1) := by decide +kernel
theorem smd_M_isInTheWay_88 : decode prog_7_method_22_code 88 = .ok (.ireturn, 1) := by decide +kernel
theorem smd_M_blocker_0 : decode prog_7_method_23_code 0 = .ok (.aload_n 0, 1) := by decide +kernel
theorem smd_M_blocker_1 : decode prog_7_method_23_code 1 = .ok (.getfield 63, 3) := by decide +kernel
theorem smd_M_blocker_4 : decode prog_7_method_23_code 4 = .ok (.ifCond .ne 5, 3) := by decide +kernel
theorem smd_M_blocker_7 : decode prog_7_method_23_code 7 = .ok (.iconst 0, 1) := by decide +kernel
theorem smd_M_blocker_8 : decode prog_7_method_23_code 8 = .ok (.ireturn, 1) := by decide +kernel
theorem smd_M_blocker_9 : decode prog_7_method_23_code 9 = .ok (.iconst 1, 1) := by decide +kernel
theorem smd_M_blocker_10 : decode prog_7_method_23_code 10 = .ok (.istore_n 2, 1) := by decide +kernel
theorem smd_M_blocker_11 : decode prog_7_method_23_code 11 = .ok (.iload_n 2, 1) := by decide +kernel
theorem smd_M_blocker_12 : decode prog_7_method_23_code 12 = .ok (.aload_n 0, 1) := by decide +kernel
theorem smd_M_blocker_13 : decode prog_7_method_23_code 13 = .ok (.getfield 103, 3) := by decide +kernel
theorem smd_M_blocker_16 : decode prog_7_method_23_code 16 = .ok (.if_icmp .gt 43, 3) := by decide +kernel
theorem smd_M_blocker_19 : decode prog_7_method_23_code 19 = .ok (.iconst 0, 1) := by decide +kernel
theorem smd_M_blocker_20 : decode prog_7_method_23_code 20 = .ok (.istore_n 3, 1) := by decide +kernel
theorem smd_M_blocker_21 : decode prog_7_method_23_code 21 = .ok (.iload_n 3, 1) := by decide +kernel
theorem smd_M_blocker_22 : decode prog_7_method_23_code 22 = .ok (.aload_n 0, 1) := by decide +kernel
theorem smd_M_blocker_23 : decode prog_7_method_23_code 23 = .ok (.getfield 47, 3) := by decide +kernel
theorem smd_M_blocker_26 : decode prog_7_method_23_code 26 = .ok (.iload_n 2, 1) := by decide +kernel
theorem smd_M_blocker_27 : decode prog_7_method_23_code 27 = .ok (.iaload, 1) := by decide +kernel
theorem smd_M_blocker_28 : decode prog_7_method_23_code 28 = .ok (.if_icmp .ge 25, 3) := by decide +kernel
theorem smd_M_blocker_31 : decode prog_7_method_23_code 31 = .ok (.iload_n 2, 1) := by decide +kernel
theorem smd_M_blocker_32 : decode prog_7_method_23_code 32 = .ok (.iload_n 1, 1) := by decide +kernel
theorem smd_M_blocker_33 : decode prog_7_method_23_code 33 = .ok (.if_icmp .lt 14, 3) := by decide +kernel
theorem smd_M_blocker_36 : decode prog_7_method_23_code 36 = .ok (.aload_n 0, 1) := by decide +kernel
theorem smd_M_blocker_37 : decode prog_7_method_23_code 37 = .ok (.iload_n 2, 1) := by decide +kernel
theorem smd_M_blocker_38 : decode prog_7_method_23_code 38 = .ok (.iload_n 3, 1) := by decide +kernel
theorem smd_M_blocker_39 : decode prog_7_method_23_code 39 = .ok (.invokevirtual 107, 3) := by decide +kernel
theorem smd_M_blocker_42 : decode prog_7_method_23_code 42 = .ok (.ifCond .eq 5, 3) := by decide +kernel
theorem smd_M_blocker_45 : decode prog_7_method_23_code 45 = .ok (.iload_n 2, 1) := by decide +kernel
theorem smd_M_blocker_46 : decode prog_7_method_23_code 46 = .ok (.ireturn, 1) := by decide +kernel
theorem smd_M_blocker_47 : decode prog_7_method_23_code 47 = .ok (.iinc 3 1, 3) := by decide +kernel
theorem smd_M_blocker_50 : decode prog_7_method_23_code 50 = .ok (.goto (-29), 3) := by decide +kernel
theorem smd_M_blocker_53 : decode prog_7_method_23_code 53 = .ok (.iinc 2 1, 3) := by decide +kernel
theorem smd_M_blocker_56 : decode prog_7_method_23_code 56 = .ok (.goto (-45), 3) := by decide +kernel
theorem smd_M_blocker_59 : decode prog_7_method_23_code 59 = .ok (.iconst 0, 1) := by decide +kernel
theorem smd_M_blocker_60 : decode prog_7_method_23_code 60 = .ok (.ireturn, 1) := by decide +kernel
theorem smd_M_isObject_0 : decode prog_7_method_24_code 0 = .ok (.iload_n 1, 1) := by decide +kernel
theorem smd_M_isObject_1 : decode prog_7_method_24_code 1 = .ok (.iconst 1, 1) := by decide +kernel
theorem smd_M_isObject_2 : decode prog_7_method_24_code 2 = .ok (.if_icmp .lt 22, 3) := by decide +kernel
theorem smd_M_isObject_5 : decode prog_7_method_24_code 5 = .ok (.iload_n 1, 1) := by decide +kernel
theorem smd_M_isObject_6 : decode prog_7_method_24_code 6 = .ok (.bipush 16, 2) := by decide +kernel
theorem smd_M_isObject_8 : decode prog_7_method_24_code 8 = .ok (.if_icmp .gt 16, 3) := by decide +kernel
theorem smd_M_isObject_11 : decode prog_7_method_24_code 11 = .ok (.aload_n 0, 1) := by decide +kernel
theorem smd_M_isObject_12 : decode prog_7_method_24_code 12 = .ok (.getfield 29, 3) := by decide +kernel
theorem smd_M_isObject_15 : decode prog_7_method_24_code 15 = .ok (.iload_n 1, 1) := by decide +kernel
theorem smd_M_isObject_16 : decode prog_7_method_24_code 16 = .ok (.iaload, 1) := by decide +kernel
theorem smd_M_isObject_17 : decode prog_7_method_24_code 17 = .ok (.ifCond .lt 7, 3) := by decide +kernel
theorem smd_M_isObject_20 : decode prog_7_method_24_code 20 = .ok (.iconst 1, 1) := by decide +kernel
theorem smd_M_isObject_21 : decode prog_7_method_24_code 21 = .ok (.goto 4, 3) := by decide +kernel
theorem smd_M_isObject_24 : decode prog_7_method_24_code 24 = .ok (.iconst 0, 1) := by decide +kernel
theorem smd_M_isObject_25 : decode prog_7_method_24_code 25 = .ok (.ireturn, 1) := by decide +kernel
theorem smd_M_mark_0 : decode prog_7_method_25_code 0 = .ok (.aload_n 0, 1) := by decide +kernel
theorem smd_M_mark_1 : decode prog_7_method_25_code 1 = .ok (.iload_n 1, 1) := by decide +kernel
theorem smd_M_mark_2 : decode prog_7_method_25_code 2 = .ok (.invokevirtual 110, 3) := by decide +kernel
theorem smd_M_mark_5 : decode prog_7_method_25_code 5 = .ok (.ifCond .eq 10, 3) := by decide +kernel
theorem smd_M_mark_8 : decode prog_7_method_25_code 8 = .ok (.aload_n 0, 1) := by decide +kernel
theorem smd_M_mark_9 : decode prog_7_method_25_code 9 = .ok (.getfield 38, 3) := by decide +kernel
theorem smd_M_mark_12 : decode prog_7_method_25_code 12 = .ok (.iload_n 1, 1) := by decide +kernel
theorem smd_M_mark_13 : decode prog_7_method_25_code 13 = .ok (.iconst 1, 1) := by decide +kernel
theorem smd_M_mark_14 : decode prog_7_method_25_code 14 = .ok (.bastore, 1) := by decide +kernel
theorem smd_M_mark_15 : decode prog_7_method_25_code 15 = .ok (.return_, 1) := by decide +kernel
theorem smd_M_countMarked_0 : decode prog_7_method_26_code 0 = .ok (.iconst 0, 1) := by decide +kernel
theorem smd_M_countMarked_1 : decode prog_7_method_26_code 1 = .ok (.istore_n 1, 1) := by decide +kernel
theorem smd_M_countMarked_2 : decode prog_7_method_26_code 2 = .ok (.iconst 1, 1) := by decide +kernel
theorem smd_M_countMarked_3 : decode prog_7_method_26_code 3 = .ok (.istore_n 2, 1) := by decide +kernel
theorem smd_M_countMarked_4 : decode prog_7_method_26_code 4 = .ok (.iload_n 2, 1) := by decide +kernel
theorem smd_M_countMarked_5 : decode prog_7_method_26_code 5 = .ok (.bipush 17, 2) := by decide +kernel
theorem smd_M_countMarked_7 : decode prog_7_method_26_code 7 = .ok (.if_icmp .ge 26, 3) := by decide +kernel
theorem smd_M_countMarked_10 : decode prog_7_method_26_code 10 = .ok (.iload_n 1, 1) := by decide +kernel
theorem smd_M_countMarked_11 : decode prog_7_method_26_code 11 = .ok (.aload_n 0, 1) := by decide +kernel
theorem smd_M_countMarked_12 : decode prog_7_method_26_code 12 = .ok (.getfield 38, 3) := by decide +kernel
theorem smd_M_countMarked_15 : decode prog_7_method_26_code 15 = .ok (.iload_n 2, 1) := by decide +kernel
theorem smd_M_countMarked_16 : decode prog_7_method_26_code 16 = .ok (.baload, 1) := by decide +kernel
theorem smd_M_countMarked_17 : decode prog_7_method_26_code 17 = .ok (.ifCond .eq 7, 3) := by decide +kernel
theorem smd_M_countMarked_20 : decode prog_7_method_26_code 20 = .ok (.iconst 1, 1) := by decide +kernel
theorem smd_M_countMarked_21 : decode prog_7_method_26_code 21 = .ok (.goto 4, 3) := by decide +kernel
theorem smd_M_countMarked_24 : decode prog_7_method_26_code 24 = .ok (.iconst 0, 1) := by decide +kernel
theorem smd_M_countMarked_25 : decode prog_7_method_26_code 25 = .ok (.iadd, 1) := by decide +kernel
theorem smd_M_countMarked_26 : decode prog_7_method_26_code 26 = .ok (.istore_n 1, 1) := by decide +kernel
theorem smd_M_countMarked_27 : decode prog_7_method_26_code 27 = .ok (.iinc 2 1, 3) := by decide +kernel
theorem smd_M_countMarked_30 : decode prog_7_method_26_code 30 = .ok (.goto (-26), 3) := by decide +kernel
theorem smd_M_countMarked_33 : decode prog_7_method_26_code 33 = .ok (.iload_n 1, 1) := by decide +kernel
theorem smd_M_countMarked_34 : decode prog_7_method_26_code 34 = .ok (.ireturn, 1) := by decide +kernel
theorem smd_M_sweep_0 : decode prog_7_method_27_code 0 = .ok (.iconst 0, 1) := by decide +kernel
theorem smd_M_sweep_1 : decode prog_7_method_27_code 1 = .ok (.istore_n 1, 1) := by decide +kernel
theorem smd_M_sweep_2 : decode prog_7_method_27_code 2 = .ok (.iload_n 1, 1) := by decide +kernel
theorem smd_M_sweep_3 : decode prog_7_method_27_code 3 = .ok (.bipush 17, 2) := by decide +kernel
theorem smd_M_sweep_5 : decode prog_7_method_27_code 5 = .ok (.if_icmp .ge 16, 3) := by decide +kernel
theorem smd_M_sweep_8 : decode prog_7_method_27_code 8 = .ok (.aload_n 0, 1) := by decide +kernel
theorem smd_M_sweep_9 : decode prog_7_method_27_code 9 = .ok (.getfield 38, 3) := by decide +kernel
theorem smd_M_sweep_12 : decode prog_7_method_27_code 12 = .ok (.iload_n 1, 1) := by decide +kernel
theorem smd_M_sweep_13 : decode prog_7_method_27_code 13 = .ok (.iconst 0, 1) := by decide +kernel
theorem smd_M_sweep_14 : decode prog_7_method_27_code 14 = .ok (.bastore, 1) := by decide +kernel
theorem smd_M_sweep_15 : decode prog_7_method_27_code 15 = .ok (.iinc 1 1, 3) := by decide +kernel
theorem smd_M_sweep_18 : decode prog_7_method_27_code 18 = .ok (.goto (-16), 3) := by decide +kernel
theorem smd_M_sweep_21 : decode prog_7_method_27_code 21 = .ok (.iconst 0, 1) := by decide +kernel
theorem smd_M_sweep_22 : decode prog_7_method_27_code 22 = .ok (.istore_n 1, 1) := by decide +kernel
theorem smd_M_sweep_23 : decode prog_7_method_27_code 23 = .ok (.iload_n 1, 1) := by decide +kernel
theorem smd_M_sweep_24 : decode prog_7_method_27_code 24 = .ok (.iconst 4, 1) := by decide +kernel
theorem smd_M_sweep_25 : decode prog_7_method_27_code 25 = .ok (.if_icmp .ge 19, 3) := by decide +kernel
theorem smd_M_sweep_28 : decode prog_7_method_27_code 28 = .ok (.aload_n 0, 1) := by decide +kernel
theorem smd_M_sweep_29 : decode prog_7_method_27_code 29 = .ok (.aload_n 0, 1) := by decide +kernel
theorem smd_M_sweep_30 : decode prog_7_method_27_code 30 = .ok (.getfield 26, 3) := by decide +kernel
theorem smd_M_sweep_33 : decode prog_7_method_27_code 33 = .ok (.iload_n 1, 1) := by decide +kernel
theorem smd_M_sweep_34 : decode prog_7_method_27_code 34 = .ok (.iaload, 1) := by decide +kernel
theorem smd_M_sweep_35 : decode prog_7_method_27_code 35 = .ok (.invokevirtual 113, 3) := by decide +kernel
theorem smd_M_sweep_38 : decode prog_7_method_27_code 38 = .ok (.iinc 1 1, 3) := by decide +kernel
theorem smd_M_sweep_41 : decode prog_7_method_27_code 41 = .ok (.goto (-18), 3) := by decide +kernel
theorem smd_M_sweep_44 : decode prog_7_method_27_code 44 = .ok (.iconst 1, 1) := by decide +kernel
theorem smd_M_sweep_45 : decode prog_7_method_27_code 45 = .ok (.istore_n 1, 1) := by decide +kernel
theorem smd_M_sweep_46 : decode prog_7_method_27_code 46 = .ok (.iload_n 1, 1) := by decide +kernel
theorem smd_M_sweep_47 : decode prog_7_method_27_code 47 = .ok (.aload_n 0, 1) := by decide +kernel
theorem smd_M_sweep_48 : decode prog_7_method_27_code 48 = .ok (.getfield 103, 3) := by decide +kernel
theorem smd_M_sweep_51 : decode prog_7_method_27_code 51 = .ok (.if_icmp .gt 58, 3) := by decide +kernel
theorem smd_M_sweep_54 : decode prog_7_method_27_code 54 = .ok (.iconst 0, 1) := by decide +kernel
theorem smd_M_sweep_55 : decode prog_7_method_27_code 55 = .ok (.istore_n 2, 1) := by decide +kernel
theorem smd_M_sweep_56 : decode prog_7_method_27_code 56 = .ok (.iload_n 2, 1) := by decide +kernel
theorem smd_M_sweep_57 : decode prog_7_method_27_code 57 = .ok (.aload_n 0, 1) := by decide +kernel
theorem smd_M_sweep_58 : decode prog_7_method_27_code 58 = .ok (.getfield 47, 3) := by decide +kernel
theorem smd_M_sweep_61 : decode prog_7_method_27_code 61 = .ok (.iload_n 1, 1) := by decide +kernel
theorem smd_M_sweep_62 : decode prog_7_method_27_code 62 = .ok (.iaload, 1) := by decide +kernel
theorem smd_M_sweep_63 : decode prog_7_method_27_code 63 = .ok (.if_icmp .ge 40, 3) := by decide +kernel
theorem smd_M_sweep_66 : decode prog_7_method_27_code 66 = .ok (.iconst 0, 1) := by decide +kernel
theorem smd_M_sweep_67 : decode prog_7_method_27_code 67 = .ok (.istore_n 3, 1) := by decide +kernel
theorem smd_M_sweep_68 : decode prog_7_method_27_code 68 = .ok (.iload_n 3, 1) := by decide +kernel
theorem smd_M_sweep_69 : decode prog_7_method_27_code 69 = .ok (.iconst 3, 1) := by decide +kernel
theorem smd_M_sweep_70 : decode prog_7_method_27_code 70 = .ok (.if_icmp .ge 27, 3) := by decide +kernel
theorem smd_M_sweep_73 : decode prog_7_method_27_code 73 = .ok (.aload_n 0, 1) := by decide +kernel
theorem smd_M_sweep_74 : decode prog_7_method_27_code 74 = .ok (.aload_n 0, 1) := by decide +kernel
theorem smd_M_sweep_75 : decode prog_7_method_27_code 75 = .ok (.getfield 50, 3) := by decide +kernel
theorem smd_M_sweep_78 : decode prog_7_method_27_code 78 = .ok (.iload_n 1, 1) := by decide +kernel
theorem smd_M_sweep_79 : decode prog_7_method_27_code 79 = .ok (.iload_n 2, 1) := by decide +kernel
theorem smd_M_sweep_80 : decode prog_7_method_27_code 80 = .ok (.invokestatic 96, 3) := by decide +kernel
theorem smd_M_sweep_83 : decode prog_7_method_27_code 83 = .ok (.iconst 2, 1) := by decide +kernel
theorem smd_M_sweep_84 : decode prog_7_method_27_code 84 = .ok (.iadd, 1) := by decide +kernel
theorem smd_M_sweep_85 : decode prog_7_method_27_code 85 = .ok (.iload_n 3, 1) := by decide +kernel
theorem smd_M_sweep_86 : decode prog_7_method_27_code 86 = .ok (.iadd, 1) := by decide +kernel
theorem smd_M_sweep_87 : decode prog_7_method_27_code 87 = .ok (.iaload, 1) := by decide +kernel
theorem smd_M_sweep_88 : decode prog_7_method_27_code 88 = .ok (.invokevirtual 113, 3) := by decide +kernel
theorem smd_M_sweep_91 : decode prog_7_method_27_code 91 = .ok (.iinc 3 1, 3) := by decide +kernel
theorem smd_M_sweep_94 : decode prog_7_method_27_code 94 = .ok (.goto (-26), 3) := by decide +kernel
theorem smd_M_sweep_97 : decode prog_7_method_27_code 97 = .ok (.iinc 2 1, 3) := by decide +kernel
theorem smd_M_sweep_100 : decode prog_7_method_27_code 100 = .ok (.goto (-44), 3) := by decide +kernel
theorem smd_M_sweep_103 : decode prog_7_method_27_code 103 = .ok (.iinc 1 1, 3) := by decide +kernel
theorem smd_M_sweep_106 : decode prog_7_method_27_code 106 = .ok (.goto (-60), 3) := by decide +kernel
theorem smd_M_sweep_109 : decode prog_7_method_27_code 109 = .ok (.iconst (-1), 1) := by decide +kernel
theorem smd_M_sweep_110 : decode prog_7_method_27_code 110 = .ok (.istore_n 1, 1) := by decide +kernel
theorem smd_M_sweep_111 : decode prog_7_method_27_code 111 = .ok (.iload_n 1, 1) := by decide +kernel
theorem smd_M_sweep_112 : decode prog_7_method_27_code 112 = .ok (.aload_n 0, 1) := by decide +kernel
theorem smd_M_sweep_113 : decode prog_7_method_27_code 113 = .ok (.invokevirtual 116, 3) := by decide +kernel
theorem smd_M_sweep_116 : decode prog_7_method_27_code 116 = .ok (.if_icmp .eq 71, 3) := by decide +kernel
theorem smd_M_sweep_119 : decode prog_7_method_27_code 119 = .ok (.aload_n 0, 1) := by decide +kernel
theorem smd_M_sweep_120 : decode prog_7_method_27_code 120 = .ok (.invokevirtual 116, 3) := by decide +kernel
theorem smd_M_sweep_123 : decode prog_7_method_27_code 123 = .ok (.istore_n 1, 1) := by decide +kernel
theorem smd_M_sweep_124 : decode prog_7_method_27_code 124 = .ok (.iconst 1, 1) := by decide +kernel
theorem smd_M_sweep_125 : decode prog_7_method_27_code 125 = .ok (.istore_n 2, 1) := by decide +kernel
theorem smd_M_sweep_126 : decode prog_7_method_27_code 126 = .ok (.iload_n 2, 1) := by decide +kernel
theorem smd_M_sweep_127 : decode prog_7_method_27_code 127 = .ok (.bipush 17, 2) := by decide +kernel
theorem smd_M_sweep_129 : decode prog_7_method_27_code 129 = .ok (.if_icmp .ge 55, 3) := by decide +kernel
theorem smd_M_sweep_132 : decode prog_7_method_27_code 132 = .ok (.iconst 0, 1) := by decide +kernel
theorem smd_M_sweep_133 : decode prog_7_method_27_code 133 = .ok (.istore_n 3, 1) := by decide +kernel
theorem smd_M_sweep_134 : decode prog_7_method_27_code 134 = .ok (.aload_n 0, 1) := by decide +kernel
theorem smd_M_sweep_135 : decode prog_7_method_27_code 135 = .ok (.getfield 38, 3) := by decide +kernel
theorem smd_M_sweep_138 : decode prog_7_method_27_code 138 = .ok (.iload_n 2, 1) := by decide +kernel
theorem smd_M_sweep_139 : decode prog_7_method_27_code 139 = .ok (.baload, 1) := by decide +kernel
theorem smd_M_sweep_140 : decode prog_7_method_27_code 140 = .ok (.ifCond .eq 38, 3) := by decide +kernel
theorem smd_M_sweep_143 : decode prog_7_method_27_code 143 = .ok (.iload_n 3, 1) := by decide +kernel
theorem smd_M_sweep_144 : decode prog_7_method_27_code 144 = .ok (.aload_n 0, 1) := by decide +kernel
theorem smd_M_sweep_145 : decode prog_7_method_27_code 145 = .ok (.getfield 16, 3) := by decide +kernel
theorem smd_M_sweep_148 : decode prog_7_method_27_code 148 = .ok (.aload_n 0, 1) := by decide +kernel
theorem smd_M_sweep_149 : decode prog_7_method_27_code 149 = .ok (.getfield 29, 3) := by decide +kernel
theorem smd_M_sweep_152 : decode prog_7_method_27_code 152 = .ok (.iload_n 2, 1) := by decide +kernel
theorem smd_M_sweep_153 : decode prog_7_method_27_code 153 = .ok (.iaload, 1) := by decide +kernel
theorem smd_M_sweep_154 : decode prog_7_method_27_code 154 = .ok (.iaload, 1) := by decide +kernel
theorem smd_M_sweep_155 : decode prog_7_method_27_code 155 = .ok (.if_icmp .ge 23, 3) := by decide +kernel
theorem smd_M_sweep_158 : decode prog_7_method_27_code 158 = .ok (.aload_n 0, 1) := by decide +kernel
theorem smd_M_sweep_159 : decode prog_7_method_27_code 159 = .ok (.aload_n 0, 1) := by decide +kernel
theorem smd_M_sweep_160 : decode prog_7_method_27_code 160 = .ok (.getfield 32, 3) := by decide +kernel
theorem smd_M_sweep_163 : decode prog_7_method_27_code 163 = .ok (.iconst 4, 1) := by decide +kernel
theorem smd_M_sweep_164 : decode prog_7_method_27_code 164 = .ok (.iload_n 2, 1) := by decide +kernel
theorem smd_M_sweep_165 : decode prog_7_method_27_code 165 = .ok (.imul, 1) := by decide +kernel
theorem smd_M_sweep_166 : decode prog_7_method_27_code 166 = .ok (.iload_n 3, 1) := by decide +kernel
theorem smd_M_sweep_167 : decode prog_7_method_27_code 167 = .ok (.iadd, 1) := by decide +kernel
theorem smd_M_sweep_168 : decode prog_7_method_27_code 168 = .ok (.iaload, 1) := by decide +kernel
theorem smd_M_sweep_169 : decode prog_7_method_27_code 169 = .ok (.invokevirtual 113, 3) := by decide +kernel
theorem smd_M_sweep_172 : decode prog_7_method_27_code 172 = .ok (.iinc 3 1, 3) := by decide +kernel
theorem smd_M_sweep_175 : decode prog_7_method_27_code 175 = .ok (.goto (-41), 3) := by decide +kernel
theorem smd_M_sweep_178 : decode prog_7_method_27_code 178 = .ok (.iinc 2 1, 3) := by decide +kernel
theorem smd_M_sweep_181 : decode prog_7_method_27_code 181 = .ok (.goto (-55), 3) := by decide +kernel
theorem smd_M_sweep_184 : decode prog_7_method_27_code 184 = .ok (.goto (-73), 3) := by decide +kernel
theorem smd_M_sweep_187 : decode prog_7_method_27_code 187 = .ok (.iconst 0, 1) := by decide +kernel
theorem smd_M_sweep_188 : decode prog_7_method_27_code 188 = .ok (.istore_n 2, 1) := by decide +kernel
theorem smd_M_sweep_189 : decode prog_7_method_27_code 189 = .ok (.iconst 1, 1) := by decide +kernel
theorem smd_M_sweep_190 : decode prog_7_method_27_code 190 = .ok (.istore_n 3, 1) := by decide +kernel
theorem smd_M_sweep_191 : decode prog_7_method_27_code 191 = .ok (.iload_n 3, 1) := by decide +kernel
theorem smd_M_sweep_192 : decode prog_7_method_27_code 192 = .ok (.bipush 17, 2) := by decide +kernel
theorem smd_M_sweep_194 : decode prog_7_method_27_code 194 = .ok (.if_icmp .ge 37, 3) := by decide +kernel
theorem smd_M_sweep_197 : decode prog_7_method_27_code 197 = .ok (.aload_n 0, 1) := by decide +kernel
theorem smd_M_sweep_198 : decode prog_7_method_27_code 198 = .ok (.getfield 29, 3) := by decide +kernel
theorem smd_M_sweep_201 : decode prog_7_method_27_code 201 = .ok (.iload_n 3, 1) := by decide +kernel
theorem smd_M_sweep_202 : decode prog_7_method_27_code 202 = .ok (.iaload, 1) := by decide +kernel
theorem smd_M_sweep_203 : decode prog_7_method_27_code 203 = .ok (.ifCond .lt 22, 3) := by decide +kernel
theorem smd_M_sweep_206 : decode prog_7_method_27_code 206 = .ok (.aload_n 0, 1) := by decide +kernel
theorem smd_M_sweep_207 : decode prog_7_method_27_code 207 = .ok (.getfield 38, 3) := by decide +kernel
theorem smd_M_sweep_210 : decode prog_7_method_27_code 210 = .ok (.iload_n 3, 1) := by decide +kernel
theorem smd_M_sweep_211 : decode prog_7_method_27_code 211 = .ok (.baload, 1) := by decide +kernel
theorem smd_M_sweep_212 : decode prog_7_method_27_code 212 = .ok (.ifCond .ne 13, 3) := by decide +kernel
theorem smd_M_sweep_215 : decode prog_7_method_27_code 215 = .ok (.aload_n 0, 1) := by decide +kernel
theorem smd_M_sweep_216 : decode prog_7_method_27_code 216 = .ok (.getfield 29, 3) := by decide +kernel
theorem smd_M_sweep_219 : decode prog_7_method_27_code 219 = .ok (.iload_n 3, 1) := by decide +kernel
theorem smd_M_sweep_220 : decode prog_7_method_27_code 220 = .ok (.iconst (-1), 1) := by decide +kernel
theorem smd_M_sweep_221 : decode prog_7_method_27_code 221 = .ok (.iastore, 1) := by decide +kernel
theorem smd_M_sweep_222 : decode prog_7_method_27_code 222 = .ok (.iinc 2 1, 3) := by decide +kernel
theorem smd_M_sweep_225 : decode prog_7_method_27_code 225 = .ok (.iinc 3 1, 3) := by decide +kernel
theorem smd_M_sweep_228 : decode prog_7_method_27_code 228 = .ok (.goto (-37), 3) := by decide +kernel
theorem smd_M_sweep_231 : decode prog_7_method_27_code 231 = .ok (.iload_n 2, 1) := by decide +kernel
theorem smd_M_sweep_232 : decode prog_7_method_27_code 232 = .ok (.ireturn, 1) := by decide +kernel
theorem smd_M_collect_0 : decode prog_7_method_28_code 0 = .ok (.aload_n 0, 1) := by decide +kernel
theorem smd_M_collect_1 : decode prog_7_method_28_code 1 = .ok (.invokevirtual 120, 3) := by decide +kernel
theorem smd_M_collect_4 : decode prog_7_method_28_code 4 = .ok (.ireturn, 1) := by decide +kernel
theorem smd_M_free_0 : decode prog_7_method_29_code 0 = .ok (.iconst 1, 1) := by decide +kernel
theorem smd_M_free_1 : decode prog_7_method_29_code 1 = .ok (.istore_n 1, 1) := by decide +kernel
theorem smd_M_free_2 : decode prog_7_method_29_code 2 = .ok (.iload_n 1, 1) := by decide +kernel
theorem smd_M_free_3 : decode prog_7_method_29_code 3 = .ok (.bipush 17, 2) := by decide +kernel
theorem smd_M_free_5 : decode prog_7_method_29_code 5 = .ok (.if_icmp .ge 18, 3) := by decide +kernel
theorem smd_M_free_8 : decode prog_7_method_29_code 8 = .ok (.aload_n 0, 1) := by decide +kernel
theorem smd_M_free_9 : decode prog_7_method_29_code 9 = .ok (.getfield 29, 3) := by decide +kernel
theorem smd_M_free_12 : decode prog_7_method_29_code 12 = .ok (.iload_n 1, 1) := by decide +kernel
theorem smd_M_free_13 : decode prog_7_method_29_code 13 = .ok (.iaload, 1) := by decide +kernel
theorem smd_M_free_14 : decode prog_7_method_29_code 14 = .ok (.ifCond .lt 9, 3) := by decide +kernel
theorem smd_M_free_17 : decode prog_7_method_29_code 17 = .ok (.iinc 1 1, 3) := by decide +kernel
theorem smd_M_free_20 : decode prog_7_method_29_code 20 = .ok (.goto (-18), 3) := by decide +kernel
theorem smd_M_free_23 : decode prog_7_method_29_code 23 = .ok (.iload_n 1, 1) := by decide +kernel
theorem smd_M_free_24 : decode prog_7_method_29_code 24 = .ok (.ireturn, 1) := by decide +kernel
theorem smd_M_make_0 : decode prog_7_method_30_code 0 = .ok (.aload_n 0, 1) := by decide +kernel
theorem smd_M_make_1 : decode prog_7_method_30_code 1 = .ok (.invokevirtual 123, 3) := by decide +kernel
theorem smd_M_make_4 : decode prog_7_method_30_code 4 = .ok (.bipush 16, 2) := by decide +kernel
theorem smd_M_make_6 : decode prog_7_method_30_code 6 = .ok (.if_icmp .le 8, 3) := by decide +kernel
theorem smd_M_make_9 : decode prog_7_method_30_code 9 = .ok (.aload_n 0, 1) := by decide +kernel
theorem smd_M_make_10 : decode prog_7_method_30_code 10 = .ok (.invokevirtual 120, 3) := by decide +kernel
theorem smd_M_make_13 : decode prog_7_method_30_code 13 = .ok (.pop, 1) := by decide +kernel
theorem smd_M_make_14 : decode prog_7_method_30_code 14 = .ok (.aload_n 0, 1) := by decide +kernel
theorem smd_M_make_15 : decode prog_7_method_30_code 15 = .ok (.invokevirtual 123, 3) := by decide +kernel
theorem smd_M_make_18 : decode prog_7_method_30_code 18 = .ok (.istore_n 2, 1) := by decide +kernel
theorem smd_M_make_19 : decode prog_7_method_30_code 19 = .ok (.iload_n 2, 1) := by decide +kernel
theorem smd_M_make_20 : decode prog_7_method_30_code 20 = .ok (.bipush 16, 2) := by decide +kernel
theorem smd_M_make_22 : decode prog_7_method_30_code 22 = .ok (.if_icmp .le 5, 3) := by decide +kernel
theorem smd_M_make_25 : decode prog_7_method_30_code 25 = .ok (.iconst 0, 1) := by decide +kernel
theorem smd_M_make_26 : decode prog_7_method_30_code 26 = .ok (.ireturn, 1) := by decide +kernel
theorem smd_M_make_27 : decode prog_7_method_30_code 27 = .ok (.aload_n 0, 1) := by decide +kernel
theorem smd_M_make_28 : decode prog_7_method_30_code 28 = .ok (.getfield 29, 3) := by decide +kernel
theorem smd_M_make_31 : decode prog_7_method_30_code 31 = .ok (.iload_n 2, 1) := by decide +kernel
theorem smd_M_make_32 : decode prog_7_method_30_code 32 = .ok (.iload_n 1, 1) := by decide +kernel
theorem smd_M_make_33 : decode prog_7_method_30_code 33 = .ok (.iastore, 1) := by decide +kernel
theorem smd_M_make_34 : decode prog_7_method_30_code 34 = .ok (.iconst 0, 1) := by decide +kernel
theorem smd_M_make_35 : decode prog_7_method_30_code 35 = .ok (.istore_n 3, 1) := by decide +kernel
theorem smd_M_make_36 : decode prog_7_method_30_code 36 = .ok (.iload_n 3, 1) := by decide +kernel
theorem smd_M_make_37 : decode prog_7_method_30_code 37 = .ok (.iconst 4, 1) := by decide +kernel
theorem smd_M_make_38 : decode prog_7_method_30_code 38 = .ok (.if_icmp .ge 20, 3) := by decide +kernel
theorem smd_M_make_41 : decode prog_7_method_30_code 41 = .ok (.aload_n 0, 1) := by decide +kernel
theorem smd_M_make_42 : decode prog_7_method_30_code 42 = .ok (.getfield 32, 3) := by decide +kernel
theorem smd_M_make_45 : decode prog_7_method_30_code 45 = .ok (.iconst 4, 1) := by decide +kernel
theorem smd_M_make_46 : decode prog_7_method_30_code 46 = .ok (.iload_n 2, 1) := by decide +kernel
theorem smd_M_make_47 : decode prog_7_method_30_code 47 = .ok (.imul, 1) := by decide +kernel
theorem smd_M_make_48 : decode prog_7_method_30_code 48 = .ok (.iload_n 3, 1) := by decide +kernel
theorem smd_M_make_49 : decode prog_7_method_30_code 49 = .ok (.iadd, 1) := by decide +kernel
theorem smd_M_make_50 : decode prog_7_method_30_code 50 = .ok (.iconst 0, 1) := by decide +kernel
theorem smd_M_make_51 : decode prog_7_method_30_code 51 = .ok (.iastore, 1) := by decide +kernel
theorem smd_M_make_52 : decode prog_7_method_30_code 52 = .ok (.iinc 3 1, 3) := by decide +kernel
theorem smd_M_make_55 : decode prog_7_method_30_code 55 = .ok (.goto (-19), 3) := by decide +kernel
theorem smd_M_make_58 : decode prog_7_method_30_code 58 = .ok (.iload_n 2, 1) := by decide +kernel
theorem smd_M_make_59 : decode prog_7_method_30_code 59 = .ok (.ireturn, 1) := by decide +kernel
theorem smd_M_typeOf_0 : decode prog_7_method_31_code 0 = .ok (.aload_n 0, 1) := by decide +kernel
theorem smd_M_typeOf_1 : decode prog_7_method_31_code 1 = .ok (.iload_n 1, 1) := by decide +kernel
theorem smd_M_typeOf_2 : decode prog_7_method_31_code 2 = .ok (.invokevirtual 110, 3) := by decide +kernel
theorem smd_M_typeOf_5 : decode prog_7_method_31_code 5 = .ok (.ifCond .eq 12, 3) := by decide +kernel
theorem smd_M_typeOf_8 : decode prog_7_method_31_code 8 = .ok (.aload_n 0, 1) := by decide +kernel
theorem smd_M_typeOf_9 : decode prog_7_method_31_code 9 = .ok (.getfield 29, 3) := by decide +kernel
theorem smd_M_typeOf_12 : decode prog_7_method_31_code 12 = .ok (.iload_n 1, 1) := by decide +kernel
theorem smd_M_typeOf_13 : decode prog_7_method_31_code 13 = .ok (.iaload, 1) := by decide +kernel
theorem smd_M_typeOf_14 : decode prog_7_method_31_code 14 = .ok (.goto 4, 3) := by decide +kernel
theorem smd_M_typeOf_17 : decode prog_7_method_31_code 17 = .ok (.iconst (-1), 1) := by decide +kernel
theorem smd_M_typeOf_18 : decode prog_7_method_31_code 18 = .ok (.ireturn, 1) := by decide +kernel
theorem smd_M_field_0 : decode prog_7_method_32_code 0 = .ok (.aload_n 0, 1) := by decide +kernel
theorem smd_M_field_1 : decode prog_7_method_32_code 1 = .ok (.iload_n 1, 1) := by decide +kernel
theorem smd_M_field_2 : decode prog_7_method_32_code 2 = .ok (.invokevirtual 110, 3) := by decide +kernel
theorem smd_M_field_5 : decode prog_7_method_32_code 5 = .ok (.ifCond .eq 35, 3) := by decide +kernel
theorem smd_M_field_8 : decode prog_7_method_32_code 8 = .ok (.iload_n 2, 1) := by decide +kernel
theorem smd_M_field_9 : decode prog_7_method_32_code 9 = .ok (.ifCond .lt 31, 3) := by decide +kernel
theorem smd_M_field_12 : decode prog_7_method_32_code 12 = .ok (.iload_n 2, 1) := by decide +kernel
theorem smd_M_field_13 : decode prog_7_method_32_code 13 = .ok (.aload_n 0, 1) := by decide +kernel
theorem smd_M_field_14 : decode prog_7_method_32_code 14 = .ok (.getfield 16, 3) := by decide +kernel
theorem smd_M_field_17 : decode prog_7_method_32_code 17 = .ok (.aload_n 0, 1) := by decide +kernel
theorem smd_M_field_18 : decode prog_7_method_32_code 18 = .ok (.getfield 29, 3) := by decide +kernel
theorem smd_M_field_21 : decode prog_7_method_32_code 21 = .ok (.iload_n 1, 1) := by decide +kernel
theorem smd_M_field_22 : decode prog_7_method_32_code 22 = .ok (.iaload, 1) := by decide +kernel
theorem smd_M_field_23 : decode prog_7_method_32_code 23 = .ok (.iaload, 1) := by decide +kernel
theorem smd_M_field_24 : decode prog_7_method_32_code 24 = .ok (.if_icmp .ge 16, 3) := by decide +kernel
theorem smd_M_field_27 : decode prog_7_method_32_code 27 = .ok (.aload_n 0, 1) := by decide +kernel
theorem smd_M_field_28 : decode prog_7_method_32_code 28 = .ok (.getfield 32, 3) := by decide +kernel
theorem smd_M_field_31 : decode prog_7_method_32_code 31 = .ok (.iconst 4, 1) := by decide +kernel
theorem smd_M_field_32 : decode prog_7_method_32_code 32 = .ok (.iload_n 1, 1) := by decide +kernel
theorem smd_M_field_33 : decode prog_7_method_32_code 33 = .ok (.imul, 1) := by decide +kernel
theorem smd_M_field_34 : decode prog_7_method_32_code 34 = .ok (.iload_n 2, 1) := by decide +kernel
theorem smd_M_field_35 : decode prog_7_method_32_code 35 = .ok (.iadd, 1) := by decide +kernel
theorem smd_M_field_36 : decode prog_7_method_32_code 36 = .ok (.iaload, 1) := by decide +kernel
theorem smd_M_field_37 : decode prog_7_method_32_code 37 = .ok (.goto 4, 3) := by decide +kernel
theorem smd_M_field_40 : decode prog_7_method_32_code 40 = .ok (.iconst 0, 1) := by decide +kernel
theorem smd_M_field_41 : decode prog_7_method_32_code 41 = .ok (.ireturn, 1) := by decide +kernel
theorem smd_M_heap_0 : decode prog_7_method_33_code 0 = .ok (.iconst 0, 1) := by decide +kernel
theorem smd_M_heap_1 : decode prog_7_method_33_code 1 = .ok (.istore_n 1, 1) := by decide +kernel
theorem smd_M_heap_2 : decode prog_7_method_33_code 2 = .ok (.iconst 1, 1) := by decide +kernel
theorem smd_M_heap_3 : decode prog_7_method_33_code 3 = .ok (.istore_n 2, 1) := by decide +kernel
theorem smd_M_heap_4 : decode prog_7_method_33_code 4 = .ok (.iload_n 2, 1) := by decide +kernel
theorem smd_M_heap_5 : decode prog_7_method_33_code 5 = .ok (.bipush 17, 2) := by decide +kernel
theorem smd_M_heap_7 : decode prog_7_method_33_code 7 = .ok (.if_icmp .ge 26, 3) := by decide +kernel
theorem smd_M_heap_10 : decode prog_7_method_33_code 10 = .ok (.iload_n 1, 1) := by decide +kernel
theorem smd_M_heap_11 : decode prog_7_method_33_code 11 = .ok (.aload_n 0, 1) := by decide +kernel
theorem smd_M_heap_12 : decode prog_7_method_33_code 12 = .ok (.getfield 29, 3) := by decide +kernel
theorem smd_M_heap_15 : decode prog_7_method_33_code 15 = .ok (.iload_n 2, 1) := by decide +kernel
theorem smd_M_heap_16 : decode prog_7_method_33_code 16 = .ok (.iaload, 1) := by decide +kernel
theorem smd_M_heap_17 : decode prog_7_method_33_code 17 = .ok (.ifCond .lt 7, 3) := by decide +kernel
theorem smd_M_heap_20 : decode prog_7_method_33_code 20 = .ok (.iconst 1, 1) := by decide +kernel
theorem smd_M_heap_21 : decode prog_7_method_33_code 21 = .ok (.goto 4, 3) := by decide +kernel
theorem smd_M_heap_24 : decode prog_7_method_33_code 24 = .ok (.iconst 0, 1) := by decide +kernel
theorem smd_M_heap_25 : decode prog_7_method_33_code 25 = .ok (.iadd, 1) := by decide +kernel
theorem smd_M_heap_26 : decode prog_7_method_33_code 26 = .ok (.istore_n 1, 1) := by decide +kernel
theorem smd_M_heap_27 : decode prog_7_method_33_code 27 = .ok (.iinc 2 1, 3) := by decide +kernel
theorem smd_M_heap_30 : decode prog_7_method_33_code 30 = .ok (.goto (-26), 3) := by decide +kernel
theorem smd_M_heap_33 : decode prog_7_method_33_code 33 = .ok (.iload_n 1, 1) := by decide +kernel
theorem smd_M_heap_34 : decode prog_7_method_33_code 34 = .ok (.ireturn, 1) := by decide +kernel
theorem smd_M_isMadeOver_0 : decode prog_7_method_34_code 0 = .ok (.aload_n 0, 1) := by decide +kernel
theorem smd_M_isMadeOver_1 : decode prog_7_method_34_code 1 = .ok (.getfield 29, 3) := by decide +kernel
theorem smd_M_isMadeOver_4 : decode prog_7_method_34_code 4 = .ok (.iload_n 1, 1) := by decide +kernel
theorem smd_M_isMadeOver_5 : decode prog_7_method_34_code 5 = .ok (.iaload, 1) := by decide +kernel
theorem smd_M_isMadeOver_6 : decode prog_7_method_34_code 6 = .ok (.istore_n 2, 1) := by decide +kernel
theorem smd_M_isMadeOver_7 : decode prog_7_method_34_code 7 = .ok (.iconst 0, 1) := by decide +kernel
theorem smd_M_isMadeOver_8 : decode prog_7_method_34_code 8 = .ok (.istore_n 3, 1) := by decide +kernel
theorem smd_M_isMadeOver_9 : decode prog_7_method_34_code 9 = .ok (.iload_n 3, 1) := by decide +kernel
theorem smd_M_isMadeOver_10 : decode prog_7_method_34_code 10 = .ok (.aload_n 0, 1) := by decide +kernel
theorem smd_M_isMadeOver_11 : decode prog_7_method_34_code 11 = .ok (.getfield 16, 3) := by decide +kernel
theorem smd_M_isMadeOver_14 : decode prog_7_method_34_code 14 = .ok (.iconst 3, 1) := by decide +kernel
theorem smd_M_isMadeOver_15 : decode prog_7_method_34_code 15 = .ok (.iload_n 2, 1) := by decide +kernel
theorem smd_M_isMadeOver_16 : decode prog_7_method_34_code 16 = .ok (.iadd, 1) := by decide +kernel
theorem smd_M_isMadeOver_17 : decode prog_7_method_34_code 17 = .ok (.iaload, 1) := by decide +kernel
theorem smd_M_isMadeOver_18 : decode prog_7_method_34_code 18 = .ok (.if_icmp .ge 117, 3) := by decide +kernel
theorem smd_M_isMadeOver_21 : decode prog_7_method_34_code 21 = .ok (.bipush 12, 2) := by decide +kernel
theorem smd_M_isMadeOver_23 : decode prog_7_method_34_code 23 = .ok (.iload_n 2, 1) := by decide +kernel
theorem smd_M_isMadeOver_24 : decode prog_7_method_34_code 24 = .ok (.imul, 1) := by decide +kernel
theorem smd_M_isMadeOver_25 : decode prog_7_method_34_code 25 = .ok (.iconst 3, 1) := by decide +kernel
theorem smd_M_isMadeOver_26 : decode prog_7_method_34_code 26 = .ok (.iload_n 3, 1) := by decide +kernel
theorem smd_M_isMadeOver_27 : decode prog_7_method_34_code 27 = .ok (.imul, 1) := by decide +kernel
theorem smd_M_isMadeOver_28 : decode prog_7_method_34_code 28 = .ok (.iadd, 1) := by decide +kernel
theorem smd_M_isMadeOver_29 : decode prog_7_method_34_code 29 = .ok (.istore 4, 2) := by decide +kernel
theorem smd_M_isMadeOver_31 : decode prog_7_method_34_code 31 = .ok (.aload_n 0, 1) := by decide +kernel
theorem smd_M_isMadeOver_32 : decode prog_7_method_34_code 32 = .ok (.getfield 35, 3) := by decide +kernel
theorem smd_M_isMadeOver_35 : decode prog_7_method_34_code 35 = .ok (.iconst 4, 1) := by decide +kernel
theorem smd_M_isMadeOver_36 : decode prog_7_method_34_code 36 = .ok (.iload_n 1, 1) := by decide +kernel
theorem smd_M_isMadeOver_37 : decode prog_7_method_34_code 37 = .ok (.imul, 1) := by decide +kernel
theorem smd_M_isMadeOver_38 : decode prog_7_method_34_code 38 = .ok (.aload_n 0, 1) := by decide +kernel
theorem smd_M_isMadeOver_39 : decode prog_7_method_34_code 39 = .ok (.getfield 19, 3) := by decide +kernel
theorem smd_M_isMadeOver_42 : decode prog_7_method_34_code 42 = .ok (.iload 4, 2) := by decide +kernel
theorem smd_M_isMadeOver_44 : decode prog_7_method_34_code 44 = .ok (.iconst 1, 1) := by decide +kernel
theorem smd_M_isMadeOver_45 : decode prog_7_method_34_code 45 = .ok (.iadd, 1) := by decide +kernel
theorem smd_M_isMadeOver_46 : decode prog_7_method_34_code 46 = .ok (.iaload, 1) := by decide +kernel
theorem smd_M_isMadeOver_47 : decode prog_7_method_34_code 47 = .ok (.iadd, 1) := by decide +kernel
theorem smd_M_isMadeOver_48 : decode prog_7_method_34_code 48 = .ok (.iaload, 1) := by decide +kernel
theorem smd_M_isMadeOver_49 : decode prog_7_method_34_code 49 = .ok (.istore 5, 2) := by decide +kernel
theorem smd_M_isMadeOver_51 : decode prog_7_method_34_code 51 = .ok (.aload_n 0, 1) := by decide +kernel
theorem smd_M_isMadeOver_52 : decode prog_7_method_34_code 52 = .ok (.getfield 19, 3) := by decide +kernel
theorem smd_M_isMadeOver_55 : decode prog_7_method_34_code 55 = .ok (.iload 4, 2) := by decide +kernel
theorem smd_M_isMadeOver_57 : decode prog_7_method_34_code 57 = .ok (.iconst 2, 1) := by decide +kernel
theorem smd_M_isMadeOver_58 : decode prog_7_method_34_code 58 = .ok (.iadd, 1) := by decide +kernel
theorem smd_M_isMadeOver_59 : decode prog_7_method_34_code 59 = .ok (.iaload, 1) := by decide +kernel
theorem smd_M_isMadeOver_60 : decode prog_7_method_34_code 60 = .ok (.istore 6, 2) := by decide +kernel
theorem smd_M_isMadeOver_62 : decode prog_7_method_34_code 62 = .ok (.aload_n 0, 1) := by decide +kernel
theorem smd_M_isMadeOver_63 : decode prog_7_method_34_code 63 = .ok (.getfield 19, 3) := by decide +kernel
theorem smd_M_isMadeOver_66 : decode prog_7_method_34_code 66 = .ok (.iload 4, 2) := by decide +kernel
theorem smd_M_isMadeOver_68 : decode prog_7_method_34_code 68 = .ok (.iaload, 1) := by decide +kernel
theorem smd_M_isMadeOver_69 : decode prog_7_method_34_code 69 = .ok (.iconst 2, 1) := by decide +kernel
theorem smd_M_isMadeOver_70 : decode prog_7_method_34_code 70 = .ok (.if_icmp .ne 10, 3) := by decide +kernel
theorem smd_M_isMadeOver_73 : decode prog_7_method_34_code 73 = .ok (.iload 5, 2) := by decide +kernel
theorem smd_M_isMadeOver_75 : decode prog_7_method_34_code 75 = .ok (.ifCond .ne 5, 3) := by decide +kernel
theorem smd_M_isMadeOver_78 : decode prog_7_method_34_code 78 = .ok (.iconst 0, 1) := by decide +kernel
theorem smd_M_isMadeOver_79 : decode prog_7_method_34_code 79 = .ok (.ireturn, 1) := by decide +kernel
theorem smd_M_isMadeOver_80 : decode prog_7_method_34_code 80 = .ok (.aload_n 0, 1) := by decide +kernel
theorem smd_M_isMadeOver_81 : decode prog_7_method_34_code 81 = .ok (.getfield 32, 3) := by decide +kernel
theorem smd_M_isMadeOver_84 : decode prog_7_method_34_code 84 = .ok (.iconst 4, 1) := by decide +kernel
theorem smd_M_isMadeOver_85 : decode prog_7_method_34_code 85 = .ok (.iload_n 1, 1) := by decide +kernel
theorem smd_M_isMadeOver_86 : decode prog_7_method_34_code 86 = .ok (.imul, 1) := by decide +kernel
theorem smd_M_isMadeOver_87 : decode prog_7_method_34_code 87 = .ok (.iload_n 3, 1) := by decide +kernel
theorem smd_M_isMadeOver_88 : decode prog_7_method_34_code 88 = .ok (.iadd, 1) := by decide +kernel
theorem smd_M_isMadeOver_89 : decode prog_7_method_34_code 89 = .ok (.aload_n 0, 1) := by decide +kernel
theorem smd_M_isMadeOver_90 : decode prog_7_method_34_code 90 = .ok (.getfield 19, 3) := by decide +kernel
theorem smd_M_isMadeOver_93 : decode prog_7_method_34_code 93 = .ok (.iload 4, 2) := by decide +kernel
theorem smd_M_isMadeOver_95 : decode prog_7_method_34_code 95 = .ok (.iaload, 1) := by decide +kernel
theorem smd_M_isMadeOver_96 : decode prog_7_method_34_code 96 = .ok (.ifCond .ne 8, 3) := by decide +kernel
theorem smd_M_isMadeOver_99 : decode prog_7_method_34_code 99 = .ok (.iload 6, 2) := by decide +kernel
theorem smd_M_isMadeOver_101 : decode prog_7_method_34_code 101 = .ok (.goto 27, 3) := by decide +kernel
theorem smd_M_isMadeOver_104 : decode prog_7_method_34_code 104 = .ok (.aload_n 0, 1) := by decide +kernel
theorem smd_M_isMadeOver_105 : decode prog_7_method_34_code 105 = .ok (.getfield 19, 3) := by decide +kernel
theorem smd_M_isMadeOver_108 : decode prog_7_method_34_code 108 = .ok (.iload 4, 2) := by decide +kernel
theorem smd_M_isMadeOver_110 : decode prog_7_method_34_code 110 = .ok (.iaload, 1) := by decide +kernel
theorem smd_M_isMadeOver_111 : decode prog_7_method_34_code 111 = .ok (.iconst 1, 1) := by decide +kernel
theorem smd_M_isMadeOver_112 : decode prog_7_method_34_code 112 = .ok (.if_icmp .ne 11, 3) := by decide +kernel
theorem smd_M_isMadeOver_115 : decode prog_7_method_34_code 115 = .ok (.iload 5, 2) := by decide +kernel
theorem smd_M_isMadeOver_117 : decode prog_7_method_34_code 117 = .ok (.iload 6, 2) := by decide +kernel
theorem smd_M_isMadeOver_119 : decode prog_7_method_34_code 119 = .ok (.iadd, 1) := by decide +kernel
theorem smd_M_isMadeOver_120 : decode prog_7_method_34_code 120 = .ok (.goto 8, 3) := by decide +kernel
theorem smd_M_isMadeOver_123 : decode prog_7_method_34_code 123 = .ok (.iload 6, 2) := by decide +kernel
theorem smd_M_isMadeOver_125 : decode prog_7_method_34_code 125 = .ok (.iload 5, 2) := by decide +kernel
theorem smd_M_isMadeOver_127 : decode prog_7_method_34_code 127 = .ok (.idiv, 1) := by decide +kernel
theorem smd_M_isMadeOver_128 : decode prog_7_method_34_code 128 = .ok (.iastore, 1) := by decide +kernel
theorem smd_M_isMadeOver_129 : decode prog_7_method_34_code 129 = .ok (.iinc 3 1, 3) := by decide +kernel
theorem smd_M_isMadeOver_132 : decode prog_7_method_34_code 132 = .ok (.goto (-123), 3) := by decide +kernel
theorem smd_M_isMadeOver_135 : decode prog_7_method_34_code 135 = .ok (.iconst 1, 1) := by decide +kernel
theorem smd_M_isMadeOver_136 : decode prog_7_method_34_code 136 = .ok (.ireturn, 1) := by decide +kernel
theorem smd_M_areMadeOver_0 : decode prog_7_method_35_code 0 = .ok (.iconst 0, 1) := by decide +kernel
theorem smd_M_areMadeOver_1 : decode prog_7_method_35_code 1 = .ok (.istore_n 2, 1) := by decide +kernel
theorem smd_M_areMadeOver_2 : decode prog_7_method_35_code 2 = .ok (.iload_n 2, 1) := by decide +kernel
theorem smd_M_areMadeOver_3 : decode prog_7_method_35_code 3 = .ok (.bipush 68, 2) := by decide +kernel
theorem smd_M_areMadeOver_5 : decode prog_7_method_35_code 5 = .ok (.if_icmp .ge 21, 3) := by decide +kernel
theorem smd_M_areMadeOver_8 : decode prog_7_method_35_code 8 = .ok (.aload_n 0, 1) := by decide +kernel
theorem smd_M_areMadeOver_9 : decode prog_7_method_35_code 9 = .ok (.getfield 35, 3) := by decide +kernel
theorem smd_M_areMadeOver_12 : decode prog_7_method_35_code 12 = .ok (.iload_n 2, 1) := by decide +kernel
theorem smd_M_areMadeOver_13 : decode prog_7_method_35_code 13 = .ok (.aload_n 0, 1) := by decide +kernel
theorem smd_M_areMadeOver_14 : decode prog_7_method_35_code 14 = .ok (.getfield 32, 3) := by decide +kernel
theorem smd_M_areMadeOver_17 : decode prog_7_method_35_code 17 = .ok (.iload_n 2, 1) := by decide +kernel
theorem smd_M_areMadeOver_18 : decode prog_7_method_35_code 18 = .ok (.iaload, 1) := by decide +kernel
theorem smd_M_areMadeOver_19 : decode prog_7_method_35_code 19 = .ok (.iastore, 1) := by decide +kernel
theorem smd_M_areMadeOver_20 : decode prog_7_method_35_code 20 = .ok (.iinc 2 1, 3) := by decide +kernel
theorem smd_M_areMadeOver_23 : decode prog_7_method_35_code 23 = .ok (.goto (-21), 3) := by decide +kernel
theorem smd_M_areMadeOver_26 : decode prog_7_method_35_code 26 = .ok (.iload_n 1, 1) := by decide +kernel
theorem smd_M_areMadeOver_27 : decode prog_7_method_35_code 27 = .ok (.istore_n 2, 1) := by decide +kernel
theorem smd_M_areMadeOver_28 : decode prog_7_method_35_code 28 = .ok (.iconst 1, 1) := by decide +kernel
theorem smd_M_areMadeOver_29 : decode prog_7_method_35_code 29 = .ok (.istore_n 3, 1) := by decide +kernel
theorem smd_M_areMadeOver_30 : decode prog_7_method_35_code 30 = .ok (.iconst 1, 1) := by decide +kernel
theorem smd_M_areMadeOver_31 : decode prog_7_method_35_code 31 = .ok (.istore 4, 2) := by decide +kernel
theorem smd_M_areMadeOver_33 : decode prog_7_method_35_code 33 = .ok (.iload 4, 2) := by decide +kernel
theorem smd_M_areMadeOver_35 : decode prog_7_method_35_code 35 = .ok (.bipush 17, 2) := by decide +kernel
theorem smd_M_areMadeOver_37 : decode prog_7_method_35_code 37 = .ok (.if_icmp .ge 74, 3) := by decide +kernel
theorem smd_M_areMadeOver_40 : decode prog_7_method_35_code 40 = .ok (.iload_n 3, 1) := by decide +kernel
theorem smd_M_areMadeOver_41 : decode prog_7_method_35_code 41 = .ok (.ifCond .eq 70, 3) := by decide +kernel
theorem smd_M_areMadeOver_44 : decode prog_7_method_35_code 44 = .ok (.aload_n 0, 1) := by decide +kernel
theorem smd_M_areMadeOver_45 : decode prog_7_method_35_code 45 = .ok (.getfield 29, 3) := by decide +kernel
theorem smd_M_areMadeOver_48 : decode prog_7_method_35_code 48 = .ok (.iload 4, 2) := by decide +kernel
theorem smd_M_areMadeOver_50 : decode prog_7_method_35_code 50 = .ok (.iaload, 1) := by decide +kernel
theorem smd_M_areMadeOver_51 : decode prog_7_method_35_code 51 = .ok (.ifCond .lt 54, 3) := by decide +kernel
theorem smd_M_areMadeOver_54 : decode prog_7_method_35_code 54 = .ok (.aload_n 0, 1) := by decide +kernel
theorem smd_M_areMadeOver_55 : decode prog_7_method_35_code 55 = .ok (.getfield 22, 3) := by decide +kernel
theorem smd_M_areMadeOver_58 : decode prog_7_method_35_code 58 = .ok (.aload_n 0, 1) := by decide +kernel
theorem smd_M_areMadeOver_59 : decode prog_7_method_35_code 59 = .ok (.getfield 29, 3) := by decide +kernel
theorem smd_M_areMadeOver_62 : decode prog_7_method_35_code 62 = .ok (.iload 4, 2) := by decide +kernel
theorem smd_M_areMadeOver_64 : decode prog_7_method_35_code 64 = .ok (.iaload, 1) := by decide +kernel
theorem smd_M_areMadeOver_65 : decode prog_7_method_35_code 65 = .ok (.baload, 1) := by decide +kernel
theorem smd_M_areMadeOver_66 : decode prog_7_method_35_code 66 = .ok (.ifCond .eq 39, 3) := by decide +kernel
theorem smd_M_areMadeOver_69 : decode prog_7_method_35_code 69 = .ok (.iload_n 2, 1) := by decide +kernel
theorem smd_M_areMadeOver_70 : decode prog_7_method_35_code 70 = .ok (.aload_n 0, 1) := by decide +kernel
theorem smd_M_areMadeOver_71 : decode prog_7_method_35_code 71 = .ok (.getfield 16, 3) := by decide +kernel
theorem smd_M_areMadeOver_74 : decode prog_7_method_35_code 74 = .ok (.iconst 3, 1) := by decide +kernel
theorem smd_M_areMadeOver_75 : decode prog_7_method_35_code 75 = .ok (.aload_n 0, 1) := by decide +kernel
theorem smd_M_areMadeOver_76 : decode prog_7_method_35_code 76 = .ok (.getfield 29, 3) := by decide +kernel
theorem smd_M_areMadeOver_79 : decode prog_7_method_35_code 79 = .ok (.iload 4, 2) := by decide +kernel
theorem smd_M_areMadeOver_81 : decode prog_7_method_35_code 81 = .ok (.iaload, 1) := by decide +kernel
theorem smd_M_areMadeOver_82 : decode prog_7_method_35_code 82 = .ok (.iadd, 1) := by decide +kernel
theorem smd_M_areMadeOver_83 : decode prog_7_method_35_code 83 = .ok (.iaload, 1) := by decide +kernel
theorem smd_M_areMadeOver_84 : decode prog_7_method_35_code 84 = .ok (.isub, 1) := by decide +kernel
theorem smd_M_areMadeOver_85 : decode prog_7_method_35_code 85 = .ok (.istore_n 2, 1) := by decide +kernel
theorem smd_M_areMadeOver_86 : decode prog_7_method_35_code 86 = .ok (.iload_n 2, 1) := by decide +kernel
theorem smd_M_areMadeOver_87 : decode prog_7_method_35_code 87 = .ok (.ifCond .lt 16, 3) := by decide +kernel
theorem smd_M_areMadeOver_90 : decode prog_7_method_35_code 90 = .ok (.aload_n 0, 1) := by decide +kernel
theorem smd_M_areMadeOver_91 : decode prog_7_method_35_code 91 = .ok (.iload 4, 2) := by decide +kernel
theorem smd_M_areMadeOver_93 : decode prog_7_method_35_code 93 = .ok (.invokevirtual 126, 3) := by decide +kernel
theorem smd_M_areMadeOver_96 : decode prog_7_method_35_code 96 = .ok (.ifCond .eq 7, 3) := by decide +kernel
theorem smd_M_areMadeOver_99 : decode prog_7_method_35_code 99 = .ok (.iconst 1, 1) := by decide +kernel
theorem smd_M_areMadeOver_100 : decode prog_7_method_35_code 100 = .ok (.goto 4, 3) := by decide +kernel
theorem smd_M_areMadeOver_103 : decode prog_7_method_35_code 103 = .ok (.iconst 0, 1) := by decide +kernel
theorem smd_M_areMadeOver_104 : decode prog_7_method_35_code 104 = .ok (.istore_n 3, 1) := by decide +kernel
theorem smd_M_areMadeOver_105 : decode prog_7_method_35_code 105 = .ok (.iinc 4 1, 3) := by decide +kernel
theorem smd_M_areMadeOver_108 : decode prog_7_method_35_code 108 = .ok (.goto (-75), 3) := by decide +kernel
theorem smd_M_areMadeOver_111 : decode prog_7_method_35_code 111 = .ok (.iconst 0, 1) := by decide +kernel
theorem smd_M_areMadeOver_112 : decode prog_7_method_35_code 112 = .ok (.istore 4, 2) := by decide +kernel
theorem smd_M_areMadeOver_114 : decode prog_7_method_35_code 114 = .ok (.iload 4, 2) := by decide +kernel
theorem smd_M_areMadeOver_116 : decode prog_7_method_35_code 116 = .ok (.bipush 68, 2) := by decide +kernel
theorem smd_M_areMadeOver_118 : decode prog_7_method_35_code 118 = .ok (.if_icmp .ge 27, 3) := by decide +kernel
theorem smd_M_areMadeOver_121 : decode prog_7_method_35_code 121 = .ok (.iload_n 3, 1) := by decide +kernel
theorem smd_M_areMadeOver_122 : decode prog_7_method_35_code 122 = .ok (.ifCond .ne 23, 3) := by decide +kernel
theorem smd_M_areMadeOver_125 : decode prog_7_method_35_code 125 = .ok (.aload_n 0, 1) := by decide +kernel
theorem smd_M_areMadeOver_126 : decode prog_7_method_35_code 126 = .ok (.getfield 32, 3) := by decide +kernel
theorem smd_M_areMadeOver_129 : decode prog_7_method_35_code 129 = .ok (.iload 4, 2) := by decide +kernel
theorem smd_M_areMadeOver_131 : decode prog_7_method_35_code 131 = .ok (.aload_n 0, 1) := by decide +kernel
theorem smd_M_areMadeOver_132 : decode prog_7_method_35_code 132 = .ok (.getfield 35, 3) := by decide +kernel
theorem smd_M_areMadeOver_135 : decode prog_7_method_35_code 135 = .ok (.iload 4, 2) := by decide +kernel
theorem smd_M_areMadeOver_137 : decode prog_7_method_35_code 137 = .ok (.iaload, 1) := by decide +kernel
theorem smd_M_areMadeOver_138 : decode prog_7_method_35_code 138 = .ok (.iastore, 1) := by decide +kernel
theorem smd_M_areMadeOver_139 : decode prog_7_method_35_code 139 = .ok (.iinc 4 1, 3) := by decide +kernel
theorem smd_M_areMadeOver_142 : decode prog_7_method_35_code 142 = .ok (.goto (-28), 3) := by decide +kernel
theorem smd_M_areMadeOver_145 : decode prog_7_method_35_code 145 = .ok (.iload_n 3, 1) := by decide +kernel
theorem smd_M_areMadeOver_146 : decode prog_7_method_35_code 146 = .ok (.ireturn, 1) := by decide +kernel
