theorem smd_M_moveFrames_0 : decode prog_7_method_36_code 0 = .ok (.iconst 1, 1) := by decide +kernel
theorem smd_M_moveFrames_1 : decode prog_7_method_36_code 1 = .ok (.istore_n 1, 1) := by decide +kernel
theorem smd_M_moveFrames_2 : decode prog_7_method_36_code 2 = .ok (.iload_n 1, 1) := by decide +kernel
theorem smd_M_moveFrames_3 : decode prog_7_method_36_code 3 = .ok (.aload_n 0, 1) := by decide +kernel
theorem smd_M_moveFrames_4 : decode prog_7_method_36_code 4 = .ok (.getfield 103, 3) := by decide +kernel
theorem smd_M_moveFrames_7 : decode prog_7_method_36_code 7 = .ok (.if_icmp .gt 87, 3) := by decide +kernel
theorem smd_M_moveFrames_10 : decode prog_7_method_36_code 10 = .ok (.iconst 0, 1) := by decide +kernel
theorem smd_M_moveFrames_11 : decode prog_7_method_36_code 11 = .ok (.istore_n 2, 1) := by decide +kernel
theorem smd_M_moveFrames_12 : decode prog_7_method_36_code 12 = .ok (.iload_n 2, 1) := by decide +kernel
theorem smd_M_moveFrames_13 : decode prog_7_method_36_code 13 = .ok (.aload_n 0, 1) := by decide +kernel
theorem smd_M_moveFrames_14 : decode prog_7_method_36_code 14 = .ok (.getfield 47, 3) := by decide +kernel
theorem smd_M_moveFrames_17 : decode prog_7_method_36_code 17 = .ok (.iload_n 1, 1) := by decide +kernel
theorem smd_M_moveFrames_18 : decode prog_7_method_36_code 18 = .ok (.iaload, 1) := by decide +kernel
theorem smd_M_moveFrames_19 : decode prog_7_method_36_code 19 = .ok (.if_icmp .ge 69, 3) := by decide +kernel
theorem smd_M_moveFrames_22 : decode prog_7_method_36_code 22 = .ok (.iload_n 1, 1) := by decide +kernel
theorem smd_M_moveFrames_23 : decode prog_7_method_36_code 23 = .ok (.iload_n 2, 1) := by decide +kernel
theorem smd_M_moveFrames_24 : decode prog_7_method_36_code 24 = .ok (.invokestatic 96, 3) := by decide +kernel
theorem smd_M_moveFrames_27 : decode prog_7_method_36_code 27 = .ok (.istore_n 3, 1) := by decide +kernel
theorem smd_M_moveFrames_28 : decode prog_7_method_36_code 28 = .ok (.aload_n 0, 1) := by decide +kernel
theorem smd_M_moveFrames_29 : decode prog_7_method_36_code 29 = .ok (.getfield 50, 3) := by decide +kernel
theorem smd_M_moveFrames_32 : decode prog_7_method_36_code 32 = .ok (.iload_n 3, 1) := by decide +kernel
theorem smd_M_moveFrames_33 : decode prog_7_method_36_code 33 = .ok (.iaload, 1) := by decide +kernel
theorem smd_M_moveFrames_34 : decode prog_7_method_36_code 34 = .ok (.istore 4, 2) := by decide +kernel
theorem smd_M_moveFrames_36 : decode prog_7_method_36_code 36 = .ok (.aload_n 0, 1) := by decide +kernel
theorem smd_M_moveFrames_37 : decode prog_7_method_36_code 37 = .ok (.iload 4, 2) := by decide +kernel
theorem smd_M_moveFrames_39 : decode prog_7_method_36_code 39 = .ok (.invokevirtual 93, 3) := by decide +kernel
theorem smd_M_moveFrames_42 : decode prog_7_method_36_code 42 = .ok (.ifCond .eq 40, 3) := by decide +kernel
theorem smd_M_moveFrames_45 : decode prog_7_method_36_code 45 = .ok (.aload_n 0, 1) := by decide +kernel
theorem smd_M_moveFrames_46 : decode prog_7_method_36_code 46 = .ok (.getfield 50, 3) := by decide +kernel
theorem smd_M_moveFrames_49 : decode prog_7_method_36_code 49 = .ok (.iload_n 3, 1) := by decide +kernel
theorem smd_M_moveFrames_50 : decode prog_7_method_36_code 50 = .ok (.iconst 1, 1) := by decide +kernel
theorem smd_M_moveFrames_51 : decode prog_7_method_36_code 51 = .ok (.iadd, 1) := by decide +kernel
theorem smd_M_moveFrames_52 : decode prog_7_method_36_code 52 = .ok (.aload_n 0, 1) := by decide +kernel
theorem smd_M_moveFrames_53 : decode prog_7_method_36_code 53 = .ok (.iload 4, 2) := by decide +kernel
theorem smd_M_moveFrames_55 : decode prog_7_method_36_code 55 = .ok (.aload_n 0, 1) := by decide +kernel
theorem smd_M_moveFrames_56 : decode prog_7_method_36_code 56 = .ok (.getfield 7, 3) := by decide +kernel
theorem smd_M_moveFrames_59 : decode prog_7_method_36_code 59 = .ok (.bipush 48, 2) := by decide +kernel
theorem smd_M_moveFrames_61 : decode prog_7_method_36_code 61 = .ok (.iload 4, 2) := by decide +kernel
theorem smd_M_moveFrames_63 : decode prog_7_method_36_code 63 = .ok (.imul, 1) := by decide +kernel
theorem smd_M_moveFrames_64 : decode prog_7_method_36_code 64 = .ok (.iconst 4, 1) := by decide +kernel
theorem smd_M_moveFrames_65 : decode prog_7_method_36_code 65 = .ok (.aload_n 0, 1) := by decide +kernel
theorem smd_M_moveFrames_66 : decode prog_7_method_36_code 66 = .ok (.getfield 50, 3) := by decide +kernel
theorem smd_M_moveFrames_69 : decode prog_7_method_36_code 69 = .ok (.iload_n 3, 1) := by decide +kernel
theorem smd_M_moveFrames_70 : decode prog_7_method_36_code 70 = .ok (.iconst 1, 1) := by decide +kernel
theorem smd_M_moveFrames_71 : decode prog_7_method_36_code 71 = .ok (.iadd, 1) := by decide +kernel
theorem smd_M_moveFrames_72 : decode prog_7_method_36_code 72 = .ok (.iaload, 1) := by decide +kernel
theorem smd_M_moveFrames_73 : decode prog_7_method_36_code 73 = .ok (.imul, 1) := by decide +kernel
theorem smd_M_moveFrames_74 : decode prog_7_method_36_code 74 = .ok (.iadd, 1) := by decide +kernel
theorem smd_M_moveFrames_75 : decode prog_7_method_36_code 75 = .ok (.iconst 1, 1) := by decide +kernel
theorem smd_M_moveFrames_76 : decode prog_7_method_36_code 76 = .ok (.iadd, 1) := by decide +kernel
theorem smd_M_moveFrames_77 : decode prog_7_method_36_code 77 = .ok (.iaload, 1) := by decide +kernel
theorem smd_M_moveFrames_78 : decode prog_7_method_36_code 78 = .ok (.invokevirtual 100, 3) := by decide +kernel
theorem smd_M_moveFrames_81 : decode prog_7_method_36_code 81 = .ok (.iastore, 1) := by decide +kernel
theorem smd_M_moveFrames_82 : decode prog_7_method_36_code 82 = .ok (.iinc 2 1, 3) := by decide +kernel
theorem smd_M_moveFrames_85 : decode prog_7_method_36_code 85 = .ok (.goto (-73), 3) := by decide +kernel
theorem smd_M_moveFrames_88 : decode prog_7_method_36_code 88 = .ok (.iinc 1 1, 3) := by decide +kernel
theorem smd_M_moveFrames_91 : decode prog_7_method_36_code 91 = .ok (.goto (-89), 3) := by decide +kernel
theorem smd_M_moveFrames_94 : decode prog_7_method_36_code 94 = .ok (.return_, 1) := by decide +kernel
theorem smd_M_attempt_0 : decode prog_7_method_37_code 0 = .ok (.iload_n 1, 1) := by decide +kernel
theorem smd_M_attempt_1 : decode prog_7_method_37_code 1 = .ok (.ifCond .ge 5, 3) := by decide +kernel
theorem smd_M_attempt_4 : decode prog_7_method_37_code 4 = .ok (.iconst (-1), 1) := by decide +kernel
theorem smd_M_attempt_5 : decode prog_7_method_37_code 5 = .ok (.ireturn, 1) := by decide +kernel
theorem smd_M_attempt_6 : decode prog_7_method_37_code 6 = .ok (.aload_n 0, 1) := by decide +kernel
theorem smd_M_attempt_7 : decode prog_7_method_37_code 7 = .ok (.getfield 63, 3) := by decide +kernel
theorem smd_M_attempt_10 : decode prog_7_method_37_code 10 = .ok (.ifCond .ne 5, 3) := by decide +kernel
theorem smd_M_attempt_13 : decode prog_7_method_37_code 13 = .ok (.iconst 3, 1) := by decide +kernel
theorem smd_M_attempt_14 : decode prog_7_method_37_code 14 = .ok (.ireturn, 1) := by decide +kernel
theorem smd_M_attempt_15 : decode prog_7_method_37_code 15 = .ok (.aload_n 0, 1) := by decide +kernel
theorem smd_M_attempt_16 : decode prog_7_method_37_code 16 = .ok (.iconst 0, 1) := by decide +kernel
theorem smd_M_attempt_17 : decode prog_7_method_37_code 17 = .ok (.invokevirtual 129, 3) := by decide +kernel
theorem smd_M_attempt_20 : decode prog_7_method_37_code 20 = .ok (.ifCond .le 5, 3) := by decide +kernel
theorem smd_M_attempt_23 : decode prog_7_method_37_code 23 = .ok (.iconst 0, 1) := by decide +kernel
theorem smd_M_attempt_24 : decode prog_7_method_37_code 24 = .ok (.ireturn, 1) := by decide +kernel
theorem smd_M_attempt_25 : decode prog_7_method_37_code 25 = .ok (.aload_n 0, 1) := by decide +kernel
theorem smd_M_attempt_26 : decode prog_7_method_37_code 26 = .ok (.invokevirtual 120, 3) := by decide +kernel
theorem smd_M_attempt_29 : decode prog_7_method_37_code 29 = .ok (.pop, 1) := by decide +kernel
theorem smd_M_attempt_30 : decode prog_7_method_37_code 30 = .ok (.aload_n 0, 1) := by decide +kernel
theorem smd_M_attempt_31 : decode prog_7_method_37_code 31 = .ok (.iload_n 1, 1) := by decide +kernel
theorem smd_M_attempt_32 : decode prog_7_method_37_code 32 = .ok (.invokevirtual 133, 3) := by decide +kernel
theorem smd_M_attempt_35 : decode prog_7_method_37_code 35 = .ok (.ifCond .ne 5, 3) := by decide +kernel
theorem smd_M_attempt_38 : decode prog_7_method_37_code 38 = .ok (.iconst 2, 1) := by decide +kernel
theorem smd_M_attempt_39 : decode prog_7_method_37_code 39 = .ok (.ireturn, 1) := by decide +kernel
theorem smd_M_attempt_40 : decode prog_7_method_37_code 40 = .ok (.aload_n 0, 1) := by decide +kernel
theorem smd_M_attempt_41 : decode prog_7_method_37_code 41 = .ok (.invokevirtual 136, 3) := by decide +kernel
theorem smd_M_attempt_44 : decode prog_7_method_37_code 44 = .ok (.iconst 0, 1) := by decide +kernel
theorem smd_M_attempt_45 : decode prog_7_method_37_code 45 = .ok (.istore_n 2, 1) := by decide +kernel
theorem smd_M_attempt_46 : decode prog_7_method_37_code 46 = .ok (.iload_n 2, 1) := by decide +kernel
theorem smd_M_attempt_47 : decode prog_7_method_37_code 47 = .ok (.sipush 288, 3) := by decide +kernel
theorem smd_M_attempt_50 : decode prog_7_method_37_code 50 = .ok (.if_icmp .ge 25, 3) := by decide +kernel
theorem smd_M_attempt_53 : decode prog_7_method_37_code 53 = .ok (.aload_n 0, 1) := by decide +kernel
theorem smd_M_attempt_54 : decode prog_7_method_37_code 54 = .ok (.getfield 7, 3) := by decide +kernel
theorem smd_M_attempt_57 : decode prog_7_method_37_code 57 = .ok (.iload_n 2, 1) := by decide +kernel
theorem smd_M_attempt_58 : decode prog_7_method_37_code 58 = .ok (.aload_n 0, 1) := by decide +kernel
theorem smd_M_attempt_59 : decode prog_7_method_37_code 59 = .ok (.getfield 7, 3) := by decide +kernel
theorem smd_M_attempt_62 : decode prog_7_method_37_code 62 = .ok (.sipush 288, 3) := by decide +kernel
theorem smd_M_attempt_65 : decode prog_7_method_37_code 65 = .ok (.iload_n 2, 1) := by decide +kernel
theorem smd_M_attempt_66 : decode prog_7_method_37_code 66 = .ok (.iadd, 1) := by decide +kernel
theorem smd_M_attempt_67 : decode prog_7_method_37_code 67 = .ok (.iaload, 1) := by decide +kernel
theorem smd_M_attempt_68 : decode prog_7_method_37_code 68 = .ok (.iastore, 1) := by decide +kernel
theorem smd_M_attempt_69 : decode prog_7_method_37_code 69 = .ok (.iinc 2 1, 3) := by decide +kernel
theorem smd_M_attempt_72 : decode prog_7_method_37_code 72 = .ok (.goto (-26), 3) := by decide +kernel
theorem smd_M_attempt_75 : decode prog_7_method_37_code 75 = .ok (.iconst 0, 1) := by decide +kernel
theorem smd_M_attempt_76 : decode prog_7_method_37_code 76 = .ok (.istore_n 2, 1) := by decide +kernel
theorem smd_M_attempt_77 : decode prog_7_method_37_code 77 = .ok (.iload_n 2, 1) := by decide +kernel
theorem smd_M_attempt_78 : decode prog_7_method_37_code 78 = .ok (.bipush 6, 2) := by decide +kernel
theorem smd_M_attempt_80 : decode prog_7_method_37_code 80 = .ok (.if_icmp .ge 24, 3) := by decide +kernel
theorem smd_M_attempt_83 : decode prog_7_method_37_code 83 = .ok (.aload_n 0, 1) := by decide +kernel
theorem smd_M_attempt_84 : decode prog_7_method_37_code 84 = .ok (.getfield 13, 3) := by decide +kernel
theorem smd_M_attempt_87 : decode prog_7_method_37_code 87 = .ok (.iload_n 2, 1) := by decide +kernel
theorem smd_M_attempt_88 : decode prog_7_method_37_code 88 = .ok (.aload_n 0, 1) := by decide +kernel
theorem smd_M_attempt_89 : decode prog_7_method_37_code 89 = .ok (.getfield 13, 3) := by decide +kernel
theorem smd_M_attempt_92 : decode prog_7_method_37_code 92 = .ok (.bipush 6, 2) := by decide +kernel
theorem smd_M_attempt_94 : decode prog_7_method_37_code 94 = .ok (.iload_n 2, 1) := by decide +kernel
theorem smd_M_attempt_95 : decode prog_7_method_37_code 95 = .ok (.iadd, 1) := by decide +kernel
theorem smd_M_attempt_96 : decode prog_7_method_37_code 96 = .ok (.iaload, 1) := by decide +kernel
theorem smd_M_attempt_97 : decode prog_7_method_37_code 97 = .ok (.iastore, 1) := by decide +kernel
theorem smd_M_attempt_98 : decode prog_7_method_37_code 98 = .ok (.iinc 2 1, 3) := by decide +kernel
theorem smd_M_attempt_101 : decode prog_7_method_37_code 101 = .ok (.goto (-24), 3) := by decide +kernel
theorem smd_M_attempt_104 : decode prog_7_method_37_code 104 = .ok (.iconst 0, 1) := by decide +kernel
theorem smd_M_attempt_105 : decode prog_7_method_37_code 105 = .ok (.istore_n 2, 1) := by decide +kernel
theorem smd_M_attempt_106 : decode prog_7_method_37_code 106 = .ok (.iload_n 2, 1) := by decide +kernel
theorem smd_M_attempt_107 : decode prog_7_method_37_code 107 = .ok (.iconst 3, 1) := by decide +kernel
theorem smd_M_attempt_108 : decode prog_7_method_37_code 108 = .ok (.if_icmp .ge 23, 3) := by decide +kernel
theorem smd_M_attempt_111 : decode prog_7_method_37_code 111 = .ok (.aload_n 0, 1) := by decide +kernel
theorem smd_M_attempt_112 : decode prog_7_method_37_code 112 = .ok (.getfield 16, 3) := by decide +kernel
theorem smd_M_attempt_115 : decode prog_7_method_37_code 115 = .ok (.iload_n 2, 1) := by decide +kernel
theorem smd_M_attempt_116 : decode prog_7_method_37_code 116 = .ok (.aload_n 0, 1) := by decide +kernel
theorem smd_M_attempt_117 : decode prog_7_method_37_code 117 = .ok (.getfield 16, 3) := by decide +kernel
theorem smd_M_attempt_120 : decode prog_7_method_37_code 120 = .ok (.iconst 3, 1) := by decide +kernel
theorem smd_M_attempt_121 : decode prog_7_method_37_code 121 = .ok (.iload_n 2, 1) := by decide +kernel
theorem smd_M_attempt_122 : decode prog_7_method_37_code 122 = .ok (.iadd, 1) := by decide +kernel
theorem smd_M_attempt_123 : decode prog_7_method_37_code 123 = .ok (.iaload, 1) := by decide +kernel
theorem smd_M_attempt_124 : decode prog_7_method_37_code 124 = .ok (.iastore, 1) := by decide +kernel
theorem smd_M_attempt_125 : decode prog_7_method_37_code 125 = .ok (.iinc 2 1, 3) := by decide +kernel
theorem smd_M_attempt_128 : decode prog_7_method_37_code 128 = .ok (.goto (-22), 3) := by decide +kernel
theorem smd_M_attempt_131 : decode prog_7_method_37_code 131 = .ok (.aload_n 0, 1) := by decide +kernel
theorem smd_M_attempt_132 : decode prog_7_method_37_code 132 = .ok (.invokevirtual 74, 3) := by decide +kernel
theorem smd_M_attempt_135 : decode prog_7_method_37_code 135 = .ok (.aload_n 0, 1) := by decide +kernel
theorem smd_M_attempt_136 : decode prog_7_method_37_code 136 = .ok (.iconst 0, 1) := by decide +kernel
theorem smd_M_attempt_137 : decode prog_7_method_37_code 137 = .ok (.putfield 63, 3) := by decide +kernel
theorem smd_M_attempt_140 : decode prog_7_method_37_code 140 = .ok (.aload_n 0, 1) := by decide +kernel
theorem smd_M_attempt_141 : decode prog_7_method_37_code 141 = .ok (.dup, 1) := by decide +kernel
theorem smd_M_attempt_142 : decode prog_7_method_37_code 142 = .ok (.getfield 139, 3) := by decide +kernel
theorem smd_M_attempt_145 : decode prog_7_method_37_code 145 = .ok (.iconst 1, 1) := by decide +kernel
theorem smd_M_attempt_146 : decode prog_7_method_37_code 146 = .ok (.iadd, 1) := by decide +kernel
theorem smd_M_attempt_147 : decode prog_7_method_37_code 147 = .ok (.putfield 139, 3) := by decide +kernel
theorem smd_M_attempt_150 : decode prog_7_method_37_code 150 = .ok (.iconst 1, 1) := by decide +kernel
theorem smd_M_attempt_151 : decode prog_7_method_37_code 151 = .ok (.ireturn, 1) := by decide +kernel
theorem smd_M_version_0 : decode prog_7_method_38_code 0 = .ok (.aload_n 0, 1) := by decide +kernel
theorem smd_M_version_1 : decode prog_7_method_38_code 1 = .ok (.getfield 139, 3) := by decide +kernel
theorem smd_M_version_4 : decode prog_7_method_38_code 4 = .ok (.ireturn, 1) := by decide +kernel
theorem smd_M_isTask_0 : decode prog_7_method_39_code 0 = .ok (.iload_n 1, 1) := by decide +kernel
theorem smd_M_isTask_1 : decode prog_7_method_39_code 1 = .ok (.iconst 1, 1) := by decide +kernel
theorem smd_M_isTask_2 : decode prog_7_method_39_code 2 = .ok (.if_icmp .lt 15, 3) := by decide +kernel
theorem smd_M_isTask_5 : decode prog_7_method_39_code 5 = .ok (.iload_n 1, 1) := by decide +kernel
theorem smd_M_isTask_6 : decode prog_7_method_39_code 6 = .ok (.aload_n 0, 1) := by decide +kernel
theorem smd_M_isTask_7 : decode prog_7_method_39_code 7 = .ok (.getfield 103, 3) := by decide +kernel
theorem smd_M_isTask_10 : decode prog_7_method_39_code 10 = .ok (.if_icmp .gt 7, 3) := by decide +kernel
theorem smd_M_isTask_13 : decode prog_7_method_39_code 13 = .ok (.iconst 1, 1) := by decide +kernel
theorem smd_M_isTask_14 : decode prog_7_method_39_code 14 = .ok (.goto 4, 3) := by decide +kernel
theorem smd_M_isTask_17 : decode prog_7_method_39_code 17 = .ok (.iconst 0, 1) := by decide +kernel
theorem smd_M_isTask_18 : decode prog_7_method_39_code 18 = .ok (.ireturn, 1) := by decide +kernel
theorem smd_M_push_0 : decode prog_7_method_40_code 0 = .ok (.iload_n 1, 1) := by decide +kernel
theorem smd_M_push_1 : decode prog_7_method_40_code 1 = .ok (.aload_n 0, 1) := by decide +kernel
theorem smd_M_push_2 : decode prog_7_method_40_code 2 = .ok (.getfield 47, 3) := by decide +kernel
theorem smd_M_push_5 : decode prog_7_method_40_code 5 = .ok (.iload_n 1, 1) := by decide +kernel
theorem smd_M_push_6 : decode prog_7_method_40_code 6 = .ok (.iaload, 1) := by decide +kernel
theorem smd_M_push_7 : decode prog_7_method_40_code 7 = .ok (.invokestatic 96, 3) := by decide +kernel
theorem smd_M_push_10 : decode prog_7_method_40_code 10 = .ok (.istore 5, 2) := by decide +kernel
theorem smd_M_push_12 : decode prog_7_method_40_code 12 = .ok (.aload_n 0, 1) := by decide +kernel
theorem smd_M_push_13 : decode prog_7_method_40_code 13 = .ok (.getfield 50, 3) := by decide +kernel
theorem smd_M_push_16 : decode prog_7_method_40_code 16 = .ok (.iload 5, 2) := by decide +kernel
theorem smd_M_push_18 : decode prog_7_method_40_code 18 = .ok (.iload_n 2, 1) := by decide +kernel
theorem smd_M_push_19 : decode prog_7_method_40_code 19 = .ok (.iastore, 1) := by decide +kernel
theorem smd_M_push_20 : decode prog_7_method_40_code 20 = .ok (.aload_n 0, 1) := by decide +kernel
theorem smd_M_push_21 : decode prog_7_method_40_code 21 = .ok (.getfield 50, 3) := by decide +kernel
theorem smd_M_push_24 : decode prog_7_method_40_code 24 = .ok (.iload 5, 2) := by decide +kernel
theorem smd_M_push_26 : decode prog_7_method_40_code 26 = .ok (.iconst 1, 1) := by decide +kernel
theorem smd_M_push_27 : decode prog_7_method_40_code 27 = .ok (.iadd, 1) := by decide +kernel
theorem smd_M_push_28 : decode prog_7_method_40_code 28 = .ok (.iconst 0, 1) := by decide +kernel
theorem smd_M_push_29 : decode prog_7_method_40_code 29 = .ok (.iastore, 1) := by decide +kernel
theorem smd_M_push_30 : decode prog_7_method_40_code 30 = .ok (.aload_n 0, 1) := by decide +kernel
theorem smd_M_push_31 : decode prog_7_method_40_code 31 = .ok (.getfield 50, 3) := by decide +kernel
theorem smd_M_push_34 : decode prog_7_method_40_code 34 = .ok (.iload 5, 2) := by decide +kernel
theorem smd_M_push_36 : decode prog_7_method_40_code 36 = .ok (.iconst 2, 1) := by decide +kernel
theorem smd_M_push_37 : decode prog_7_method_40_code 37 = .ok (.iadd, 1) := by decide +kernel
theorem smd_M_push_38 : decode prog_7_method_40_code 38 = .ok (.iload_n 3, 1) := by decide +kernel
theorem smd_M_push_39 : decode prog_7_method_40_code 39 = .ok (.iastore, 1) := by decide +kernel
theorem smd_M_push_40 : decode prog_7_method_40_code 40 = .ok (.aload_n 0, 1) := by decide +kernel
theorem smd_M_push_41 : decode prog_7_method_40_code 41 = .ok (.getfield 50, 3) := by decide +kernel
theorem smd_M_push_44 : decode prog_7_method_40_code 44 = .ok (.iload 5, 2) := by decide +kernel
theorem smd_M_push_46 : decode prog_7_method_40_code 46 = .ok (.iconst 3, 1) := by decide +kernel
theorem smd_M_push_47 : decode prog_7_method_40_code 47 = .ok (.iadd, 1) := by decide +kernel
theorem smd_M_push_48 : decode prog_7_method_40_code 48 = .ok (.iconst 0, 1) := by decide +kernel
theorem smd_M_push_49 : decode prog_7_method_40_code 49 = .ok (.iastore, 1) := by decide +kernel
theorem smd_M_push_50 : decode prog_7_method_40_code 50 = .ok (.aload_n 0, 1) := by decide +kernel
theorem smd_M_push_51 : decode prog_7_method_40_code 51 = .ok (.getfield 50, 3) := by decide +kernel
theorem smd_M_push_54 : decode prog_7_method_40_code 54 = .ok (.iload 5, 2) := by decide +kernel
theorem smd_M_push_56 : decode prog_7_method_40_code 56 = .ok (.iconst 4, 1) := by decide +kernel
theorem smd_M_push_57 : decode prog_7_method_40_code 57 = .ok (.iadd, 1) := by decide +kernel
theorem smd_M_push_58 : decode prog_7_method_40_code 58 = .ok (.iconst 0, 1) := by decide +kernel
theorem smd_M_push_59 : decode prog_7_method_40_code 59 = .ok (.iastore, 1) := by decide +kernel
theorem smd_M_push_60 : decode prog_7_method_40_code 60 = .ok (.aload_n 0, 1) := by decide +kernel
theorem smd_M_push_61 : decode prog_7_method_40_code 61 = .ok (.getfield 50, 3) := by decide +kernel
theorem smd_M_push_64 : decode prog_7_method_40_code 64 = .ok (.iload 5, 2) := by decide +kernel
theorem smd_M_push_66 : decode prog_7_method_40_code 66 = .ok (.iconst 5, 1) := by decide +kernel
theorem smd_M_push_67 : decode prog_7_method_40_code 67 = .ok (.iadd, 1) := by decide +kernel
theorem smd_M_push_68 : decode prog_7_method_40_code 68 = .ok (.iload 4, 2) := by decide +kernel
theorem smd_M_push_70 : decode prog_7_method_40_code 70 = .ok (.iastore, 1) := by decide +kernel
theorem smd_M_push_71 : decode prog_7_method_40_code 71 = .ok (.aload_n 0, 1) := by decide +kernel
theorem smd_M_push_72 : decode prog_7_method_40_code 72 = .ok (.getfield 47, 3) := by decide +kernel
theorem smd_M_push_75 : decode prog_7_method_40_code 75 = .ok (.iload_n 1, 1) := by decide +kernel
theorem smd_M_push_76 : decode prog_7_method_40_code 76 = .ok (.dup2, 1) := by decide +kernel
theorem smd_M_push_77 : decode prog_7_method_40_code 77 = .ok (.iaload, 1) := by decide +kernel
theorem smd_M_push_78 : decode prog_7_method_40_code 78 = .ok (.iconst 1, 1) := by decide +kernel
theorem smd_M_push_79 : decode prog_7_method_40_code 79 = .ok (.iadd, 1) := by decide +kernel
theorem smd_M_push_80 : decode prog_7_method_40_code 80 = .ok (.iastore, 1) := by decide +kernel
theorem smd_M_push_81 : decode prog_7_method_40_code 81 = .ok (.return_, 1) := by decide +kernel
theorem smd_M_spawn_0 : decode prog_7_method_41_code 0 = .ok (.iload_n 1, 1) := by decide +kernel
theorem smd_M_spawn_1 : decode prog_7_method_41_code 1 = .ok (.invokestatic 59, 3) := by decide +kernel
theorem smd_M_spawn_4 : decode prog_7_method_41_code 4 = .ok (.ifCond .eq 12, 3) := by decide +kernel
theorem smd_M_spawn_7 : decode prog_7_method_41_code 7 = .ok (.aload_n 0, 1) := by decide +kernel
theorem smd_M_spawn_8 : decode prog_7_method_41_code 8 = .ok (.getfield 13, 3) := by decide +kernel
theorem smd_M_spawn_11 : decode prog_7_method_41_code 11 = .ok (.iload_n 1, 1) := by decide +kernel
theorem smd_M_spawn_12 : decode prog_7_method_41_code 12 = .ok (.iaload, 1) := by decide +kernel
theorem smd_M_spawn_13 : decode prog_7_method_41_code 13 = .ok (.ifCond .ne 5, 3) := by decide +kernel
theorem smd_M_spawn_16 : decode prog_7_method_41_code 16 = .ok (.iconst (-1), 1) := by decide +kernel
theorem smd_M_spawn_17 : decode prog_7_method_41_code 17 = .ok (.ireturn, 1) := by decide +kernel
theorem smd_M_spawn_18 : decode prog_7_method_41_code 18 = .ok (.aload_n 0, 1) := by decide +kernel
theorem smd_M_spawn_19 : decode prog_7_method_41_code 19 = .ok (.getfield 103, 3) := by decide +kernel
theorem smd_M_spawn_22 : decode prog_7_method_41_code 22 = .ok (.bipush 6, 2) := by decide +kernel
theorem smd_M_spawn_24 : decode prog_7_method_41_code 24 = .ok (.if_icmp .ne 6, 3) := by decide +kernel
theorem smd_M_spawn_27 : decode prog_7_method_41_code 27 = .ok (.bipush (-3), 2) := by decide +kernel
theorem smd_M_spawn_29 : decode prog_7_method_41_code 29 = .ok (.ireturn, 1) := by decide +kernel
theorem smd_M_spawn_30 : decode prog_7_method_41_code 30 = .ok (.aload_n 0, 1) := by decide +kernel
theorem smd_M_spawn_31 : decode prog_7_method_41_code 31 = .ok (.dup, 1) := by decide +kernel
theorem smd_M_spawn_32 : decode prog_7_method_41_code 32 = .ok (.getfield 103, 3) := by decide +kernel
theorem smd_M_spawn_35 : decode prog_7_method_41_code 35 = .ok (.iconst 1, 1) := by decide +kernel
theorem smd_M_spawn_36 : decode prog_7_method_41_code 36 = .ok (.iadd, 1) := by decide +kernel
theorem smd_M_spawn_37 : decode prog_7_method_41_code 37 = .ok (.putfield 103, 3) := by decide +kernel
theorem smd_M_spawn_40 : decode prog_7_method_41_code 40 = .ok (.aload_n 0, 1) := by decide +kernel
theorem smd_M_spawn_41 : decode prog_7_method_41_code 41 = .ok (.aload_n 0, 1) := by decide +kernel
theorem smd_M_spawn_42 : decode prog_7_method_41_code 42 = .ok (.getfield 103, 3) := by decide +kernel
theorem smd_M_spawn_45 : decode prog_7_method_41_code 45 = .ok (.iload_n 1, 1) := by decide +kernel
theorem smd_M_spawn_46 : decode prog_7_method_41_code 46 = .ok (.iload_n 2, 1) := by decide +kernel
theorem smd_M_spawn_47 : decode prog_7_method_41_code 47 = .ok (.iconst 0, 1) := by decide +kernel
theorem smd_M_spawn_48 : decode prog_7_method_41_code 48 = .ok (.invokevirtual 142, 3) := by decide +kernel
theorem smd_M_spawn_51 : decode prog_7_method_41_code 51 = .ok (.aload_n 0, 1) := by decide +kernel
theorem smd_M_spawn_52 : decode prog_7_method_41_code 52 = .ok (.getfield 103, 3) := by decide +kernel
theorem smd_M_spawn_55 : decode prog_7_method_41_code 55 = .ok (.ireturn, 1) := by decide +kernel
theorem smd_M_fault_0 : decode prog_7_method_42_code 0 = .ok (.aload_n 0, 1) := by decide +kernel
theorem smd_M_fault_1 : decode prog_7_method_42_code 1 = .ok (.getfield 47, 3) := by decide +kernel
theorem smd_M_fault_4 : decode prog_7_method_42_code 4 = .ok (.iload_n 1, 1) := by decide +kernel
theorem smd_M_fault_5 : decode prog_7_method_42_code 5 = .ok (.iconst 0, 1) := by decide +kernel
theorem smd_M_fault_6 : decode prog_7_method_42_code 6 = .ok (.iastore, 1) := by decide +kernel
theorem smd_M_fault_7 : decode prog_7_method_42_code 7 = .ok (.iconst 3, 1) := by decide +kernel
theorem smd_M_fault_8 : decode prog_7_method_42_code 8 = .ok (.ireturn, 1) := by decide +kernel
theorem smd_M_giveBack_0 : decode prog_7_method_43_code 0 = .ok (.aload_n 0, 1) := by decide +kernel
theorem smd_M_giveBack_1 : decode prog_7_method_43_code 1 = .ok (.getfield 47, 3) := by decide +kernel
theorem smd_M_giveBack_4 : decode prog_7_method_43_code 4 = .ok (.iload_n 1, 1) := by decide +kernel
theorem smd_M_giveBack_5 : decode prog_7_method_43_code 5 = .ok (.dup2, 1) := by decide +kernel
theorem smd_M_giveBack_6 : decode prog_7_method_43_code 6 = .ok (.iaload, 1) := by decide +kernel
theorem smd_M_giveBack_7 : decode prog_7_method_43_code 7 = .ok (.iconst 1, 1) := by decide +kernel
theorem smd_M_giveBack_8 : decode prog_7_method_43_code 8 = .ok (.isub, 1) := by decide +kernel
theorem smd_M_giveBack_9 : decode prog_7_method_43_code 9 = .ok (.iastore, 1) := by decide +kernel
theorem smd_M_giveBack_10 : decode prog_7_method_43_code 10 = .ok (.aload_n 0, 1) := by decide +kernel
theorem smd_M_giveBack_11 : decode prog_7_method_43_code 11 = .ok (.getfield 47, 3) := by decide +kernel
theorem smd_M_giveBack_14 : decode prog_7_method_43_code 14 = .ok (.iload_n 1, 1) := by decide +kernel
theorem smd_M_giveBack_15 : decode prog_7_method_43_code 15 = .ok (.iaload, 1) := by decide +kernel
theorem smd_M_giveBack_16 : decode prog_7_method_43_code 16 = .ok (.ifCond .ne 12, 3) := by decide +kernel
theorem smd_M_giveBack_19 : decode prog_7_method_43_code 19 = .ok (.aload_n 0, 1) := by decide +kernel
theorem smd_M_giveBack_20 : decode prog_7_method_43_code 20 = .ok (.getfield 44, 3) := by decide +kernel
theorem smd_M_giveBack_23 : decode prog_7_method_43_code 23 = .ok (.iload_n 1, 1) := by decide +kernel
theorem smd_M_giveBack_24 : decode prog_7_method_43_code 24 = .ok (.iload_n 2, 1) := by decide +kernel
theorem smd_M_giveBack_25 : decode prog_7_method_43_code 25 = .ok (.iastore, 1) := by decide +kernel
theorem smd_M_giveBack_26 : decode prog_7_method_43_code 26 = .ok (.iconst 2, 1) := by decide +kernel
theorem smd_M_giveBack_27 : decode prog_7_method_43_code 27 = .ok (.ireturn, 1) := by decide +kernel
theorem smd_M_giveBack_28 : decode prog_7_method_43_code 28 = .ok (.aload_n 0, 1) := by decide +kernel
theorem smd_M_giveBack_29 : decode prog_7_method_43_code 29 = .ok (.getfield 50, 3) := by decide +kernel
theorem smd_M_giveBack_32 : decode prog_7_method_43_code 32 = .ok (.iload_n 1, 1) := by decide +kernel
theorem smd_M_giveBack_33 : decode prog_7_method_43_code 33 = .ok (.aload_n 0, 1) := by decide +kernel
theorem smd_M_giveBack_34 : decode prog_7_method_43_code 34 = .ok (.getfield 47, 3) := by decide +kernel
theorem smd_M_giveBack_37 : decode prog_7_method_43_code 37 = .ok (.iload_n 1, 1) := by decide +kernel
theorem smd_M_giveBack_38 : decode prog_7_method_43_code 38 = .ok (.iaload, 1) := by decide +kernel
theorem smd_M_giveBack_39 : decode prog_7_method_43_code 39 = .ok (.invokestatic 96, 3) := by decide +kernel
theorem smd_M_giveBack_42 : decode prog_7_method_43_code 42 = .ok (.iconst 5, 1) := by decide +kernel
theorem smd_M_giveBack_43 : decode prog_7_method_43_code 43 = .ok (.iadd, 1) := by decide +kernel
theorem smd_M_giveBack_44 : decode prog_7_method_43_code 44 = .ok (.iaload, 1) := by decide +kernel
theorem smd_M_giveBack_45 : decode prog_7_method_43_code 45 = .ok (.istore_n 3, 1) := by decide +kernel
theorem smd_M_giveBack_46 : decode prog_7_method_43_code 46 = .ok (.aload_n 0, 1) := by decide +kernel
theorem smd_M_giveBack_47 : decode prog_7_method_43_code 47 = .ok (.getfield 50, 3) := by decide +kernel
theorem smd_M_giveBack_50 : decode prog_7_method_43_code 50 = .ok (.iload_n 1, 1) := by decide +kernel
theorem smd_M_giveBack_51 : decode prog_7_method_43_code 51 = .ok (.aload_n 0, 1) := by decide +kernel
theorem smd_M_giveBack_52 : decode prog_7_method_43_code 52 = .ok (.getfield 47, 3) := by decide +kernel
theorem smd_M_giveBack_55 : decode prog_7_method_43_code 55 = .ok (.iload_n 1, 1) := by decide +kernel
theorem smd_M_giveBack_56 : decode prog_7_method_43_code 56 = .ok (.iaload, 1) := by decide +kernel
theorem smd_M_giveBack_57 : decode prog_7_method_43_code 57 = .ok (.iconst 1, 1) := by decide +kernel
theorem smd_M_giveBack_58 : decode prog_7_method_43_code 58 = .ok (.isub, 1) := by decide +kernel
theorem smd_M_giveBack_59 : decode prog_7_method_43_code 59 = .ok (.invokestatic 96, 3) := by decide +kernel
theorem smd_M_giveBack_62 : decode prog_7_method_43_code 62 = .ok (.iconst 2, 1) := by decide +kernel
theorem smd_M_giveBack_63 : decode prog_7_method_43_code 63 = .ok (.iadd, 1) := by decide +kernel
theorem smd_M_giveBack_64 : decode prog_7_method_43_code 64 = .ok (.iload_n 3, 1) := by decide +kernel
theorem smd_M_giveBack_65 : decode prog_7_method_43_code 65 = .ok (.iadd, 1) := by decide +kernel
theorem smd_M_giveBack_66 : decode prog_7_method_43_code 66 = .ok (.iload_n 2, 1) := by decide +kernel
theorem smd_M_giveBack_67 : decode prog_7_method_43_code 67 = .ok (.iastore, 1) := by decide +kernel
theorem smd_M_giveBack_68 : decode prog_7_method_43_code 68 = .ok (.iconst 0, 1) := by decide +kernel
theorem smd_M_giveBack_69 : decode prog_7_method_43_code 69 = .ok (.ireturn, 1) := by decide +kernel
theorem smd_M_take_0 : decode prog_7_method_44_code 0 = .ok (.aload_n 0, 1) := by decide +kernel
theorem smd_M_take_1 : decode prog_7_method_44_code 1 = .ok (.getfield 56, 3) := by decide +kernel
theorem smd_M_take_4 : decode prog_7_method_44_code 4 = .ok (.bipush 8, 2) := by decide +kernel
theorem smd_M_take_6 : decode prog_7_method_44_code 6 = .ok (.iload_n 1, 1) := by decide +kernel
theorem smd_M_take_7 : decode prog_7_method_44_code 7 = .ok (.imul, 1) := by decide +kernel
theorem smd_M_take_8 : decode prog_7_method_44_code 8 = .ok (.iaload, 1) := by decide +kernel
theorem smd_M_take_9 : decode prog_7_method_44_code 9 = .ok (.istore_n 2, 1) := by decide +kernel
theorem smd_M_take_10 : decode prog_7_method_44_code 10 = .ok (.aload_n 0, 1) := by decide +kernel
theorem smd_M_take_11 : decode prog_7_method_44_code 11 = .ok (.getfield 53, 3) := by decide +kernel
theorem smd_M_take_14 : decode prog_7_method_44_code 14 = .ok (.iload_n 1, 1) := by decide +kernel
theorem smd_M_take_15 : decode prog_7_method_44_code 15 = .ok (.dup2, 1) := by decide +kernel
theorem smd_M_take_16 : decode prog_7_method_44_code 16 = .ok (.iaload, 1) := by decide +kernel
theorem smd_M_take_17 : decode prog_7_method_44_code 17 = .ok (.iconst 1, 1) := by decide +kernel
theorem smd_M_take_18 : decode prog_7_method_44_code 18 = .ok (.isub, 1) := by decide +kernel
theorem smd_M_take_19 : decode prog_7_method_44_code 19 = .ok (.iastore, 1) := by decide +kernel
theorem smd_M_take_20 : decode prog_7_method_44_code 20 = .ok (.iconst 0, 1) := by decide +kernel
theorem smd_M_take_21 : decode prog_7_method_44_code 21 = .ok (.istore_n 3, 1) := by decide +kernel
theorem smd_M_take_22 : decode prog_7_method_44_code 22 = .ok (.iload_n 3, 1) := by decide +kernel
theorem smd_M_take_23 : decode prog_7_method_44_code 23 = .ok (.aload_n 0, 1) := by decide +kernel
theorem smd_M_take_24 : decode prog_7_method_44_code 24 = .ok (.getfield 53, 3) := by decide +kernel
theorem smd_M_take_27 : decode prog_7_method_44_code 27 = .ok (.iload_n 1, 1) := by decide +kernel
theorem smd_M_take_28 : decode prog_7_method_44_code 28 = .ok (.iaload, 1) := by decide +kernel
theorem smd_M_take_29 : decode prog_7_method_44_code 29 = .ok (.if_icmp .ge 33, 3) := by decide +kernel
theorem smd_M_take_32 : decode prog_7_method_44_code 32 = .ok (.aload_n 0, 1) := by decide +kernel
theorem smd_M_take_33 : decode prog_7_method_44_code 33 = .ok (.getfield 56, 3) := by decide +kernel
theorem smd_M_take_36 : decode prog_7_method_44_code 36 = .ok (.bipush 8, 2) := by decide +kernel
theorem smd_M_take_38 : decode prog_7_method_44_code 38 = .ok (.iload_n 1, 1) := by decide +kernel
theorem smd_M_take_39 : decode prog_7_method_44_code 39 = .ok (.imul, 1) := by decide +kernel
theorem smd_M_take_40 : decode prog_7_method_44_code 40 = .ok (.iload_n 3, 1) := by decide +kernel
theorem smd_M_take_41 : decode prog_7_method_44_code 41 = .ok (.iadd, 1) := by decide +kernel
theorem smd_M_take_42 : decode prog_7_method_44_code 42 = .ok (.aload_n 0, 1) := by decide +kernel
theorem smd_M_take_43 : decode prog_7_method_44_code 43 = .ok (.getfield 56, 3) := by decide +kernel
theorem smd_M_take_46 : decode prog_7_method_44_code 46 = .ok (.bipush 8, 2) := by decide +kernel
theorem smd_M_take_48 : decode prog_7_method_44_code 48 = .ok (.iload_n 1, 1) := by decide +kernel
theorem smd_M_take_49 : decode prog_7_method_44_code 49 = .ok (.imul, 1) := by decide +kernel
theorem smd_M_take_50 : decode prog_7_method_44_code 50 = .ok (.iload_n 3, 1) := by decide +kernel
theorem smd_M_take_51 : decode prog_7_method_44_code 51 = .ok (.iadd, 1) := by decide +kernel
theorem smd_M_take_52 : decode prog_7_method_44_code 52 = .ok (.iconst 1, 1) := by decide +kernel
theorem smd_M_take_53 : decode prog_7_method_44_code 53 = .ok (.iadd, 1) := by decide +kernel
theorem smd_M_take_54 : decode prog_7_method_44_code 54 = .ok (.iaload, 1) := by decide +kernel
theorem smd_M_take_55 : decode prog_7_method_44_code 55 = .ok (.iastore, 1) := by decide +kernel
theorem smd_M_take_56 : decode prog_7_method_44_code 56 = .ok (.iinc 3 1, 3) := by decide +kernel
theorem smd_M_take_59 : decode prog_7_method_44_code 59 = .ok (.goto (-37), 3) := by decide +kernel
theorem smd_M_take_62 : decode prog_7_method_44_code 62 = .ok (.iload_n 2, 1) := by decide +kernel
theorem smd_M_take_63 : decode prog_7_method_44_code 63 = .ok (.ireturn, 1) := by decide +kernel
theorem smd_M_act_0 : decode prog_7_method_45_code 0 = .ok (.iload_n 1, 1) := by decide +kernel
theorem smd_M_act_1 : decode prog_7_method_45_code 1 = .ok (.aload_n 0, 1) := by decide +kernel
theorem smd_M_act_2 : decode prog_7_method_45_code 2 = .ok (.getfield 47, 3) := by decide +kernel
theorem smd_M_act_5 : decode prog_7_method_45_code 5 = .ok (.iload_n 1, 1) := by decide +kernel
theorem smd_M_act_6 : decode prog_7_method_45_code 6 = .ok (.iaload, 1) := by decide +kernel
theorem smd_M_act_7 : decode prog_7_method_45_code 7 = .ok (.iconst 1, 1) := by decide +kernel
theorem smd_M_act_8 : decode prog_7_method_45_code 8 = .ok (.isub, 1) := by decide +kernel
theorem smd_M_act_9 : decode prog_7_method_45_code 9 = .ok (.invokestatic 96, 3) := by decide +kernel
theorem smd_M_act_12 : decode prog_7_method_45_code 12 = .ok (.istore_n 2, 1) := by decide +kernel
theorem smd_M_act_13 : decode prog_7_method_45_code 13 = .ok (.bipush 48, 2) := by decide +kernel
theorem smd_M_act_15 : decode prog_7_method_45_code 15 = .ok (.aload_n 0, 1) := by decide +kernel
theorem smd_M_act_16 : decode prog_7_method_45_code 16 = .ok (.getfield 50, 3) := by decide +kernel
theorem smd_M_act_19 : decode prog_7_method_45_code 19 = .ok (.iload_n 2, 1) := by decide +kernel
theorem smd_M_act_20 : decode prog_7_method_45_code 20 = .ok (.iaload, 1) := by decide +kernel
theorem smd_M_act_21 : decode prog_7_method_45_code 21 = .ok (.imul, 1) := by decide +kernel
theorem smd_M_act_22 : decode prog_7_method_45_code 22 = .ok (.iconst 4, 1) := by decide +kernel
theorem smd_M_act_23 : decode prog_7_method_45_code 23 = .ok (.aload_n 0, 1) := by decide +kernel
theorem smd_M_act_24 : decode prog_7_method_45_code 24 = .ok (.getfield 50, 3) := by decide +kernel
theorem smd_M_act_27 : decode prog_7_method_45_code 27 = .ok (.iload_n 2, 1) := by decide +kernel
theorem smd_M_act_28 : decode prog_7_method_45_code 28 = .ok (.iconst 1, 1) := by decide +kernel
theorem smd_M_act_29 : decode prog_7_method_45_code 29 = .ok (.iadd, 1) := by decide +kernel
theorem smd_M_act_30 : decode prog_7_method_45_code 30 = .ok (.iaload, 1) := by decide +kernel
theorem smd_M_act_31 : decode prog_7_method_45_code 31 = .ok (.imul, 1) := by decide +kernel
theorem smd_M_act_32 : decode prog_7_method_45_code 32 = .ok (.iadd, 1) := by decide +kernel
theorem smd_M_act_33 : decode prog_7_method_45_code 33 = .ok (.istore_n 3, 1) := by decide +kernel
theorem smd_M_act_34 : decode prog_7_method_45_code 34 = .ok (.aload_n 0, 1) := by decide +kernel
theorem smd_M_act_35 : decode prog_7_method_45_code 35 = .ok (.getfield 7, 3) := by decide +kernel
theorem smd_M_act_38 : decode prog_7_method_45_code 38 = .ok (.iload_n 3, 1) := by decide +kernel
theorem smd_M_act_39 : decode prog_7_method_45_code 39 = .ok (.iaload, 1) := by decide +kernel
theorem smd_M_act_40 : decode prog_7_method_45_code 40 = .ok (.istore 4, 2) := by decide +kernel
theorem smd_M_act_42 : decode prog_7_method_45_code 42 = .ok (.aload_n 0, 1) := by decide +kernel
theorem smd_M_act_43 : decode prog_7_method_45_code 43 = .ok (.getfield 7, 3) := by decide +kernel
theorem smd_M_act_46 : decode prog_7_method_45_code 46 = .ok (.iload_n 3, 1) := by decide +kernel
theorem smd_M_act_47 : decode prog_7_method_45_code 47 = .ok (.iconst 1, 1) := by decide +kernel
theorem smd_M_act_48 : decode prog_7_method_45_code 48 = .ok (.iadd, 1) := by decide +kernel
theorem smd_M_act_49 : decode prog_7_method_45_code 49 = .ok (.iaload, 1) := by decide +kernel
theorem smd_M_act_50 : decode prog_7_method_45_code 50 = .ok (.istore 5, 2) := by decide +kernel
theorem smd_M_act_52 : decode prog_7_method_45_code 52 = .ok (.aload_n 0, 1) := by decide +kernel
theorem smd_M_act_53 : decode prog_7_method_45_code 53 = .ok (.getfield 7, 3) := by decide +kernel
theorem smd_M_act_56 : decode prog_7_method_45_code 56 = .ok (.iload_n 3, 1) := by decide +kernel
theorem smd_M_act_57 : decode prog_7_method_45_code 57 = .ok (.iconst 2, 1) := by decide +kernel
theorem smd_M_act_58 : decode prog_7_method_45_code 58 = .ok (.iadd, 1) := by decide +kernel
theorem smd_M_act_59 : decode prog_7_method_45_code 59 = .ok (.iaload, 1) := by decide +kernel
theorem smd_M_act_60 : decode prog_7_method_45_code 60 = .ok (.istore 6, 2) := by decide +kernel
theorem smd_M_act_62 : decode prog_7_method_45_code 62 = .ok (.aload_n 0, 1) := by decide +kernel
theorem smd_M_act_63 : decode prog_7_method_45_code 63 = .ok (.getfield 7, 3) := by decide +kernel
theorem smd_M_act_66 : decode prog_7_method_45_code 66 = .ok (.iload_n 3, 1) := by decide +kernel
theorem smd_M_act_67 : decode prog_7_method_45_code 67 = .ok (.iconst 3, 1) := by decide +kernel
theorem smd_M_act_68 : decode prog_7_method_45_code 68 = .ok (.iadd, 1) := by decide +kernel
theorem smd_M_act_69 : decode prog_7_method_45_code 69 = .ok (.iaload, 1) := by decide +kernel
theorem smd_M_act_70 : decode prog_7_method_45_code 70 = .ok (.istore 7, 2) := by decide +kernel
theorem smd_M_act_72 : decode prog_7_method_45_code 72 = .ok (.iload_n 2, 1) := by decide +kernel
theorem smd_M_act_73 : decode prog_7_method_45_code 73 = .ok (.iconst 2, 1) := by decide +kernel
theorem smd_M_act_74 : decode prog_7_method_45_code 74 = .ok (.iadd, 1) := by decide +kernel
theorem smd_M_act_75 : decode prog_7_method_45_code 75 = .ok (.istore 8, 2) := by decide +kernel
theorem smd_M_act_77 : decode prog_7_method_45_code 77 = .ok (.iload 4, 2) := by decide +kernel
theorem smd_M_act_79 : decode prog_7_method_45_code 79 = .ok (.bipush 11, 2) := by decide +kernel
theorem smd_M_act_81 : decode prog_7_method_45_code 81 = .ok (.if_icmp .ne 14, 3) := by decide +kernel
theorem smd_M_act_84 : decode prog_7_method_45_code 84 = .ok (.aload_n 0, 1) := by decide +kernel
theorem smd_M_act_85 : decode prog_7_method_45_code 85 = .ok (.getfield 53, 3) := by decide +kernel
theorem smd_M_act_88 : decode prog_7_method_45_code 88 = .ok (.iload_n 1, 1) := by decide +kernel
theorem smd_M_act_89 : decode prog_7_method_45_code 89 = .ok (.iaload, 1) := by decide +kernel
theorem smd_M_act_90 : decode prog_7_method_45_code 90 = .ok (.ifCond .ne 5, 3) := by decide +kernel
theorem smd_M_act_93 : decode prog_7_method_45_code 93 = .ok (.iconst 1, 1) := by decide +kernel
theorem smd_M_act_94 : decode prog_7_method_45_code 94 = .ok (.ireturn, 1) := by decide +kernel
theorem smd_M_act_95 : decode prog_7_method_45_code 95 = .ok (.aload_n 0, 1) := by decide +kernel
theorem smd_M_act_96 : decode prog_7_method_45_code 96 = .ok (.getfield 50, 3) := by decide +kernel
theorem smd_M_act_99 : decode prog_7_method_45_code 99 = .ok (.iload_n 2, 1) := by decide +kernel
theorem smd_M_act_100 : decode prog_7_method_45_code 100 = .ok (.iconst 1, 1) := by decide +kernel
theorem smd_M_act_101 : decode prog_7_method_45_code 101 = .ok (.iadd, 1) := by decide +kernel
theorem smd_M_act_102 : decode prog_7_method_45_code 102 = .ok (.dup2, 1) := by decide +kernel
theorem smd_M_act_103 : decode prog_7_method_45_code 103 = .ok (.iaload, 1) := by decide +kernel
theorem smd_M_act_104 : decode prog_7_method_45_code 104 = .ok (.iconst 1, 1) := by decide +kernel
theorem smd_M_act_105 : decode prog_7_method_45_code 105 = .ok (.iadd, 1) := by decide +kernel
theorem smd_M_act_106 : decode prog_7_method_45_code 106 = .ok (.iastore, 1) := by decide +kernel
theorem smd_M_act_107 : decode prog_7_method_45_code 107 = .ok (.iload 4, 2) := by decide +kernel
theorem smd_M_act_109 : decode prog_7_method_45_code 109 = .ok (.tableswitch 306 0 11 #[63, 79, 93, 126, 159, 184, 222, 235, 235, 251, 270, 289], 63) := by decide +kernel
theorem smd_M_act_172 : decode prog_7_method_45_code 172 = .ok (.aload_n 0, 1) := by decide +kernel
theorem smd_M_act_173 : decode prog_7_method_45_code 173 = .ok (.iload_n 1, 1) := by decide +kernel
theorem smd_M_act_174 : decode prog_7_method_45_code 174 = .ok (.aload_n 0, 1) := by decide +kernel
theorem smd_M_act_175 : decode prog_7_method_45_code 175 = .ok (.getfield 50, 3) := by decide +kernel
theorem smd_M_act_178 : decode prog_7_method_45_code 178 = .ok (.iload 8, 2) := by decide +kernel
theorem smd_M_act_180 : decode prog_7_method_45_code 180 = .ok (.iload 5, 2) := by decide +kernel
theorem smd_M_act_182 : decode prog_7_method_45_code 182 = .ok (.iadd, 1) := by decide +kernel
theorem smd_M_act_183 : decode prog_7_method_45_code 183 = .ok (.iaload, 1) := by decide +kernel
theorem smd_M_act_184 : decode prog_7_method_45_code 184 = .ok (.invokevirtual 146, 3) := by decide +kernel
theorem smd_M_act_187 : decode prog_7_method_45_code 187 = .ok (.ireturn, 1) := by decide +kernel
theorem smd_M_act_188 : decode prog_7_method_45_code 188 = .ok (.aload_n 0, 1) := by decide +kernel
theorem smd_M_act_189 : decode prog_7_method_45_code 189 = .ok (.getfield 50, 3) := by decide +kernel
theorem smd_M_act_192 : decode prog_7_method_45_code 192 = .ok (.iload 8, 2) := by decide +kernel
theorem smd_M_act_194 : decode prog_7_method_45_code 194 = .ok (.iload 5, 2) := by decide +kernel
theorem smd_M_act_196 : decode prog_7_method_45_code 196 = .ok (.iadd, 1) := by decide +kernel
theorem smd_M_act_197 : decode prog_7_method_45_code 197 = .ok (.iload 6, 2) := by decide +kernel
theorem smd_M_act_199 : decode prog_7_method_45_code 199 = .ok (.iastore, 1) := by decide +kernel
theorem smd_M_act_200 : decode prog_7_method_45_code 200 = .ok (.iconst 0, 1) := by decide +kernel
theorem smd_M_act_201 : decode prog_7_method_45_code 201 = .ok (.ireturn, 1) := by decide +kernel
theorem smd_M_act_202 : decode prog_7_method_45_code 202 = .ok (.aload_n 0, 1) := by decide +kernel
theorem smd_M_act_203 : decode prog_7_method_45_code 203 = .ok (.getfield 50, 3) := by decide +kernel
theorem smd_M_act_206 : decode prog_7_method_45_code 206 = .ok (.iload 8, 2) := by decide +kernel
theorem smd_M_act_208 : decode prog_7_method_45_code 208 = .ok (.iload 5, 2) := by decide +kernel
theorem smd_M_act_210 : decode prog_7_method_45_code 210 = .ok (.iadd, 1) := by decide +kernel
theorem smd_M_act_211 : decode prog_7_method_45_code 211 = .ok (.aload_n 0, 1) := by decide +kernel
theorem smd_M_act_212 : decode prog_7_method_45_code 212 = .ok (.getfield 50, 3) := by decide +kernel
theorem smd_M_act_215 : decode prog_7_method_45_code 215 = .ok (.iload 8, 2) := by decide +kernel
theorem smd_M_act_217 : decode prog_7_method_45_code 217 = .ok (.iload 6, 2) := by decide +kernel
theorem smd_M_act_219 : decode prog_7_method_45_code 219 = .ok (.iadd, 1) := by decide +kernel
theorem smd_M_act_220 : decode prog_7_method_45_code 220 = .ok (.iaload, 1) := by decide +kernel
theorem smd_M_act_221 : decode prog_7_method_45_code 221 = .ok (.aload_n 0, 1) := by decide +kernel
theorem smd_M_act_222 : decode prog_7_method_45_code 222 = .ok (.getfield 50, 3) := by decide +kernel
theorem smd_M_act_225 : decode prog_7_method_45_code 225 = .ok (.iload 8, 2) := by decide +kernel
theorem smd_M_act_227 : decode prog_7_method_45_code 227 = .ok (.iload 7, 2) := by decide +kernel
theorem smd_M_act_229 : decode prog_7_method_45_code 229 = .ok (.iadd, 1) := by decide +kernel
theorem smd_M_act_230 : decode prog_7_method_45_code 230 = .ok (.iaload, 1) := by decide +kernel
theorem smd_M_act_231 : decode prog_7_method_45_code 231 = .ok (.iadd, 1) := by decide +kernel
theorem smd_M_act_232 : decode prog_7_method_45_code 232 = .ok (.iastore, 1) := by decide +kernel
theorem smd_M_act_233 : decode prog_7_method_45_code 233 = .ok (.iconst 0, 1) := by decide +kernel
theorem smd_M_act_234 : decode prog_7_method_45_code 234 = .ok (.ireturn, 1) := by decide +kernel
theorem smd_M_act_235 : decode prog_7_method_45_code 235 = .ok (.aload_n 0, 1) := by decide +kernel
theorem smd_M_act_236 : decode prog_7_method_45_code 236 = .ok (.getfield 50, 3) := by decide +kernel
theorem smd_M_act_239 : decode prog_7_method_45_code 239 = .ok (.iload 8, 2) := by decide +kernel
theorem smd_M_act_241 : decode prog_7_method_45_code 241 = .ok (.iload 5, 2) := by decide +kernel
theorem smd_M_act_243 : decode prog_7_method_45_code 243 = .ok (.iadd, 1) := by decide +kernel
theorem smd_M_act_244 : decode prog_7_method_45_code 244 = .ok (.aload_n 0, 1) := by decide +kernel
theorem smd_M_act_245 : decode prog_7_method_45_code 245 = .ok (.getfield 50, 3) := by decide +kernel
theorem smd_M_act_248 : decode prog_7_method_45_code 248 = .ok (.iload 8, 2) := by decide +kernel
theorem smd_M_act_250 : decode prog_7_method_45_code 250 = .ok (.iload 6, 2) := by decide +kernel
theorem smd_M_act_252 : decode prog_7_method_45_code 252 = .ok (.iadd, 1) := by decide +kernel
theorem smd_M_act_253 : decode prog_7_method_45_code 253 = .ok (.iaload, 1) := by decide +kernel
theorem smd_M_act_254 : decode prog_7_method_45_code 254 = .ok (.aload_n 0, 1) := by decide +kernel
theorem smd_M_act_255 : decode prog_7_method_45_code 255 = .ok (.getfield 50, 3) := by decide +kernel
theorem smd_M_act_258 : decode prog_7_method_45_code 258 = .ok (.iload 8, 2) := by decide +kernel
theorem smd_M_act_260 : decode prog_7_method_45_code 260 = .ok (.iload 7, 2) := by decide +kernel
theorem smd_M_act_262 : decode prog_7_method_45_code 262 = .ok (.iadd, 1) := by decide +kernel
theorem smd_M_act_263 : decode prog_7_method_45_code 263 = .ok (.iaload, 1) := by decide +kernel
theorem smd_M_act_264 : decode prog_7_method_45_code 264 = .ok (.isub, 1) := by decide +kernel
theorem smd_M_act_265 : decode prog_7_method_45_code 265 = .ok (.iastore, 1) := by decide +kernel
theorem smd_M_act_266 : decode prog_7_method_45_code 266 = .ok (.iconst 0, 1) := by decide +kernel
theorem smd_M_act_267 : decode prog_7_method_45_code 267 = .ok (.ireturn, 1) := by decide +kernel
theorem smd_M_act_268 : decode prog_7_method_45_code 268 = .ok (.aload_n 0, 1) := by decide +kernel
theorem smd_M_act_269 : decode prog_7_method_45_code 269 = .ok (.getfield 50, 3) := by decide +kernel
theorem smd_M_act_272 : decode prog_7_method_45_code 272 = .ok (.iload 8, 2) := by decide +kernel
theorem smd_M_act_274 : decode prog_7_method_45_code 274 = .ok (.iload 5, 2) := by decide +kernel
theorem smd_M_act_276 : decode prog_7_method_45_code 276 = .ok (.iadd, 1) := by decide +kernel
theorem smd_M_act_277 : decode prog_7_method_45_code 277 = .ok (.iaload, 1) := by decide +kernel
theorem smd_M_act_278 : decode prog_7_method_45_code 278 = .ok (.ifCond .ne 13, 3) := by decide +kernel
theorem smd_M_act_281 : decode prog_7_method_45_code 281 = .ok (.aload_n 0, 1) := by decide +kernel
theorem smd_M_act_282 : decode prog_7_method_45_code 282 = .ok (.getfield 50, 3) := by decide +kernel
theorem smd_M_act_285 : decode prog_7_method_45_code 285 = .ok (.iload_n 2, 1) := by decide +kernel
theorem smd_M_act_286 : decode prog_7_method_45_code 286 = .ok (.iconst 1, 1) := by decide +kernel
theorem smd_M_act_287 : decode prog_7_method_45_code 287 = .ok (.iadd, 1) := by decide +kernel
theorem smd_M_act_288 : decode prog_7_method_45_code 288 = .ok (.iload 6, 2) := by decide +kernel
theorem smd_M_act_290 : decode prog_7_method_45_code 290 = .ok (.iastore, 1) := by decide +kernel
theorem smd_M_act_291 : decode prog_7_method_45_code 291 = .ok (.iconst 0, 1) := by decide +kernel
theorem smd_M_act_292 : decode prog_7_method_45_code 292 = .ok (.ireturn, 1) := by decide +kernel
theorem smd_M_act_293 : decode prog_7_method_45_code 293 = .ok (.aload_n 0, 1) := by decide +kernel
theorem smd_M_act_294 : decode prog_7_method_45_code 294 = .ok (.getfield 47, 3) := by decide +kernel
theorem smd_M_act_297 : decode prog_7_method_45_code 297 = .ok (.iload_n 1, 1) := by decide +kernel
theorem smd_M_act_298 : decode prog_7_method_45_code 298 = .ok (.iaload, 1) := by decide +kernel
theorem smd_M_act_299 : decode prog_7_method_45_code 299 = .ok (.bipush 6, 2) := by decide +kernel
theorem smd_M_act_301 : decode prog_7_method_45_code 301 = .ok (.if_icmp .ne 9, 3) := by decide +kernel
theorem smd_M_act_304 : decode prog_7_method_45_code 304 = .ok (.aload_n 0, 1) := by decide +kernel
theorem smd_M_act_305 : decode prog_7_method_45_code 305 = .ok (.iload_n 1, 1) := by decide +kernel
theorem smd_M_act_306 : decode prog_7_method_45_code 306 = .ok (.invokevirtual 149, 3) := by decide +kernel
theorem smd_M_act_309 : decode prog_7_method_45_code 309 = .ok (.ireturn, 1) := by decide +kernel
theorem smd_M_act_310 : decode prog_7_method_45_code 310 = .ok (.aload_n 0, 1) := by decide +kernel
theorem smd_M_act_311 : decode prog_7_method_45_code 311 = .ok (.iload_n 1, 1) := by decide +kernel
theorem smd_M_act_312 : decode prog_7_method_45_code 312 = .ok (.iload 6, 2) := by decide +kernel
theorem smd_M_act_314 : decode prog_7_method_45_code 314 = .ok (.aload_n 0, 1) := by decide +kernel
theorem smd_M_act_315 : decode prog_7_method_45_code 315 = .ok (.getfield 50, 3) := by decide +kernel
theorem smd_M_act_318 : decode prog_7_method_45_code 318 = .ok (.iload 8, 2) := by decide +kernel
theorem smd_M_act_320 : decode prog_7_method_45_code 320 = .ok (.iload 7, 2) := by decide +kernel
theorem smd_M_act_322 : decode prog_7_method_45_code 322 = .ok (.iadd, 1) := by decide +kernel
theorem smd_M_act_323 : decode prog_7_method_45_code 323 = .ok (.iaload, 1) := by decide +kernel
theorem smd_M_act_324 : decode prog_7_method_45_code 324 = .ok (.iload 5, 2) := by decide +kernel
theorem smd_M_act_326 : decode prog_7_method_45_code 326 = .ok (.invokevirtual 142, 3) := by decide +kernel
theorem smd_M_act_329 : decode prog_7_method_45_code 329 = .ok (.iconst 0, 1) := by decide +kernel
theorem smd_M_act_330 : decode prog_7_method_45_code 330 = .ok (.ireturn, 1) := by decide +kernel
theorem smd_M_act_331 : decode prog_7_method_45_code 331 = .ok (.aload_n 0, 1) := by decide +kernel
theorem smd_M_act_332 : decode prog_7_method_45_code 332 = .ok (.iload_n 1, 1) := by decide +kernel
theorem smd_M_act_333 : decode prog_7_method_45_code 333 = .ok (.iload 8, 2) := by decide +kernel
theorem smd_M_act_335 : decode prog_7_method_45_code 335 = .ok (.iload 5, 2) := by decide +kernel
theorem smd_M_act_337 : decode prog_7_method_45_code 337 = .ok (.iadd, 1) := by decide +kernel
theorem smd_M_act_338 : decode prog_7_method_45_code 338 = .ok (.iload 6, 2) := by decide +kernel
theorem smd_M_act_340 : decode prog_7_method_45_code 340 = .ok (.invokevirtual 152, 3) := by decide +kernel
theorem smd_M_act_343 : decode prog_7_method_45_code 343 = .ok (.ireturn, 1) := by decide +kernel
theorem smd_M_act_344 : decode prog_7_method_45_code 344 = .ok (.aload_n 0, 1) := by decide +kernel
theorem smd_M_act_345 : decode prog_7_method_45_code 345 = .ok (.iload_n 1, 1) := by decide +kernel
theorem smd_M_act_346 : decode prog_7_method_45_code 346 = .ok (.iload 4, 2) := by decide +kernel
theorem smd_M_act_348 : decode prog_7_method_45_code 348 = .ok (.iload 8, 2) := by decide +kernel
theorem smd_M_act_350 : decode prog_7_method_45_code 350 = .ok (.iload 5, 2) := by decide +kernel
theorem smd_M_act_352 : decode prog_7_method_45_code 352 = .ok (.iload 6, 2) := by decide +kernel
theorem smd_M_act_354 : decode prog_7_method_45_code 354 = .ok (.iload 7, 2) := by decide +kernel
theorem smd_M_act_356 : decode prog_7_method_45_code 356 = .ok (.invokevirtual 156, 3) := by decide +kernel
theorem smd_M_act_359 : decode prog_7_method_45_code 359 = .ok (.ireturn, 1) := by decide +kernel
theorem smd_M_act_360 : decode prog_7_method_45_code 360 = .ok (.aload_n 0, 1) := by decide +kernel
theorem smd_M_act_361 : decode prog_7_method_45_code 361 = .ok (.getfield 50, 3) := by decide +kernel
theorem smd_M_act_364 : decode prog_7_method_45_code 364 = .ok (.iload 8, 2) := by decide +kernel
theorem smd_M_act_366 : decode prog_7_method_45_code 366 = .ok (.iload 5, 2) := by decide +kernel
theorem smd_M_act_368 : decode prog_7_method_45_code 368 = .ok (.iadd, 1) := by decide +kernel
theorem smd_M_act_369 : decode prog_7_method_45_code 369 = .ok (.aload_n 0, 1) := by decide +kernel
theorem smd_M_act_370 : decode prog_7_method_45_code 370 = .ok (.getfield 26, 3) := by decide +kernel
theorem smd_M_act_373 : decode prog_7_method_45_code 373 = .ok (.iload 6, 2) := by decide +kernel
theorem smd_M_act_375 : decode prog_7_method_45_code 375 = .ok (.iaload, 1) := by decide +kernel
theorem smd_M_act_376 : decode prog_7_method_45_code 376 = .ok (.iastore, 1) := by decide +kernel
theorem smd_M_act_377 : decode prog_7_method_45_code 377 = .ok (.iconst 0, 1) := by decide +kernel
theorem smd_M_act_378 : decode prog_7_method_45_code 378 = .ok (.ireturn, 1) := by decide +kernel
theorem smd_M_act_379 : decode prog_7_method_45_code 379 = .ok (.aload_n 0, 1) := by decide +kernel
theorem smd_M_act_380 : decode prog_7_method_45_code 380 = .ok (.getfield 26, 3) := by decide +kernel
theorem smd_M_act_383 : decode prog_7_method_45_code 383 = .ok (.iload 6, 2) := by decide +kernel
theorem smd_M_act_385 : decode prog_7_method_45_code 385 = .ok (.aload_n 0, 1) := by decide +kernel
theorem smd_M_act_386 : decode prog_7_method_45_code 386 = .ok (.getfield 50, 3) := by decide +kernel
theorem smd_M_act_389 : decode prog_7_method_45_code 389 = .ok (.iload 8, 2) := by decide +kernel
theorem smd_M_act_391 : decode prog_7_method_45_code 391 = .ok (.iload 5, 2) := by decide +kernel
theorem smd_M_act_393 : decode prog_7_method_45_code 393 = .ok (.iadd, 1) := by decide +kernel
theorem smd_M_act_394 : decode prog_7_method_45_code 394 = .ok (.iaload, 1) := by decide +kernel
theorem smd_M_act_395 : decode prog_7_method_45_code 395 = .ok (.iastore, 1) := by decide +kernel
theorem smd_M_act_396 : decode prog_7_method_45_code 396 = .ok (.iconst 0, 1) := by decide +kernel
theorem smd_M_act_397 : decode prog_7_method_45_code 397 = .ok (.ireturn, 1) := by decide +kernel
theorem smd_M_act_398 : decode prog_7_method_45_code 398 = .ok (.aload_n 0, 1) := by decide +kernel
theorem smd_M_act_399 : decode prog_7_method_45_code 399 = .ok (.getfield 50, 3) := by decide +kernel
theorem smd_M_act_402 : decode prog_7_method_45_code 402 = .ok (.iload 8, 2) := by decide +kernel
theorem smd_M_act_404 : decode prog_7_method_45_code 404 = .ok (.iload 5, 2) := by decide +kernel
theorem smd_M_act_406 : decode prog_7_method_45_code 406 = .ok (.iadd, 1) := by decide +kernel
theorem smd_M_act_407 : decode prog_7_method_45_code 407 = .ok (.aload_n 0, 1) := by decide +kernel
theorem smd_M_act_408 : decode prog_7_method_45_code 408 = .ok (.iload_n 1, 1) := by decide +kernel
theorem smd_M_act_409 : decode prog_7_method_45_code 409 = .ok (.invokevirtual 160, 3) := by decide +kernel
theorem smd_M_act_412 : decode prog_7_method_45_code 412 = .ok (.iastore, 1) := by decide +kernel
theorem smd_M_act_413 : decode prog_7_method_45_code 413 = .ok (.iconst 0, 1) := by decide +kernel
theorem smd_M_act_414 : decode prog_7_method_45_code 414 = .ok (.ireturn, 1) := by decide +kernel
theorem smd_M_act_415 : decode prog_7_method_45_code 415 = .ok (.iconst 0, 1) := by decide +kernel
theorem smd_M_act_416 : decode prog_7_method_45_code 416 = .ok (.ireturn, 1) := by decide +kernel
theorem smd_M_create_0 : decode prog_7_method_46_code 0 = .ok (.aload_n 0, 1) := by decide +kernel
theorem smd_M_create_1 : decode prog_7_method_46_code 1 = .ok (.iload_n 3, 1) := by decide +kernel
theorem smd_M_create_2 : decode prog_7_method_46_code 2 = .ok (.invokevirtual 163, 3) := by decide +kernel
theorem smd_M_create_5 : decode prog_7_method_46_code 5 = .ok (.istore 4, 2) := by decide +kernel
theorem smd_M_create_7 : decode prog_7_method_46_code 7 = .ok (.iload 4, 2) := by decide +kernel
theorem smd_M_create_9 : decode prog_7_method_46_code 9 = .ok (.ifCond .ne 9, 3) := by decide +kernel
theorem smd_M_create_12 : decode prog_7_method_46_code 12 = .ok (.aload_n 0, 1) := by decide +kernel
theorem smd_M_create_13 : decode prog_7_method_46_code 13 = .ok (.iload_n 1, 1) := by decide +kernel
theorem smd_M_create_14 : decode prog_7_method_46_code 14 = .ok (.invokevirtual 149, 3) := by decide +kernel
theorem smd_M_create_17 : decode prog_7_method_46_code 17 = .ok (.ireturn, 1) := by decide +kernel
theorem smd_M_create_18 : decode prog_7_method_46_code 18 = .ok (.aload_n 0, 1) := by decide +kernel
theorem smd_M_create_19 : decode prog_7_method_46_code 19 = .ok (.getfield 50, 3) := by decide +kernel
theorem smd_M_create_22 : decode prog_7_method_46_code 22 = .ok (.iload_n 2, 1) := by decide +kernel
theorem smd_M_create_23 : decode prog_7_method_46_code 23 = .ok (.iload 4, 2) := by decide +kernel
theorem smd_M_create_25 : decode prog_7_method_46_code 25 = .ok (.iastore, 1) := by decide +kernel
theorem smd_M_create_26 : decode prog_7_method_46_code 26 = .ok (.iconst 0, 1) := by decide +kernel
theorem smd_M_create_27 : decode prog_7_method_46_code 27 = .ok (.ireturn, 1) := by decide +kernel
theorem smd_M_access_0 : decode prog_7_method_47_code 0 = .ok (.iload_n 2, 1) := by decide +kernel
theorem smd_M_access_1 : decode prog_7_method_47_code 1 = .ok (.bipush 7, 2) := by decide +kernel
theorem smd_M_access_3 : decode prog_7_method_47_code 3 = .ok (.if_icmp .ne 15, 3) := by decide +kernel
theorem smd_M_access_6 : decode prog_7_method_47_code 6 = .ok (.aload_n 0, 1) := by decide +kernel
theorem smd_M_access_7 : decode prog_7_method_47_code 7 = .ok (.getfield 50, 3) := by decide +kernel
theorem smd_M_access_10 : decode prog_7_method_47_code 10 = .ok (.iload_n 3, 1) := by decide +kernel
theorem smd_M_access_11 : decode prog_7_method_47_code 11 = .ok (.iload 5, 2) := by decide +kernel
theorem smd_M_access_13 : decode prog_7_method_47_code 13 = .ok (.iadd, 1) := by decide +kernel
theorem smd_M_access_14 : decode prog_7_method_47_code 14 = .ok (.iaload, 1) := by decide +kernel
theorem smd_M_access_15 : decode prog_7_method_47_code 15 = .ok (.goto 12, 3) := by decide +kernel
theorem smd_M_access_18 : decode prog_7_method_47_code 18 = .ok (.aload_n 0, 1) := by decide +kernel
theorem smd_M_access_19 : decode prog_7_method_47_code 19 = .ok (.getfield 50, 3) := by decide +kernel
theorem smd_M_access_22 : decode prog_7_method_47_code 22 = .ok (.iload_n 3, 1) := by decide +kernel
theorem smd_M_access_23 : decode prog_7_method_47_code 23 = .ok (.iload 4, 2) := by decide +kernel
theorem smd_M_access_25 : decode prog_7_method_47_code 25 = .ok (.iadd, 1) := by decide +kernel
theorem smd_M_access_26 : decode prog_7_method_47_code 26 = .ok (.iaload, 1) := by decide +kernel
theorem smd_M_access_27 : decode prog_7_method_47_code 27 = .ok (.istore 7, 2) := by decide +kernel
theorem smd_M_access_29 : decode prog_7_method_47_code 29 = .ok (.aload_n 0, 1) := by decide +kernel
theorem smd_M_access_30 : decode prog_7_method_47_code 30 = .ok (.iload 7, 2) := by decide +kernel
theorem smd_M_access_32 : decode prog_7_method_47_code 32 = .ok (.invokevirtual 110, 3) := by decide +kernel
theorem smd_M_access_35 : decode prog_7_method_47_code 35 = .ok (.ifCond .eq 17, 3) := by decide +kernel
theorem smd_M_access_38 : decode prog_7_method_47_code 38 = .ok (.aload_n 0, 1) := by decide +kernel
theorem smd_M_access_39 : decode prog_7_method_47_code 39 = .ok (.getfield 29, 3) := by decide +kernel
theorem smd_M_access_42 : decode prog_7_method_47_code 42 = .ok (.iload 7, 2) := by decide +kernel
theorem smd_M_access_44 : decode prog_7_method_47_code 44 = .ok (.iaload, 1) := by decide +kernel
theorem smd_M_access_45 : decode prog_7_method_47_code 45 = .ok (.iload 6, 2) := by decide +kernel
theorem smd_M_access_47 : decode prog_7_method_47_code 47 = .ok (.iconst 4, 1) := by decide +kernel
theorem smd_M_access_48 : decode prog_7_method_47_code 48 = .ok (.idiv, 1) := by decide +kernel
theorem smd_M_access_49 : decode prog_7_method_47_code 49 = .ok (.if_icmp .eq 9, 3) := by decide +kernel
theorem smd_M_access_52 : decode prog_7_method_47_code 52 = .ok (.aload_n 0, 1) := by decide +kernel
theorem smd_M_access_53 : decode prog_7_method_47_code 53 = .ok (.iload_n 1, 1) := by decide +kernel
theorem smd_M_access_54 : decode prog_7_method_47_code 54 = .ok (.invokevirtual 149, 3) := by decide +kernel
theorem smd_M_access_57 : decode prog_7_method_47_code 57 = .ok (.ireturn, 1) := by decide +kernel
theorem smd_M_access_58 : decode prog_7_method_47_code 58 = .ok (.iload_n 2, 1) := by decide +kernel
theorem smd_M_access_59 : decode prog_7_method_47_code 59 = .ok (.bipush 7, 2) := by decide +kernel
theorem smd_M_access_61 : decode prog_7_method_47_code 61 = .ok (.if_icmp .ne 29, 3) := by decide +kernel
theorem smd_M_access_64 : decode prog_7_method_47_code 64 = .ok (.aload_n 0, 1) := by decide +kernel
theorem smd_M_access_65 : decode prog_7_method_47_code 65 = .ok (.getfield 50, 3) := by decide +kernel
theorem smd_M_access_68 : decode prog_7_method_47_code 68 = .ok (.iload_n 3, 1) := by decide +kernel
theorem smd_M_access_69 : decode prog_7_method_47_code 69 = .ok (.iload 4, 2) := by decide +kernel
theorem smd_M_access_71 : decode prog_7_method_47_code 71 = .ok (.iadd, 1) := by decide +kernel
theorem smd_M_access_72 : decode prog_7_method_47_code 72 = .ok (.aload_n 0, 1) := by decide +kernel
theorem smd_M_access_73 : decode prog_7_method_47_code 73 = .ok (.getfield 32, 3) := by decide +kernel
theorem smd_M_access_76 : decode prog_7_method_47_code 76 = .ok (.iconst 4, 1) := by decide +kernel
theorem smd_M_access_77 : decode prog_7_method_47_code 77 = .ok (.iload 7, 2) := by decide +kernel
theorem smd_M_access_79 : decode prog_7_method_47_code 79 = .ok (.imul, 1) := by decide +kernel
theorem smd_M_access_80 : decode prog_7_method_47_code 80 = .ok (.iload 6, 2) := by decide +kernel
theorem smd_M_access_82 : decode prog_7_method_47_code 82 = .ok (.iconst 4, 1) := by decide +kernel
theorem smd_M_access_83 : decode prog_7_method_47_code 83 = .ok (.irem, 1) := by decide +kernel
theorem smd_M_access_84 : decode prog_7_method_47_code 84 = .ok (.iadd, 1) := by decide +kernel
theorem smd_M_access_85 : decode prog_7_method_47_code 85 = .ok (.iaload, 1) := by decide +kernel
theorem smd_M_access_86 : decode prog_7_method_47_code 86 = .ok (.iastore, 1) := by decide +kernel
theorem smd_M_access_87 : decode prog_7_method_47_code 87 = .ok (.goto 26, 3) := by decide +kernel
theorem smd_M_access_90 : decode prog_7_method_47_code 90 = .ok (.aload_n 0, 1) := by decide +kernel
theorem smd_M_access_91 : decode prog_7_method_47_code 91 = .ok (.getfield 32, 3) := by decide +kernel
theorem smd_M_access_94 : decode prog_7_method_47_code 94 = .ok (.iconst 4, 1) := by decide +kernel
theorem smd_M_access_95 : decode prog_7_method_47_code 95 = .ok (.iload 7, 2) := by decide +kernel
theorem smd_M_access_97 : decode prog_7_method_47_code 97 = .ok (.imul, 1) := by decide +kernel
theorem smd_M_access_98 : decode prog_7_method_47_code 98 = .ok (.iload 6, 2) := by decide +kernel
theorem smd_M_access_100 : decode prog_7_method_47_code 100 = .ok (.iconst 4, 1) := by decide +kernel
theorem smd_M_access_101 : decode prog_7_method_47_code 101 = .ok (.irem, 1) := by decide +kernel
theorem smd_M_access_102 : decode prog_7_method_47_code 102 = .ok (.iadd, 1) := by decide +kernel
theorem smd_M_access_103 : decode prog_7_method_47_code 103 = .ok (.aload_n 0, 1) := by decide +kernel
theorem smd_M_access_104 : decode prog_7_method_47_code 104 = .ok (.getfield 50, 3) := by decide +kernel
theorem smd_M_access_107 : decode prog_7_method_47_code 107 = .ok (.iload_n 3, 1) := by decide +kernel
theorem smd_M_access_108 : decode prog_7_method_47_code 108 = .ok (.iload 5, 2) := by decide +kernel
theorem smd_M_access_110 : decode prog_7_method_47_code 110 = .ok (.iadd, 1) := by decide +kernel
theorem smd_M_access_111 : decode prog_7_method_47_code 111 = .ok (.iaload, 1) := by decide +kernel
theorem smd_M_access_112 : decode prog_7_method_47_code 112 = .ok (.iastore, 1) := by decide +kernel
theorem smd_M_access_113 : decode prog_7_method_47_code 113 = .ok (.iconst 0, 1) := by decide +kernel
theorem smd_M_access_114 : decode prog_7_method_47_code 114 = .ok (.ireturn, 1) := by decide +kernel
theorem smd_M_step_0 : decode prog_7_method_48_code 0 = .ok (.aload_n 0, 1) := by decide +kernel
theorem smd_M_step_1 : decode prog_7_method_48_code 1 = .ok (.iload_n 1, 1) := by decide +kernel
theorem smd_M_step_2 : decode prog_7_method_48_code 2 = .ok (.invokevirtual 166, 3) := by decide +kernel
theorem smd_M_step_5 : decode prog_7_method_48_code 5 = .ok (.ifCond .eq 15, 3) := by decide +kernel
theorem smd_M_step_8 : decode prog_7_method_48_code 8 = .ok (.iload_n 2, 1) := by decide +kernel
theorem smd_M_step_9 : decode prog_7_method_48_code 9 = .ok (.iconst 1, 1) := by decide +kernel
theorem smd_M_step_10 : decode prog_7_method_48_code 10 = .ok (.if_icmp .lt 10, 3) := by decide +kernel
theorem smd_M_step_13 : decode prog_7_method_48_code 13 = .ok (.iload_n 2, 1) := by decide +kernel
theorem smd_M_step_14 : decode prog_7_method_48_code 14 = .ok (.sipush 200, 3) := by decide +kernel
theorem smd_M_step_17 : decode prog_7_method_48_code 17 = .ok (.if_icmp .le 5, 3) := by decide +kernel
theorem smd_M_step_20 : decode prog_7_method_48_code 20 = .ok (.iconst (-1), 1) := by decide +kernel
theorem smd_M_step_21 : decode prog_7_method_48_code 21 = .ok (.ireturn, 1) := by decide +kernel
theorem smd_M_step_22 : decode prog_7_method_48_code 22 = .ok (.aload_n 0, 1) := by decide +kernel
theorem smd_M_step_23 : decode prog_7_method_48_code 23 = .ok (.getfield 41, 3) := by decide +kernel
theorem smd_M_step_26 : decode prog_7_method_48_code 26 = .ok (.iload_n 1, 1) := by decide +kernel
theorem smd_M_step_27 : decode prog_7_method_48_code 27 = .ok (.iaload, 1) := by decide +kernel
theorem smd_M_step_28 : decode prog_7_method_48_code 28 = .ok (.iconst 1, 1) := by decide +kernel
theorem smd_M_step_29 : decode prog_7_method_48_code 29 = .ok (.if_icmp .ne 7, 3) := by decide +kernel
theorem smd_M_step_32 : decode prog_7_method_48_code 32 = .ok (.iconst 0, 1) := by decide +kernel
theorem smd_M_step_33 : decode prog_7_method_48_code 33 = .ok (.goto 9, 3) := by decide +kernel
theorem smd_M_step_36 : decode prog_7_method_48_code 36 = .ok (.aload_n 0, 1) := by decide +kernel
theorem smd_M_step_37 : decode prog_7_method_48_code 37 = .ok (.getfield 41, 3) := by decide +kernel
theorem smd_M_step_40 : decode prog_7_method_48_code 40 = .ok (.iload_n 1, 1) := by decide +kernel
theorem smd_M_step_41 : decode prog_7_method_48_code 41 = .ok (.iaload, 1) := by decide +kernel
theorem smd_M_step_42 : decode prog_7_method_48_code 42 = .ok (.istore_n 3, 1) := by decide +kernel
theorem smd_M_step_43 : decode prog_7_method_48_code 43 = .ok (.iconst 0, 1) := by decide +kernel
theorem smd_M_step_44 : decode prog_7_method_48_code 44 = .ok (.istore 4, 2) := by decide +kernel
theorem smd_M_step_46 : decode prog_7_method_48_code 46 = .ok (.iload 4, 2) := by decide +kernel
theorem smd_M_step_48 : decode prog_7_method_48_code 48 = .ok (.iload_n 2, 1) := by decide +kernel
theorem smd_M_step_49 : decode prog_7_method_48_code 49 = .ok (.if_icmp .ge 19, 3) := by decide +kernel
theorem smd_M_step_52 : decode prog_7_method_48_code 52 = .ok (.iload_n 3, 1) := by decide +kernel
theorem smd_M_step_53 : decode prog_7_method_48_code 53 = .ok (.ifCond .ne 15, 3) := by decide +kernel
theorem smd_M_step_56 : decode prog_7_method_48_code 56 = .ok (.aload_n 0, 1) := by decide +kernel
theorem smd_M_step_57 : decode prog_7_method_48_code 57 = .ok (.iload_n 1, 1) := by decide +kernel
theorem smd_M_step_58 : decode prog_7_method_48_code 58 = .ok (.invokevirtual 169, 3) := by decide +kernel
theorem smd_M_step_61 : decode prog_7_method_48_code 61 = .ok (.istore_n 3, 1) := by decide +kernel
theorem smd_M_step_62 : decode prog_7_method_48_code 62 = .ok (.iinc 4 1, 3) := by decide +kernel
theorem smd_M_step_65 : decode prog_7_method_48_code 65 = .ok (.goto (-19), 3) := by decide +kernel
theorem smd_M_step_68 : decode prog_7_method_48_code 68 = .ok (.aload_n 0, 1) := by decide +kernel
theorem smd_M_step_69 : decode prog_7_method_48_code 69 = .ok (.getfield 41, 3) := by decide +kernel
theorem smd_M_step_72 : decode prog_7_method_48_code 72 = .ok (.iload_n 1, 1) := by decide +kernel
theorem smd_M_step_73 : decode prog_7_method_48_code 73 = .ok (.iload_n 3, 1) := by decide +kernel
theorem smd_M_step_74 : decode prog_7_method_48_code 74 = .ok (.iastore, 1) := by decide +kernel
theorem smd_M_step_75 : decode prog_7_method_48_code 75 = .ok (.iload_n 3, 1) := by decide +kernel
theorem smd_M_step_76 : decode prog_7_method_48_code 76 = .ok (.ireturn, 1) := by decide +kernel
theorem smd_M_send_0 : decode prog_7_method_49_code 0 = .ok (.aload_n 0, 1) := by decide +kernel
theorem smd_M_send_1 : decode prog_7_method_49_code 1 = .ok (.iload_n 1, 1) := by decide +kernel
theorem smd_M_send_2 : decode prog_7_method_49_code 2 = .ok (.invokevirtual 166, 3) := by decide +kernel
theorem smd_M_send_5 : decode prog_7_method_49_code 5 = .ok (.ifCond .ne 5, 3) := by decide +kernel
theorem smd_M_send_8 : decode prog_7_method_49_code 8 = .ok (.iconst (-1), 1) := by decide +kernel
theorem smd_M_send_9 : decode prog_7_method_49_code 9 = .ok (.ireturn, 1) := by decide +kernel
theorem smd_M_send_10 : decode prog_7_method_49_code 10 = .ok (.aload_n 0, 1) := by decide +kernel
theorem smd_M_send_11 : decode prog_7_method_49_code 11 = .ok (.getfield 41, 3) := by decide +kernel
theorem smd_M_send_14 : decode prog_7_method_49_code 14 = .ok (.iload_n 1, 1) := by decide +kernel
theorem smd_M_send_15 : decode prog_7_method_49_code 15 = .ok (.iaload, 1) := by decide +kernel
theorem smd_M_send_16 : decode prog_7_method_49_code 16 = .ok (.iconst 1, 1) := by decide +kernel
theorem smd_M_send_17 : decode prog_7_method_49_code 17 = .ok (.if_icmp .le 6, 3) := by decide +kernel
theorem smd_M_send_20 : decode prog_7_method_49_code 20 = .ok (.bipush (-2), 2) := by decide +kernel
theorem smd_M_send_22 : decode prog_7_method_49_code 22 = .ok (.ireturn, 1) := by decide +kernel
theorem smd_M_send_23 : decode prog_7_method_49_code 23 = .ok (.aload_n 0, 1) := by decide +kernel
theorem smd_M_send_24 : decode prog_7_method_49_code 24 = .ok (.getfield 53, 3) := by decide +kernel
theorem smd_M_send_27 : decode prog_7_method_49_code 27 = .ok (.iload_n 1, 1) := by decide +kernel
theorem smd_M_send_28 : decode prog_7_method_49_code 28 = .ok (.iaload, 1) := by decide +kernel
theorem smd_M_send_29 : decode prog_7_method_49_code 29 = .ok (.bipush 8, 2) := by decide +kernel
theorem smd_M_send_31 : decode prog_7_method_49_code 31 = .ok (.if_icmp .ne 6, 3) := by decide +kernel
theorem smd_M_send_34 : decode prog_7_method_49_code 34 = .ok (.bipush (-3), 2) := by decide +kernel
theorem smd_M_send_36 : decode prog_7_method_49_code 36 = .ok (.ireturn, 1) := by decide +kernel
theorem smd_M_send_37 : decode prog_7_method_49_code 37 = .ok (.aload_n 0, 1) := by decide +kernel
theorem smd_M_send_38 : decode prog_7_method_49_code 38 = .ok (.getfield 56, 3) := by decide +kernel
theorem smd_M_send_41 : decode prog_7_method_49_code 41 = .ok (.bipush 8, 2) := by decide +kernel
theorem smd_M_send_43 : decode prog_7_method_49_code 43 = .ok (.iload_n 1, 1) := by decide +kernel
theorem smd_M_send_44 : decode prog_7_method_49_code 44 = .ok (.imul, 1) := by decide +kernel
theorem smd_M_send_45 : decode prog_7_method_49_code 45 = .ok (.aload_n 0, 1) := by decide +kernel
theorem smd_M_send_46 : decode prog_7_method_49_code 46 = .ok (.getfield 53, 3) := by decide +kernel
theorem smd_M_send_49 : decode prog_7_method_49_code 49 = .ok (.iload_n 1, 1) := by decide +kernel
theorem smd_M_send_50 : decode prog_7_method_49_code 50 = .ok (.iaload, 1) := by decide +kernel
theorem smd_M_send_51 : decode prog_7_method_49_code 51 = .ok (.iadd, 1) := by decide +kernel
theorem smd_M_send_52 : decode prog_7_method_49_code 52 = .ok (.iload_n 2, 1) := by decide +kernel
theorem smd_M_send_53 : decode prog_7_method_49_code 53 = .ok (.iastore, 1) := by decide +kernel
theorem smd_M_send_54 : decode prog_7_method_49_code 54 = .ok (.aload_n 0, 1) := by decide +kernel
theorem smd_M_send_55 : decode prog_7_method_49_code 55 = .ok (.getfield 53, 3) := by decide +kernel
theorem smd_M_send_58 : decode prog_7_method_49_code 58 = .ok (.iload_n 1, 1) := by decide +kernel
theorem smd_M_send_59 : decode prog_7_method_49_code 59 = .ok (.dup2, 1) := by decide +kernel
theorem smd_M_send_60 : decode prog_7_method_49_code 60 = .ok (.iaload, 1) := by decide +kernel
theorem smd_M_send_61 : decode prog_7_method_49_code 61 = .ok (.iconst 1, 1) := by decide +kernel
theorem smd_M_send_62 : decode prog_7_method_49_code 62 = .ok (.iadd, 1) := by decide +kernel
theorem smd_M_send_63 : decode prog_7_method_49_code 63 = .ok (.iastore, 1) := by decide +kernel
theorem smd_M_send_64 : decode prog_7_method_49_code 64 = .ok (.aload_n 0, 1) := by decide +kernel
theorem smd_M_send_65 : decode prog_7_method_49_code 65 = .ok (.getfield 53, 3) := by decide +kernel
theorem smd_M_send_68 : decode prog_7_method_49_code 68 = .ok (.iload_n 1, 1) := by decide +kernel
theorem smd_M_send_69 : decode prog_7_method_49_code 69 = .ok (.iaload, 1) := by decide +kernel
theorem smd_M_send_70 : decode prog_7_method_49_code 70 = .ok (.ireturn, 1) := by decide +kernel
theorem smd_M_state_0 : decode prog_7_method_50_code 0 = .ok (.aload_n 0, 1) := by decide +kernel
theorem smd_M_state_1 : decode prog_7_method_50_code 1 = .ok (.iload_n 1, 1) := by decide +kernel
theorem smd_M_state_2 : decode prog_7_method_50_code 2 = .ok (.invokevirtual 166, 3) := by decide +kernel
theorem smd_M_state_5 : decode prog_7_method_50_code 5 = .ok (.ifCond .eq 12, 3) := by decide +kernel
theorem smd_M_state_8 : decode prog_7_method_50_code 8 = .ok (.aload_n 0, 1) := by decide +kernel
theorem smd_M_state_9 : decode prog_7_method_50_code 9 = .ok (.getfield 41, 3) := by decide +kernel
theorem smd_M_state_12 : decode prog_7_method_50_code 12 = .ok (.iload_n 1, 1) := by decide +kernel
theorem smd_M_state_13 : decode prog_7_method_50_code 13 = .ok (.iaload, 1) := by decide +kernel
theorem smd_M_state_14 : decode prog_7_method_50_code 14 = .ok (.goto 4, 3) := by decide +kernel
theorem smd_M_state_17 : decode prog_7_method_50_code 17 = .ok (.iconst (-1), 1) := by decide +kernel
theorem smd_M_state_18 : decode prog_7_method_50_code 18 = .ok (.ireturn, 1) := by decide +kernel
theorem smd_M_result_0 : decode prog_7_method_51_code 0 = .ok (.aload_n 0, 1) := by decide +kernel
theorem smd_M_result_1 : decode prog_7_method_51_code 1 = .ok (.iload_n 1, 1) := by decide +kernel
theorem smd_M_result_2 : decode prog_7_method_51_code 2 = .ok (.invokevirtual 166, 3) := by decide +kernel
theorem smd_M_result_5 : decode prog_7_method_51_code 5 = .ok (.ifCond .eq 12, 3) := by decide +kernel
theorem smd_M_result_8 : decode prog_7_method_51_code 8 = .ok (.aload_n 0, 1) := by decide +kernel
theorem smd_M_result_9 : decode prog_7_method_51_code 9 = .ok (.getfield 44, 3) := by decide +kernel
theorem smd_M_result_12 : decode prog_7_method_51_code 12 = .ok (.iload_n 1, 1) := by decide +kernel
theorem smd_M_result_13 : decode prog_7_method_51_code 13 = .ok (.iaload, 1) := by decide +kernel
theorem smd_M_result_14 : decode prog_7_method_51_code 14 = .ok (.goto 4, 3) := by decide +kernel
theorem smd_M_result_17 : decode prog_7_method_51_code 17 = .ok (.iconst 0, 1) := by decide +kernel
theorem smd_M_result_18 : decode prog_7_method_51_code 18 = .ok (.ireturn, 1) := by decide +kernel
theorem smd_M_frames_0 : decode prog_7_method_52_code 0 = .ok (.aload_n 0, 1) := by decide +kernel
theorem smd_M_frames_1 : decode prog_7_method_52_code 1 = .ok (.iload_n 1, 1) := by decide +kernel
theorem smd_M_frames_2 : decode prog_7_method_52_code 2 = .ok (.invokevirtual 166, 3) := by decide +kernel
theorem smd_M_frames_5 : decode prog_7_method_52_code 5 = .ok (.ifCond .eq 12, 3) := by decide +kernel
theorem smd_M_frames_8 : decode prog_7_method_52_code 8 = .ok (.aload_n 0, 1) := by decide +kernel
theorem smd_M_frames_9 : decode prog_7_method_52_code 9 = .ok (.getfield 47, 3) := by decide +kernel
theorem smd_M_frames_12 : decode prog_7_method_52_code 12 = .ok (.iload_n 1, 1) := by decide +kernel
theorem smd_M_frames_13 : decode prog_7_method_52_code 13 = .ok (.iaload, 1) := by decide +kernel
theorem smd_M_frames_14 : decode prog_7_method_52_code 14 = .ok (.goto 4, 3) := by decide +kernel
theorem smd_M_frames_17 : decode prog_7_method_52_code 17 = .ok (.iconst (-1), 1) := by decide +kernel
theorem smd_M_frames_18 : decode prog_7_method_52_code 18 = .ok (.ireturn, 1) := by decide +kernel
theorem smd_M_frame_0 : decode prog_7_method_53_code 0 = .ok (.aload_n 0, 1) := by decide +kernel
theorem smd_M_frame_1 : decode prog_7_method_53_code 1 = .ok (.iload_n 1, 1) := by decide +kernel
theorem smd_M_frame_2 : decode prog_7_method_53_code 2 = .ok (.invokevirtual 166, 3) := by decide +kernel
theorem smd_M_frame_5 : decode prog_7_method_53_code 5 = .ok (.ifCond .eq 41, 3) := by decide +kernel
theorem smd_M_frame_8 : decode prog_7_method_53_code 8 = .ok (.iload_n 2, 1) := by decide +kernel
theorem smd_M_frame_9 : decode prog_7_method_53_code 9 = .ok (.ifCond .lt 37, 3) := by decide +kernel
theorem smd_M_frame_12 : decode prog_7_method_53_code 12 = .ok (.iload_n 2, 1) := by decide +kernel
theorem smd_M_frame_13 : decode prog_7_method_53_code 13 = .ok (.aload_n 0, 1) := by decide +kernel
theorem smd_M_frame_14 : decode prog_7_method_53_code 14 = .ok (.getfield 47, 3) := by decide +kernel
theorem smd_M_frame_17 : decode prog_7_method_53_code 17 = .ok (.iload_n 1, 1) := by decide +kernel
theorem smd_M_frame_18 : decode prog_7_method_53_code 18 = .ok (.iaload, 1) := by decide +kernel
theorem smd_M_frame_19 : decode prog_7_method_53_code 19 = .ok (.if_icmp .ge 27, 3) := by decide +kernel
theorem smd_M_frame_22 : decode prog_7_method_53_code 22 = .ok (.iload_n 3, 1) := by decide +kernel
theorem smd_M_frame_23 : decode prog_7_method_53_code 23 = .ok (.ifCond .lt 23, 3) := by decide +kernel
theorem smd_M_frame_26 : decode prog_7_method_53_code 26 = .ok (.iload_n 3, 1) := by decide +kernel
theorem smd_M_frame_27 : decode prog_7_method_53_code 27 = .ok (.iconst 5, 1) := by decide +kernel
theorem smd_M_frame_28 : decode prog_7_method_53_code 28 = .ok (.if_icmp .ge 18, 3) := by decide +kernel
theorem smd_M_frame_31 : decode prog_7_method_53_code 31 = .ok (.aload_n 0, 1) := by decide +kernel
theorem smd_M_frame_32 : decode prog_7_method_53_code 32 = .ok (.getfield 50, 3) := by decide +kernel
theorem smd_M_frame_35 : decode prog_7_method_53_code 35 = .ok (.iload_n 1, 1) := by decide +kernel
theorem smd_M_frame_36 : decode prog_7_method_53_code 36 = .ok (.iload_n 2, 1) := by decide +kernel
theorem smd_M_frame_37 : decode prog_7_method_53_code 37 = .ok (.invokestatic 96, 3) := by decide +kernel
theorem smd_M_frame_40 : decode prog_7_method_53_code 40 = .ok (.iload_n 3, 1) := by decide +kernel
theorem smd_M_frame_41 : decode prog_7_method_53_code 41 = .ok (.iadd, 1) := by decide +kernel
theorem smd_M_frame_42 : decode prog_7_method_53_code 42 = .ok (.iaload, 1) := by decide +kernel
theorem smd_M_frame_43 : decode prog_7_method_53_code 43 = .ok (.goto 4, 3) := by decide +kernel
theorem smd_M_frame_46 : decode prog_7_method_53_code 46 = .ok (.iconst (-1), 1) := by decide +kernel
theorem smd_M_frame_47 : decode prog_7_method_53_code 47 = .ok (.ireturn, 1) := by decide +kernel
theorem smd_M_global_0 : decode prog_7_method_54_code 0 = .ok (.iload_n 1, 1) := by decide +kernel
theorem smd_M_global_1 : decode prog_7_method_54_code 1 = .ok (.ifCond .lt 17, 3) := by decide +kernel
theorem smd_M_global_4 : decode prog_7_method_54_code 4 = .ok (.iload_n 1, 1) := by decide +kernel
theorem smd_M_global_5 : decode prog_7_method_54_code 5 = .ok (.iconst 4, 1) := by decide +kernel
theorem smd_M_global_6 : decode prog_7_method_54_code 6 = .ok (.if_icmp .ge 12, 3) := by decide +kernel
theorem smd_M_global_9 : decode prog_7_method_54_code 9 = .ok (.aload_n 0, 1) := by decide +kernel
theorem smd_M_global_10 : decode prog_7_method_54_code 10 = .ok (.getfield 26, 3) := by decide +kernel
theorem smd_M_global_13 : decode prog_7_method_54_code 13 = .ok (.iload_n 1, 1) := by decide +kernel
theorem smd_M_global_14 : decode prog_7_method_54_code 14 = .ok (.iaload, 1) := by decide +kernel
theorem smd_M_global_15 : decode prog_7_method_54_code 15 = .ok (.goto 4, 3) := by decide +kernel
theorem smd_M_global_18 : decode prog_7_method_54_code 18 = .ok (.iconst 0, 1) := by decide +kernel
theorem smd_M_global_19 : decode prog_7_method_54_code 19 = .ok (.ireturn, 1) := by decide +kernel
theorem smd_H_init_0 : decode prog_2_method_1_code 0 = .ok (.aload_n 0, 1) := by decide +kernel
theorem smd_H_init_1 : decode prog_2_method_1_code 1 = .ok (.invokespecial 3, 3) := by decide +kernel
theorem smd_H_init_4 : decode prog_2_method_1_code 4 = .ok (.aload_n 0, 1) := by decide +kernel
theorem smd_H_init_5 : decode prog_2_method_1_code 5 = .ok (.bipush 17, 2) := by decide +kernel
theorem smd_H_init_7 : decode prog_2_method_1_code 7 = .ok (.newarray .int, 2) := by decide +kernel
theorem smd_H_init_9 : decode prog_2_method_1_code 9 = .ok (.putfield 9, 3) := by decide +kernel
theorem smd_H_init_12 : decode prog_2_method_1_code 12 = .ok (.aload_n 0, 1) := by decide +kernel
theorem smd_H_init_13 : decode prog_2_method_1_code 13 = .ok (.bipush 68, 2) := by decide +kernel
theorem smd_H_init_15 : decode prog_2_method_1_code 15 = .ok (.newarray .int, 2) := by decide +kernel
theorem smd_H_init_17 : decode prog_2_method_1_code 17 = .ok (.putfield 15, 3) := by decide +kernel
theorem smd_H_init_20 : decode prog_2_method_1_code 20 = .ok (.aload_n 0, 1) := by decide +kernel
theorem smd_H_init_21 : decode prog_2_method_1_code 21 = .ok (.bipush 68, 2) := by decide +kernel
theorem smd_H_init_23 : decode prog_2_method_1_code 23 = .ok (.newarray .int, 2) := by decide +kernel
theorem smd_H_init_25 : decode prog_2_method_1_code 25 = .ok (.putfield 18, 3) := by decide +kernel
theorem smd_H_init_28 : decode prog_2_method_1_code 28 = .ok (.aload_n 0, 1) := by decide +kernel
theorem smd_H_init_29 : decode prog_2_method_1_code 29 = .ok (.bipush 17, 2) := by decide +kernel
theorem smd_H_init_31 : decode prog_2_method_1_code 31 = .ok (.newarray .boolean, 2) := by decide +kernel
theorem smd_H_init_33 : decode prog_2_method_1_code 33 = .ok (.putfield 21, 3) := by decide +kernel
theorem smd_H_init_36 : decode prog_2_method_1_code 36 = .ok (.aload_n 0, 1) := by decide +kernel
theorem smd_H_init_37 : decode prog_2_method_1_code 37 = .ok (.bipush 16, 2) := by decide +kernel
theorem smd_H_init_39 : decode prog_2_method_1_code 39 = .ok (.newarray .int, 2) := by decide +kernel
theorem smd_H_init_41 : decode prog_2_method_1_code 41 = .ok (.putfield 25, 3) := by decide +kernel
theorem smd_H_init_44 : decode prog_2_method_1_code 44 = .ok (.iconst 0, 1) := by decide +kernel
theorem smd_H_init_45 : decode prog_2_method_1_code 45 = .ok (.istore_n 1, 1) := by decide +kernel
theorem smd_H_init_46 : decode prog_2_method_1_code 46 = .ok (.iload_n 1, 1) := by decide +kernel
theorem smd_H_init_47 : decode prog_2_method_1_code 47 = .ok (.bipush 16, 2) := by decide +kernel
theorem smd_H_init_49 : decode prog_2_method_1_code 49 = .ok (.if_icmp .gt 16, 3) := by decide +kernel
theorem smd_H_init_52 : decode prog_2_method_1_code 52 = .ok (.aload_n 0, 1) := by decide +kernel
theorem smd_H_init_53 : decode prog_2_method_1_code 53 = .ok (.getfield 9, 3) := by decide +kernel
theorem smd_H_init_56 : decode prog_2_method_1_code 56 = .ok (.iload_n 1, 1) := by decide +kernel
theorem smd_H_init_57 : decode prog_2_method_1_code 57 = .ok (.iconst (-1), 1) := by decide +kernel
theorem smd_H_init_58 : decode prog_2_method_1_code 58 = .ok (.iastore, 1) := by decide +kernel
theorem smd_H_init_59 : decode prog_2_method_1_code 59 = .ok (.iinc 1 1, 3) := by decide +kernel
theorem smd_H_init_62 : decode prog_2_method_1_code 62 = .ok (.goto (-16), 3) := by decide +kernel
theorem smd_H_init_65 : decode prog_2_method_1_code 65 = .ok (.return_, 1) := by decide +kernel
theorem smd_H_has_0 : decode prog_2_method_2_code 0 = .ok (.iload_n 1, 1) := by decide +kernel
theorem smd_H_has_1 : decode prog_2_method_2_code 1 = .ok (.iconst 1, 1) := by decide +kernel
theorem smd_H_has_2 : decode prog_2_method_2_code 2 = .ok (.if_icmp .lt 23, 3) := by decide +kernel
theorem smd_H_has_5 : decode prog_2_method_2_code 5 = .ok (.iload_n 1, 1) := by decide +kernel
theorem smd_H_has_6 : decode prog_2_method_2_code 6 = .ok (.bipush 16, 2) := by decide +kernel
theorem smd_H_has_8 : decode prog_2_method_2_code 8 = .ok (.if_icmp .gt 17, 3) := by decide +kernel
theorem smd_H_has_11 : decode prog_2_method_2_code 11 = .ok (.aload_n 0, 1) := by decide +kernel
theorem smd_H_has_12 : decode prog_2_method_2_code 12 = .ok (.getfield 9, 3) := by decide +kernel
theorem smd_H_has_15 : decode prog_2_method_2_code 15 = .ok (.iload_n 1, 1) := by decide +kernel
theorem smd_H_has_16 : decode prog_2_method_2_code 16 = .ok (.iaload, 1) := by decide +kernel
theorem smd_H_has_17 : decode prog_2_method_2_code 17 = .ok (.iconst (-1), 1) := by decide +kernel
theorem smd_H_has_18 : decode prog_2_method_2_code 18 = .ok (.if_icmp .eq 7, 3) := by decide +kernel
theorem smd_H_has_21 : decode prog_2_method_2_code 21 = .ok (.iconst 1, 1) := by decide +kernel
theorem smd_H_has_22 : decode prog_2_method_2_code 22 = .ok (.goto 4, 3) := by decide +kernel
theorem smd_H_has_25 : decode prog_2_method_2_code 25 = .ok (.iconst 0, 1) := by decide +kernel
theorem smd_H_has_26 : decode prog_2_method_2_code 26 = .ok (.ireturn, 1) := by decide +kernel
