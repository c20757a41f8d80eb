theorem smd_S_init_0 : decode prog_1_method_1_code 0 = .ok (.aload_n 0, 1) := by decide +kernel
theorem smd_S_init_1 : decode prog_1_method_1_code 1 = .ok (.invokespecial 1, 3) := by decide +kernel
theorem smd_S_init_4 : decode prog_1_method_1_code 4 = .ok (.aload_n 0, 1) := by decide +kernel
theorem smd_S_init_5 : decode prog_1_method_1_code 5 = .ok (.new 7, 3) := by decide +kernel
theorem smd_S_init_8 : decode prog_1_method_1_code 8 = .ok (.dup, 1) := by decide +kernel
theorem smd_S_init_9 : decode prog_1_method_1_code 9 = .ok (.invokespecial 9, 3) := by decide +kernel
theorem smd_S_init_12 : decode prog_1_method_1_code 12 = .ok (.putfield 10, 3) := by decide +kernel
theorem smd_S_init_15 : decode prog_1_method_1_code 15 = .ok (.aload_n 0, 1) := by decide +kernel
theorem smd_S_init_16 : decode prog_1_method_1_code 16 = .ok (.new 7, 3) := by decide +kernel
theorem smd_S_init_19 : decode prog_1_method_1_code 19 = .ok (.dup, 1) := by decide +kernel
theorem smd_S_init_20 : decode prog_1_method_1_code 20 = .ok (.invokespecial 9, 3) := by decide +kernel
theorem smd_S_init_23 : decode prog_1_method_1_code 23 = .ok (.putfield 16, 3) := by decide +kernel
theorem smd_S_init_26 : decode prog_1_method_1_code 26 = .ok (.aload_n 0, 1) := by decide +kernel
theorem smd_S_init_27 : decode prog_1_method_1_code 27 = .ok (.new 19, 3) := by decide +kernel
theorem smd_S_init_30 : decode prog_1_method_1_code 30 = .ok (.dup, 1) := by decide +kernel
theorem smd_S_init_31 : decode prog_1_method_1_code 31 = .ok (.invokespecial 21, 3) := by decide +kernel
theorem smd_S_init_34 : decode prog_1_method_1_code 34 = .ok (.putfield 22, 3) := by decide +kernel
theorem smd_S_init_37 : decode prog_1_method_1_code 37 = .ok (.aload_n 0, 1) := by decide +kernel
theorem smd_S_init_38 : decode prog_1_method_1_code 38 = .ok (.new 26, 3) := by decide +kernel
theorem smd_S_init_41 : decode prog_1_method_1_code 41 = .ok (.dup, 1) := by decide +kernel
theorem smd_S_init_42 : decode prog_1_method_1_code 42 = .ok (.invokespecial 28, 3) := by decide +kernel
theorem smd_S_init_45 : decode prog_1_method_1_code 45 = .ok (.putfield 29, 3) := by decide +kernel
theorem smd_S_init_48 : decode prog_1_method_1_code 48 = .ok (.aload_n 0, 1) := by decide +kernel
theorem smd_S_init_49 : decode prog_1_method_1_code 49 = .ok (.iconst 4, 1) := by decide +kernel
theorem smd_S_init_50 : decode prog_1_method_1_code 50 = .ok (.newarray .int, 2) := by decide +kernel
theorem smd_S_init_52 : decode prog_1_method_1_code 52 = .ok (.putfield 33, 3) := by decide +kernel
theorem smd_S_init_55 : decode prog_1_method_1_code 55 = .ok (.aload_n 0, 1) := by decide +kernel
theorem smd_S_init_56 : decode prog_1_method_1_code 56 = .ok (.bipush 6, 2) := by decide +kernel
theorem smd_S_init_58 : decode prog_1_method_1_code 58 = .ok (.anewarray 37, 3) := by decide +kernel
theorem smd_S_init_61 : decode prog_1_method_1_code 61 = .ok (.putfield 39, 3) := by decide +kernel
theorem smd_S_init_64 : decode prog_1_method_1_code 64 = .ok (.iconst 0, 1) := by decide +kernel
theorem smd_S_init_65 : decode prog_1_method_1_code 65 = .ok (.istore_n 1, 1) := by decide +kernel
theorem smd_S_init_66 : decode prog_1_method_1_code 66 = .ok (.iload_n 1, 1) := by decide +kernel
theorem smd_S_init_67 : decode prog_1_method_1_code 67 = .ok (.bipush 6, 2) := by decide +kernel
theorem smd_S_init_69 : decode prog_1_method_1_code 69 = .ok (.if_icmp .ge 22, 3) := by decide +kernel
theorem smd_S_init_72 : decode prog_1_method_1_code 72 = .ok (.aload_n 0, 1) := by decide +kernel
theorem smd_S_init_73 : decode prog_1_method_1_code 73 = .ok (.getfield 39, 3) := by decide +kernel
theorem smd_S_init_76 : decode prog_1_method_1_code 76 = .ok (.iload_n 1, 1) := by decide +kernel
theorem smd_S_init_77 : decode prog_1_method_1_code 77 = .ok (.new 37, 3) := by decide +kernel
theorem smd_S_init_80 : decode prog_1_method_1_code 80 = .ok (.dup, 1) := by decide +kernel
theorem smd_S_init_81 : decode prog_1_method_1_code 81 = .ok (.invokespecial 43, 3) := by decide +kernel
theorem smd_S_init_84 : decode prog_1_method_1_code 84 = .ok (.aastore, 1) := by decide +kernel
theorem smd_S_init_85 : decode prog_1_method_1_code 85 = .ok (.iinc 1 1, 3) := by decide +kernel
theorem smd_S_init_88 : decode prog_1_method_1_code 88 = .ok (.goto (-22), 3) := by decide +kernel
theorem smd_S_init_91 : decode prog_1_method_1_code 91 = .ok (.return_, 1) := by decide +kernel
theorem smd_S_word_0 : decode prog_1_method_2_code 0 = .ok (.iload_n 1, 1) := by decide +kernel
theorem smd_S_word_1 : decode prog_1_method_2_code 1 = .ok (.bipush 6, 2) := by decide +kernel
theorem smd_S_word_3 : decode prog_1_method_2_code 3 = .ok (.invokestatic 44, 3) := by decide +kernel
theorem smd_S_word_6 : decode prog_1_method_2_code 6 = .ok (.ifCond .eq 26, 3) := by decide +kernel
theorem smd_S_word_9 : decode prog_1_method_2_code 9 = .ok (.iload_n 2, 1) := by decide +kernel
theorem smd_S_word_10 : decode prog_1_method_2_code 10 = .ok (.ifCond .lt 22, 3) := by decide +kernel
theorem smd_S_word_13 : decode prog_1_method_2_code 13 = .ok (.iload_n 2, 1) := by decide +kernel
theorem smd_S_word_14 : decode prog_1_method_2_code 14 = .ok (.aload_n 0, 1) := by decide +kernel
theorem smd_S_word_15 : decode prog_1_method_2_code 15 = .ok (.getfield 16, 3) := by decide +kernel
theorem smd_S_word_18 : decode prog_1_method_2_code 18 = .ok (.getfield 48, 3) := by decide +kernel
theorem smd_S_word_21 : decode prog_1_method_2_code 21 = .ok (.iload_n 1, 1) := by decide +kernel
theorem smd_S_word_22 : decode prog_1_method_2_code 22 = .ok (.iaload, 1) := by decide +kernel
theorem smd_S_word_23 : decode prog_1_method_2_code 23 = .ok (.if_icmp .gt 9, 3) := by decide +kernel
theorem smd_S_word_26 : decode prog_1_method_2_code 26 = .ok (.iload_n 2, 1) := by decide +kernel
theorem smd_S_word_27 : decode prog_1_method_2_code 27 = .ok (.bipush 12, 2) := by decide +kernel
theorem smd_S_word_29 : decode prog_1_method_2_code 29 = .ok (.if_icmp .ne 5, 3) := by decide +kernel
theorem smd_S_word_32 : decode prog_1_method_2_code 32 = .ok (.iconst (-1), 1) := by decide +kernel
theorem smd_S_word_33 : decode prog_1_method_2_code 33 = .ok (.ireturn, 1) := by decide +kernel
theorem smd_S_word_34 : decode prog_1_method_2_code 34 = .ok (.aload_n 0, 1) := by decide +kernel
theorem smd_S_word_35 : decode prog_1_method_2_code 35 = .ok (.getfield 51, 3) := by decide +kernel
theorem smd_S_word_38 : decode prog_1_method_2_code 38 = .ok (.ifCond .eq 6, 3) := by decide +kernel
theorem smd_S_word_41 : decode prog_1_method_2_code 41 = .ok (.bipush (-2), 2) := by decide +kernel
theorem smd_S_word_43 : decode prog_1_method_2_code 43 = .ok (.ireturn, 1) := by decide +kernel
theorem smd_S_word_44 : decode prog_1_method_2_code 44 = .ok (.aload_n 0, 1) := by decide +kernel
theorem smd_S_word_45 : decode prog_1_method_2_code 45 = .ok (.getfield 16, 3) := by decide +kernel
theorem smd_S_word_48 : decode prog_1_method_2_code 48 = .ok (.iload_n 1, 1) := by decide +kernel
theorem smd_S_word_49 : decode prog_1_method_2_code 49 = .ok (.iload_n 2, 1) := by decide +kernel
theorem smd_S_word_50 : decode prog_1_method_2_code 50 = .ok (.iload_n 3, 1) := by decide +kernel
theorem smd_S_word_51 : decode prog_1_method_2_code 51 = .ok (.iload 4, 2) := by decide +kernel
theorem smd_S_word_53 : decode prog_1_method_2_code 53 = .ok (.iload 5, 2) := by decide +kernel
theorem smd_S_word_55 : decode prog_1_method_2_code 55 = .ok (.iload 6, 2) := by decide +kernel
theorem smd_S_word_57 : decode prog_1_method_2_code 57 = .ok (.invokevirtual 55, 3) := by decide +kernel
theorem smd_S_word_60 : decode prog_1_method_2_code 60 = .ok (.aload_n 0, 1) := by decide +kernel
theorem smd_S_word_61 : decode prog_1_method_2_code 61 = .ok (.getfield 16, 3) := by decide +kernel
theorem smd_S_word_64 : decode prog_1_method_2_code 64 = .ok (.getfield 48, 3) := by decide +kernel
theorem smd_S_word_67 : decode prog_1_method_2_code 67 = .ok (.iload_n 1, 1) := by decide +kernel
theorem smd_S_word_68 : decode prog_1_method_2_code 68 = .ok (.iaload, 1) := by decide +kernel
theorem smd_S_word_69 : decode prog_1_method_2_code 69 = .ok (.ireturn, 1) := by decide +kernel
theorem smd_S_cut_0 : decode prog_1_method_3_code 0 = .ok (.iload_n 1, 1) := by decide +kernel
theorem smd_S_cut_1 : decode prog_1_method_3_code 1 = .ok (.bipush 6, 2) := by decide +kernel
theorem smd_S_cut_3 : decode prog_1_method_3_code 3 = .ok (.invokestatic 44, 3) := by decide +kernel
theorem smd_S_cut_6 : decode prog_1_method_3_code 6 = .ok (.ifCond .eq 27, 3) := by decide +kernel
theorem smd_S_cut_9 : decode prog_1_method_3_code 9 = .ok (.iload_n 2, 1) := by decide +kernel
theorem smd_S_cut_10 : decode prog_1_method_3_code 10 = .ok (.ifCond .lt 23, 3) := by decide +kernel
theorem smd_S_cut_13 : decode prog_1_method_3_code 13 = .ok (.iload_n 2, 1) := by decide +kernel
theorem smd_S_cut_14 : decode prog_1_method_3_code 14 = .ok (.aload_n 0, 1) := by decide +kernel
theorem smd_S_cut_15 : decode prog_1_method_3_code 15 = .ok (.getfield 16, 3) := by decide +kernel
theorem smd_S_cut_18 : decode prog_1_method_3_code 18 = .ok (.getfield 48, 3) := by decide +kernel
theorem smd_S_cut_21 : decode prog_1_method_3_code 21 = .ok (.iload_n 1, 1) := by decide +kernel
theorem smd_S_cut_22 : decode prog_1_method_3_code 22 = .ok (.iaload, 1) := by decide +kernel
theorem smd_S_cut_23 : decode prog_1_method_3_code 23 = .ok (.if_icmp .gt 10, 3) := by decide +kernel
theorem smd_S_cut_26 : decode prog_1_method_3_code 26 = .ok (.aload_n 0, 1) := by decide +kernel
theorem smd_S_cut_27 : decode prog_1_method_3_code 27 = .ok (.getfield 51, 3) := by decide +kernel
theorem smd_S_cut_30 : decode prog_1_method_3_code 30 = .ok (.ifCond .eq 5, 3) := by decide +kernel
theorem smd_S_cut_33 : decode prog_1_method_3_code 33 = .ok (.iconst 0, 1) := by decide +kernel
theorem smd_S_cut_34 : decode prog_1_method_3_code 34 = .ok (.ireturn, 1) := by decide +kernel
theorem smd_S_cut_35 : decode prog_1_method_3_code 35 = .ok (.aload_n 0, 1) := by decide +kernel
theorem smd_S_cut_36 : decode prog_1_method_3_code 36 = .ok (.getfield 16, 3) := by decide +kernel
theorem smd_S_cut_39 : decode prog_1_method_3_code 39 = .ok (.getfield 48, 3) := by decide +kernel
theorem smd_S_cut_42 : decode prog_1_method_3_code 42 = .ok (.iload_n 1, 1) := by decide +kernel
theorem smd_S_cut_43 : decode prog_1_method_3_code 43 = .ok (.iload_n 2, 1) := by decide +kernel
theorem smd_S_cut_44 : decode prog_1_method_3_code 44 = .ok (.iastore, 1) := by decide +kernel
theorem smd_S_cut_45 : decode prog_1_method_3_code 45 = .ok (.iconst 1, 1) := by decide +kernel
theorem smd_S_cut_46 : decode prog_1_method_3_code 46 = .ok (.ireturn, 1) := by decide +kernel
theorem smd_S_fields_0 : decode prog_1_method_4_code 0 = .ok (.iload_n 1, 1) := by decide +kernel
theorem smd_S_fields_1 : decode prog_1_method_4_code 1 = .ok (.iconst 3, 1) := by decide +kernel
theorem smd_S_fields_2 : decode prog_1_method_4_code 2 = .ok (.invokestatic 44, 3) := by decide +kernel
theorem smd_S_fields_5 : decode prog_1_method_4_code 5 = .ok (.ifCond .eq 19, 3) := by decide +kernel
theorem smd_S_fields_8 : decode prog_1_method_4_code 8 = .ok (.iload_n 2, 1) := by decide +kernel
theorem smd_S_fields_9 : decode prog_1_method_4_code 9 = .ok (.ifCond .lt 15, 3) := by decide +kernel
theorem smd_S_fields_12 : decode prog_1_method_4_code 12 = .ok (.iload_n 2, 1) := by decide +kernel
theorem smd_S_fields_13 : decode prog_1_method_4_code 13 = .ok (.iconst 4, 1) := by decide +kernel
theorem smd_S_fields_14 : decode prog_1_method_4_code 14 = .ok (.if_icmp .gt 10, 3) := by decide +kernel
theorem smd_S_fields_17 : decode prog_1_method_4_code 17 = .ok (.aload_n 0, 1) := by decide +kernel
theorem smd_S_fields_18 : decode prog_1_method_4_code 18 = .ok (.getfield 51, 3) := by decide +kernel
theorem smd_S_fields_21 : decode prog_1_method_4_code 21 = .ok (.ifCond .eq 5, 3) := by decide +kernel
theorem smd_S_fields_24 : decode prog_1_method_4_code 24 = .ok (.iconst 0, 1) := by decide +kernel
theorem smd_S_fields_25 : decode prog_1_method_4_code 25 = .ok (.ireturn, 1) := by decide +kernel
theorem smd_S_fields_26 : decode prog_1_method_4_code 26 = .ok (.aload_n 0, 1) := by decide +kernel
theorem smd_S_fields_27 : decode prog_1_method_4_code 27 = .ok (.getfield 16, 3) := by decide +kernel
theorem smd_S_fields_30 : decode prog_1_method_4_code 30 = .ok (.getfield 59, 3) := by decide +kernel
theorem smd_S_fields_33 : decode prog_1_method_4_code 33 = .ok (.iload_n 1, 1) := by decide +kernel
theorem smd_S_fields_34 : decode prog_1_method_4_code 34 = .ok (.iload_n 2, 1) := by decide +kernel
theorem smd_S_fields_35 : decode prog_1_method_4_code 35 = .ok (.iastore, 1) := by decide +kernel
theorem smd_S_fields_36 : decode prog_1_method_4_code 36 = .ok (.aload_n 0, 1) := by decide +kernel
theorem smd_S_fields_37 : decode prog_1_method_4_code 37 = .ok (.getfield 22, 3) := by decide +kernel
theorem smd_S_fields_40 : decode prog_1_method_4_code 40 = .ok (.iload_n 1, 1) := by decide +kernel
theorem smd_S_fields_41 : decode prog_1_method_4_code 41 = .ok (.invokevirtual 62, 3) := by decide +kernel
theorem smd_S_fields_44 : decode prog_1_method_4_code 44 = .ok (.aload_n 0, 1) := by decide +kernel
theorem smd_S_fields_45 : decode prog_1_method_4_code 45 = .ok (.getfield 22, 3) := by decide +kernel
theorem smd_S_fields_48 : decode prog_1_method_4_code 48 = .ok (.getfield 66, 3) := by decide +kernel
theorem smd_S_fields_51 : decode prog_1_method_4_code 51 = .ok (.iload_n 1, 1) := by decide +kernel
theorem smd_S_fields_52 : decode prog_1_method_4_code 52 = .ok (.iconst 1, 1) := by decide +kernel
theorem smd_S_fields_53 : decode prog_1_method_4_code 53 = .ok (.bastore, 1) := by decide +kernel
theorem smd_S_fields_54 : decode prog_1_method_4_code 54 = .ok (.iconst 1, 1) := by decide +kernel
theorem smd_S_fields_55 : decode prog_1_method_4_code 55 = .ok (.ireturn, 1) := by decide +kernel
theorem smd_S_rule_0 : decode prog_1_method_5_code 0 = .ok (.iload_n 1, 1) := by decide +kernel
theorem smd_S_rule_1 : decode prog_1_method_5_code 1 = .ok (.iconst 3, 1) := by decide +kernel
theorem smd_S_rule_2 : decode prog_1_method_5_code 2 = .ok (.invokestatic 44, 3) := by decide +kernel
theorem smd_S_rule_5 : decode prog_1_method_5_code 5 = .ok (.ifCond .eq 19, 3) := by decide +kernel
theorem smd_S_rule_8 : decode prog_1_method_5_code 8 = .ok (.iload_n 2, 1) := by decide +kernel
theorem smd_S_rule_9 : decode prog_1_method_5_code 9 = .ok (.aload_n 0, 1) := by decide +kernel
theorem smd_S_rule_10 : decode prog_1_method_5_code 10 = .ok (.getfield 16, 3) := by decide +kernel
theorem smd_S_rule_13 : decode prog_1_method_5_code 13 = .ok (.getfield 59, 3) := by decide +kernel
theorem smd_S_rule_16 : decode prog_1_method_5_code 16 = .ok (.iload_n 1, 1) := by decide +kernel
theorem smd_S_rule_17 : decode prog_1_method_5_code 17 = .ok (.iaload, 1) := by decide +kernel
theorem smd_S_rule_18 : decode prog_1_method_5_code 18 = .ok (.invokestatic 44, 3) := by decide +kernel
theorem smd_S_rule_21 : decode prog_1_method_5_code 21 = .ok (.ifCond .ne 5, 3) := by decide +kernel
theorem smd_S_rule_24 : decode prog_1_method_5_code 24 = .ok (.iconst (-1), 1) := by decide +kernel
theorem smd_S_rule_25 : decode prog_1_method_5_code 25 = .ok (.ireturn, 1) := by decide +kernel
theorem smd_S_rule_26 : decode prog_1_method_5_code 26 = .ok (.iload_n 3, 1) := by decide +kernel
theorem smd_S_rule_27 : decode prog_1_method_5_code 27 = .ok (.ifCond .lt 17, 3) := by decide +kernel
theorem smd_S_rule_30 : decode prog_1_method_5_code 30 = .ok (.iload_n 3, 1) := by decide +kernel
theorem smd_S_rule_31 : decode prog_1_method_5_code 31 = .ok (.iconst 2, 1) := by decide +kernel
theorem smd_S_rule_32 : decode prog_1_method_5_code 32 = .ok (.if_icmp .gt 12, 3) := by decide +kernel
theorem smd_S_rule_35 : decode prog_1_method_5_code 35 = .ok (.iload 4, 2) := by decide +kernel
theorem smd_S_rule_37 : decode prog_1_method_5_code 37 = .ok (.iconst 4, 1) := by decide +kernel
theorem smd_S_rule_38 : decode prog_1_method_5_code 38 = .ok (.invokestatic 44, 3) := by decide +kernel
theorem smd_S_rule_41 : decode prog_1_method_5_code 41 = .ok (.ifCond .ne 5, 3) := by decide +kernel
theorem smd_S_rule_44 : decode prog_1_method_5_code 44 = .ok (.iconst (-1), 1) := by decide +kernel
theorem smd_S_rule_45 : decode prog_1_method_5_code 45 = .ok (.ireturn, 1) := by decide +kernel
theorem smd_S_rule_46 : decode prog_1_method_5_code 46 = .ok (.aload_n 0, 1) := by decide +kernel
theorem smd_S_rule_47 : decode prog_1_method_5_code 47 = .ok (.getfield 51, 3) := by decide +kernel
theorem smd_S_rule_50 : decode prog_1_method_5_code 50 = .ok (.ifCond .eq 6, 3) := by decide +kernel
theorem smd_S_rule_53 : decode prog_1_method_5_code 53 = .ok (.bipush (-2), 2) := by decide +kernel
theorem smd_S_rule_55 : decode prog_1_method_5_code 55 = .ok (.ireturn, 1) := by decide +kernel
theorem smd_S_rule_56 : decode prog_1_method_5_code 56 = .ok (.aload_n 0, 1) := by decide +kernel
theorem smd_S_rule_57 : decode prog_1_method_5_code 57 = .ok (.getfield 22, 3) := by decide +kernel
theorem smd_S_rule_60 : decode prog_1_method_5_code 60 = .ok (.iload_n 1, 1) := by decide +kernel
theorem smd_S_rule_61 : decode prog_1_method_5_code 61 = .ok (.iload_n 2, 1) := by decide +kernel
theorem smd_S_rule_62 : decode prog_1_method_5_code 62 = .ok (.iload_n 3, 1) := by decide +kernel
theorem smd_S_rule_63 : decode prog_1_method_5_code 63 = .ok (.iload 4, 2) := by decide +kernel
theorem smd_S_rule_65 : decode prog_1_method_5_code 65 = .ok (.iload 5, 2) := by decide +kernel
theorem smd_S_rule_67 : decode prog_1_method_5_code 67 = .ok (.invokevirtual 70, 3) := by decide +kernel
theorem smd_S_rule_70 : decode prog_1_method_5_code 70 = .ok (.aload_n 0, 1) := by decide +kernel
theorem smd_S_rule_71 : decode prog_1_method_5_code 71 = .ok (.getfield 22, 3) := by decide +kernel
theorem smd_S_rule_74 : decode prog_1_method_5_code 74 = .ok (.getfield 66, 3) := by decide +kernel
theorem smd_S_rule_77 : decode prog_1_method_5_code 77 = .ok (.iload_n 1, 1) := by decide +kernel
theorem smd_S_rule_78 : decode prog_1_method_5_code 78 = .ok (.iconst 1, 1) := by decide +kernel
theorem smd_S_rule_79 : decode prog_1_method_5_code 79 = .ok (.bastore, 1) := by decide +kernel
theorem smd_S_rule_80 : decode prog_1_method_5_code 80 = .ok (.iconst 0, 1) := by decide +kernel
theorem smd_S_rule_81 : decode prog_1_method_5_code 81 = .ok (.ireturn, 1) := by decide +kernel
theorem smd_S_reset_0 : decode prog_1_method_6_code 0 = .ok (.aload_n 0, 1) := by decide +kernel
theorem smd_S_reset_1 : decode prog_1_method_6_code 1 = .ok (.getfield 51, 3) := by decide +kernel
theorem smd_S_reset_4 : decode prog_1_method_6_code 4 = .ok (.ifCond .eq 5, 3) := by decide +kernel
theorem smd_S_reset_7 : decode prog_1_method_6_code 7 = .ok (.iconst 0, 1) := by decide +kernel
theorem smd_S_reset_8 : decode prog_1_method_6_code 8 = .ok (.ireturn, 1) := by decide +kernel
theorem smd_S_reset_9 : decode prog_1_method_6_code 9 = .ok (.aload_n 0, 1) := by decide +kernel
theorem smd_S_reset_10 : decode prog_1_method_6_code 10 = .ok (.getfield 16, 3) := by decide +kernel
theorem smd_S_reset_13 : decode prog_1_method_6_code 13 = .ok (.aload_n 0, 1) := by decide +kernel
theorem smd_S_reset_14 : decode prog_1_method_6_code 14 = .ok (.getfield 10, 3) := by decide +kernel
theorem smd_S_reset_17 : decode prog_1_method_6_code 17 = .ok (.invokevirtual 73, 3) := by decide +kernel
theorem smd_S_reset_20 : decode prog_1_method_6_code 20 = .ok (.aload_n 0, 1) := by decide +kernel
theorem smd_S_reset_21 : decode prog_1_method_6_code 21 = .ok (.getfield 22, 3) := by decide +kernel
theorem smd_S_reset_24 : decode prog_1_method_6_code 24 = .ok (.invokevirtual 77, 3) := by decide +kernel
theorem smd_S_reset_27 : decode prog_1_method_6_code 27 = .ok (.iconst 1, 1) := by decide +kernel
theorem smd_S_reset_28 : decode prog_1_method_6_code 28 = .ok (.ireturn, 1) := by decide +kernel
theorem smd_S_stage_0 : decode prog_1_method_7_code 0 = .ok (.aload_n 0, 1) := by decide +kernel
theorem smd_S_stage_1 : decode prog_1_method_7_code 1 = .ok (.getfield 51, 3) := by decide +kernel
theorem smd_S_stage_4 : decode prog_1_method_7_code 4 = .ok (.ifCond .eq 6, 3) := by decide +kernel
theorem smd_S_stage_7 : decode prog_1_method_7_code 7 = .ok (.bipush (-2), 2) := by decide +kernel
theorem smd_S_stage_9 : decode prog_1_method_7_code 9 = .ok (.ireturn, 1) := by decide +kernel
theorem smd_S_stage_10 : decode prog_1_method_7_code 10 = .ok (.aload_n 0, 1) := by decide +kernel
theorem smd_S_stage_11 : decode prog_1_method_7_code 11 = .ok (.getfield 16, 3) := by decide +kernel
theorem smd_S_stage_14 : decode prog_1_method_7_code 14 = .ok (.invokevirtual 80, 3) := by decide +kernel
theorem smd_S_stage_17 : decode prog_1_method_7_code 17 = .ok (.istore_n 1, 1) := by decide +kernel
theorem smd_S_stage_18 : decode prog_1_method_7_code 18 = .ok (.iload_n 1, 1) := by decide +kernel
theorem smd_S_stage_19 : decode prog_1_method_7_code 19 = .ok (.iconst (-1), 1) := by decide +kernel
theorem smd_S_stage_20 : decode prog_1_method_7_code 20 = .ok (.if_icmp .eq 8, 3) := by decide +kernel
theorem smd_S_stage_23 : decode prog_1_method_7_code 23 = .ok (.bipush (-100), 2) := by decide +kernel
theorem smd_S_stage_25 : decode prog_1_method_7_code 25 = .ok (.iload_n 1, 1) := by decide +kernel
theorem smd_S_stage_26 : decode prog_1_method_7_code 26 = .ok (.isub, 1) := by decide +kernel
theorem smd_S_stage_27 : decode prog_1_method_7_code 27 = .ok (.ireturn, 1) := by decide +kernel
theorem smd_S_stage_28 : decode prog_1_method_7_code 28 = .ok (.aload_n 0, 1) := by decide +kernel
theorem smd_S_stage_29 : decode prog_1_method_7_code 29 = .ok (.getfield 22, 3) := by decide +kernel
theorem smd_S_stage_32 : decode prog_1_method_7_code 32 = .ok (.aload_n 0, 1) := by decide +kernel
theorem smd_S_stage_33 : decode prog_1_method_7_code 33 = .ok (.getfield 10, 3) := by decide +kernel
theorem smd_S_stage_36 : decode prog_1_method_7_code 36 = .ok (.aload_n 0, 1) := by decide +kernel
theorem smd_S_stage_37 : decode prog_1_method_7_code 37 = .ok (.getfield 16, 3) := by decide +kernel
theorem smd_S_stage_40 : decode prog_1_method_7_code 40 = .ok (.invokevirtual 84, 3) := by decide +kernel
theorem smd_S_stage_43 : decode prog_1_method_7_code 43 = .ok (.istore_n 2, 1) := by decide +kernel
theorem smd_S_stage_44 : decode prog_1_method_7_code 44 = .ok (.iload_n 2, 1) := by decide +kernel
theorem smd_S_stage_45 : decode prog_1_method_7_code 45 = .ok (.iconst (-1), 1) := by decide +kernel
theorem smd_S_stage_46 : decode prog_1_method_7_code 46 = .ok (.if_icmp .eq 9, 3) := by decide +kernel
theorem smd_S_stage_49 : decode prog_1_method_7_code 49 = .ok (.sipush (-200), 3) := by decide +kernel
theorem smd_S_stage_52 : decode prog_1_method_7_code 52 = .ok (.iload_n 2, 1) := by decide +kernel
theorem smd_S_stage_53 : decode prog_1_method_7_code 53 = .ok (.isub, 1) := by decide +kernel
theorem smd_S_stage_54 : decode prog_1_method_7_code 54 = .ok (.ireturn, 1) := by decide +kernel
theorem smd_S_stage_55 : decode prog_1_method_7_code 55 = .ok (.aload_n 0, 1) := by decide +kernel
theorem smd_S_stage_56 : decode prog_1_method_7_code 56 = .ok (.iconst 1, 1) := by decide +kernel
theorem smd_S_stage_57 : decode prog_1_method_7_code 57 = .ok (.putfield 51, 3) := by decide +kernel
theorem smd_S_stage_60 : decode prog_1_method_7_code 60 = .ok (.iconst 0, 1) := by decide +kernel
theorem smd_S_stage_61 : decode prog_1_method_7_code 61 = .ok (.ireturn, 1) := by decide +kernel
theorem smd_S_withdraw_0 : decode prog_1_method_8_code 0 = .ok (.aload_n 0, 1) := by decide +kernel
theorem smd_S_withdraw_1 : decode prog_1_method_8_code 1 = .ok (.getfield 51, 3) := by decide +kernel
theorem smd_S_withdraw_4 : decode prog_1_method_8_code 4 = .ok (.istore_n 1, 1) := by decide +kernel
theorem smd_S_withdraw_5 : decode prog_1_method_8_code 5 = .ok (.aload_n 0, 1) := by decide +kernel
theorem smd_S_withdraw_6 : decode prog_1_method_8_code 6 = .ok (.iconst 0, 1) := by decide +kernel
theorem smd_S_withdraw_7 : decode prog_1_method_8_code 7 = .ok (.putfield 51, 3) := by decide +kernel
theorem smd_S_withdraw_10 : decode prog_1_method_8_code 10 = .ok (.iload_n 1, 1) := by decide +kernel
theorem smd_S_withdraw_11 : decode prog_1_method_8_code 11 = .ok (.ireturn, 1) := by decide +kernel
theorem smd_S_changed_0 : decode prog_1_method_9_code 0 = .ok (.aload_n 0, 1) := by decide +kernel
theorem smd_S_changed_1 : decode prog_1_method_9_code 1 = .ok (.getfield 51, 3) := by decide +kernel
theorem smd_S_changed_4 : decode prog_1_method_9_code 4 = .ok (.ifCond .eq 24, 3) := by decide +kernel
theorem smd_S_changed_7 : decode prog_1_method_9_code 7 = .ok (.iload_n 1, 1) := by decide +kernel
theorem smd_S_changed_8 : decode prog_1_method_9_code 8 = .ok (.bipush 6, 2) := by decide +kernel
theorem smd_S_changed_10 : decode prog_1_method_9_code 10 = .ok (.invokestatic 44, 3) := by decide +kernel
theorem smd_S_changed_13 : decode prog_1_method_9_code 13 = .ok (.ifCond .eq 15, 3) := by decide +kernel
theorem smd_S_changed_16 : decode prog_1_method_9_code 16 = .ok (.aload_n 0, 1) := by decide +kernel
theorem smd_S_changed_17 : decode prog_1_method_9_code 17 = .ok (.iload_n 1, 1) := by decide +kernel
theorem smd_S_changed_18 : decode prog_1_method_9_code 18 = .ok (.invokevirtual 88, 3) := by decide +kernel
theorem smd_S_changed_21 : decode prog_1_method_9_code 21 = .ok (.ifCond .eq 7, 3) := by decide +kernel
theorem smd_S_changed_24 : decode prog_1_method_9_code 24 = .ok (.iconst 1, 1) := by decide +kernel
theorem smd_S_changed_25 : decode prog_1_method_9_code 25 = .ok (.goto 4, 3) := by decide +kernel
theorem smd_S_changed_28 : decode prog_1_method_9_code 28 = .ok (.iconst 0, 1) := by decide +kernel
theorem smd_S_changed_29 : decode prog_1_method_9_code 29 = .ok (.ireturn, 1) := by decide +kernel
theorem smd_S_blocker_0 : decode prog_1_method_10_code 0 = .ok (.aload_n 0, 1) := by decide +kernel
theorem smd_S_blocker_1 : decode prog_1_method_10_code 1 = .ok (.getfield 51, 3) := by decide +kernel
theorem smd_S_blocker_4 : decode prog_1_method_10_code 4 = .ok (.ifCond .eq 11, 3) := by decide +kernel
theorem smd_S_blocker_7 : decode prog_1_method_10_code 7 = .ok (.aload_n 0, 1) := by decide +kernel
theorem smd_S_blocker_8 : decode prog_1_method_10_code 8 = .ok (.iload_n 1, 1) := by decide +kernel
theorem smd_S_blocker_9 : decode prog_1_method_10_code 9 = .ok (.invokevirtual 92, 3) := by decide +kernel
theorem smd_S_blocker_12 : decode prog_1_method_10_code 12 = .ok (.goto 4, 3) := by decide +kernel
theorem smd_S_blocker_15 : decode prog_1_method_10_code 15 = .ok (.iconst 0, 1) := by decide +kernel
theorem smd_S_blocker_16 : decode prog_1_method_10_code 16 = .ok (.ireturn, 1) := by decide +kernel
theorem smd_S_attempt_0 : decode prog_1_method_11_code 0 = .ok (.iload_n 1, 1) := by decide +kernel
theorem smd_S_attempt_1 : decode prog_1_method_11_code 1 = .ok (.ifCond .ge 5, 3) := by decide +kernel
theorem smd_S_attempt_4 : decode prog_1_method_11_code 4 = .ok (.iconst (-1), 1) := by decide +kernel
theorem smd_S_attempt_5 : decode prog_1_method_11_code 5 = .ok (.ireturn, 1) := by decide +kernel
theorem smd_S_attempt_6 : decode prog_1_method_11_code 6 = .ok (.aload_n 0, 1) := by decide +kernel
theorem smd_S_attempt_7 : decode prog_1_method_11_code 7 = .ok (.getfield 51, 3) := by decide +kernel
theorem smd_S_attempt_10 : decode prog_1_method_11_code 10 = .ok (.ifCond .ne 5, 3) := by decide +kernel
theorem smd_S_attempt_13 : decode prog_1_method_11_code 13 = .ok (.iconst 3, 1) := by decide +kernel
theorem smd_S_attempt_14 : decode prog_1_method_11_code 14 = .ok (.ireturn, 1) := by decide +kernel
theorem smd_S_attempt_15 : decode prog_1_method_11_code 15 = .ok (.aload_n 0, 1) := by decide +kernel
theorem smd_S_attempt_16 : decode prog_1_method_11_code 16 = .ok (.iconst 1, 1) := by decide +kernel
theorem smd_S_attempt_17 : decode prog_1_method_11_code 17 = .ok (.invokevirtual 92, 3) := by decide +kernel
theorem smd_S_attempt_20 : decode prog_1_method_11_code 20 = .ok (.ifCond .eq 5, 3) := by decide +kernel
theorem smd_S_attempt_23 : decode prog_1_method_11_code 23 = .ok (.iconst 0, 1) := by decide +kernel
theorem smd_S_attempt_24 : decode prog_1_method_11_code 24 = .ok (.ireturn, 1) := by decide +kernel
theorem smd_S_attempt_25 : decode prog_1_method_11_code 25 = .ok (.aload_n 0, 1) := by decide +kernel
theorem smd_S_attempt_26 : decode prog_1_method_11_code 26 = .ok (.invokevirtual 96, 3) := by decide +kernel
theorem smd_S_attempt_29 : decode prog_1_method_11_code 29 = .ok (.pop, 1) := by decide +kernel
theorem smd_S_attempt_30 : decode prog_1_method_11_code 30 = .ok (.aload_n 0, 1) := by decide +kernel
theorem smd_S_attempt_31 : decode prog_1_method_11_code 31 = .ok (.getfield 29, 3) := by decide +kernel
theorem smd_S_attempt_34 : decode prog_1_method_11_code 34 = .ok (.aload_n 0, 1) := by decide +kernel
theorem smd_S_attempt_35 : decode prog_1_method_11_code 35 = .ok (.getfield 22, 3) := by decide +kernel
theorem smd_S_attempt_38 : decode prog_1_method_11_code 38 = .ok (.aload_n 0, 1) := by decide +kernel
theorem smd_S_attempt_39 : decode prog_1_method_11_code 39 = .ok (.getfield 16, 3) := by decide +kernel
theorem smd_S_attempt_42 : decode prog_1_method_11_code 42 = .ok (.iload_n 1, 1) := by decide +kernel
theorem smd_S_attempt_43 : decode prog_1_method_11_code 43 = .ok (.invokevirtual 99, 3) := by decide +kernel
theorem smd_S_attempt_46 : decode prog_1_method_11_code 46 = .ok (.ifCond .ne 5, 3) := by decide +kernel
theorem smd_S_attempt_49 : decode prog_1_method_11_code 49 = .ok (.iconst 2, 1) := by decide +kernel
theorem smd_S_attempt_50 : decode prog_1_method_11_code 50 = .ok (.ireturn, 1) := by decide +kernel
theorem smd_S_attempt_51 : decode prog_1_method_11_code 51 = .ok (.aload_n 0, 1) := by decide +kernel
theorem smd_S_attempt_52 : decode prog_1_method_11_code 52 = .ok (.invokevirtual 103, 3) := by decide +kernel
theorem smd_S_attempt_55 : decode prog_1_method_11_code 55 = .ok (.iconst 1, 1) := by decide +kernel
theorem smd_S_attempt_56 : decode prog_1_method_11_code 56 = .ok (.ireturn, 1) := by decide +kernel
theorem smd_S_version_0 : decode prog_1_method_12_code 0 = .ok (.aload_n 0, 1) := by decide +kernel
theorem smd_S_version_1 : decode prog_1_method_12_code 1 = .ok (.getfield 106, 3) := by decide +kernel
theorem smd_S_version_4 : decode prog_1_method_12_code 4 = .ok (.ireturn, 1) := by decide +kernel
theorem smd_S_spawn_0 : decode prog_1_method_13_code 0 = .ok (.aload_n 0, 1) := by decide +kernel
theorem smd_S_spawn_1 : decode prog_1_method_13_code 1 = .ok (.getfield 10, 3) := by decide +kernel
theorem smd_S_spawn_4 : decode prog_1_method_13_code 4 = .ok (.iload_n 1, 1) := by decide +kernel
theorem smd_S_spawn_5 : decode prog_1_method_13_code 5 = .ok (.invokevirtual 110, 3) := by decide +kernel
theorem smd_S_spawn_8 : decode prog_1_method_13_code 8 = .ok (.ifCond .ne 5, 3) := by decide +kernel
theorem smd_S_spawn_11 : decode prog_1_method_13_code 11 = .ok (.iconst (-1), 1) := by decide +kernel
theorem smd_S_spawn_12 : decode prog_1_method_13_code 12 = .ok (.ireturn, 1) := by decide +kernel
theorem smd_S_spawn_13 : decode prog_1_method_13_code 13 = .ok (.aload_n 0, 1) := by decide +kernel
theorem smd_S_spawn_14 : decode prog_1_method_13_code 14 = .ok (.getfield 113, 3) := by decide +kernel
theorem smd_S_spawn_17 : decode prog_1_method_13_code 17 = .ok (.bipush 6, 2) := by decide +kernel
theorem smd_S_spawn_19 : decode prog_1_method_13_code 19 = .ok (.if_icmp .lt 6, 3) := by decide +kernel
theorem smd_S_spawn_22 : decode prog_1_method_13_code 22 = .ok (.bipush (-3), 2) := by decide +kernel
theorem smd_S_spawn_24 : decode prog_1_method_13_code 24 = .ok (.ireturn, 1) := by decide +kernel
theorem smd_S_spawn_25 : decode prog_1_method_13_code 25 = .ok (.aload_n 0, 1) := by decide +kernel
theorem smd_S_spawn_26 : decode prog_1_method_13_code 26 = .ok (.getfield 39, 3) := by decide +kernel
theorem smd_S_spawn_29 : decode prog_1_method_13_code 29 = .ok (.aload_n 0, 1) := by decide +kernel
theorem smd_S_spawn_30 : decode prog_1_method_13_code 30 = .ok (.getfield 113, 3) := by decide +kernel
theorem smd_S_spawn_33 : decode prog_1_method_13_code 33 = .ok (.aaload, 1) := by decide +kernel
theorem smd_S_spawn_34 : decode prog_1_method_13_code 34 = .ok (.iload_n 1, 1) := by decide +kernel
theorem smd_S_spawn_35 : decode prog_1_method_13_code 35 = .ok (.iload_n 2, 1) := by decide +kernel
theorem smd_S_spawn_36 : decode prog_1_method_13_code 36 = .ok (.iconst 0, 1) := by decide +kernel
theorem smd_S_spawn_37 : decode prog_1_method_13_code 37 = .ok (.invokevirtual 116, 3) := by decide +kernel
theorem smd_S_spawn_40 : decode prog_1_method_13_code 40 = .ok (.aload_n 0, 1) := by decide +kernel
theorem smd_S_spawn_41 : decode prog_1_method_13_code 41 = .ok (.dup, 1) := by decide +kernel
theorem smd_S_spawn_42 : decode prog_1_method_13_code 42 = .ok (.getfield 113, 3) := by decide +kernel
theorem smd_S_spawn_45 : decode prog_1_method_13_code 45 = .ok (.iconst 1, 1) := by decide +kernel
theorem smd_S_spawn_46 : decode prog_1_method_13_code 46 = .ok (.iadd, 1) := by decide +kernel
theorem smd_S_spawn_47 : decode prog_1_method_13_code 47 = .ok (.putfield 113, 3) := by decide +kernel
theorem smd_S_spawn_50 : decode prog_1_method_13_code 50 = .ok (.aload_n 0, 1) := by decide +kernel
theorem smd_S_spawn_51 : decode prog_1_method_13_code 51 = .ok (.getfield 113, 3) := by decide +kernel
theorem smd_S_spawn_54 : decode prog_1_method_13_code 54 = .ok (.ireturn, 1) := by decide +kernel
theorem smd_S_step_0 : decode prog_1_method_14_code 0 = .ok (.aload_n 0, 1) := by decide +kernel
theorem smd_S_step_1 : decode prog_1_method_14_code 1 = .ok (.iload_n 1, 1) := by decide +kernel
theorem smd_S_step_2 : decode prog_1_method_14_code 2 = .ok (.invokevirtual 120, 3) := by decide +kernel
theorem smd_S_step_5 : decode prog_1_method_14_code 5 = .ok (.ifCond .eq 15, 3) := by decide +kernel
theorem smd_S_step_8 : decode prog_1_method_14_code 8 = .ok (.iload_n 2, 1) := by decide +kernel
theorem smd_S_step_9 : decode prog_1_method_14_code 9 = .ok (.iconst 1, 1) := by decide +kernel
theorem smd_S_step_10 : decode prog_1_method_14_code 10 = .ok (.if_icmp .lt 10, 3) := by decide +kernel
theorem smd_S_step_13 : decode prog_1_method_14_code 13 = .ok (.iload_n 2, 1) := by decide +kernel
theorem smd_S_step_14 : decode prog_1_method_14_code 14 = .ok (.sipush 200, 3) := by decide +kernel
theorem smd_S_step_17 : decode prog_1_method_14_code 17 = .ok (.if_icmp .le 5, 3) := by decide +kernel
theorem smd_S_step_20 : decode prog_1_method_14_code 20 = .ok (.iconst (-1), 1) := by decide +kernel
theorem smd_S_step_21 : decode prog_1_method_14_code 21 = .ok (.ireturn, 1) := by decide +kernel
theorem smd_S_step_22 : decode prog_1_method_14_code 22 = .ok (.aload_n 0, 1) := by decide +kernel
theorem smd_S_step_23 : decode prog_1_method_14_code 23 = .ok (.getfield 39, 3) := by decide +kernel
theorem smd_S_step_26 : decode prog_1_method_14_code 26 = .ok (.iload_n 1, 1) := by decide +kernel
theorem smd_S_step_27 : decode prog_1_method_14_code 27 = .ok (.iconst 1, 1) := by decide +kernel
theorem smd_S_step_28 : decode prog_1_method_14_code 28 = .ok (.isub, 1) := by decide +kernel
theorem smd_S_step_29 : decode prog_1_method_14_code 29 = .ok (.aaload, 1) := by decide +kernel
theorem smd_S_step_30 : decode prog_1_method_14_code 30 = .ok (.astore_n 3, 1) := by decide +kernel
theorem smd_S_step_31 : decode prog_1_method_14_code 31 = .ok (.aload_n 3, 1) := by decide +kernel
theorem smd_S_step_32 : decode prog_1_method_14_code 32 = .ok (.getfield 123, 3) := by decide +kernel
theorem smd_S_step_35 : decode prog_1_method_14_code 35 = .ok (.iconst 1, 1) := by decide +kernel
theorem smd_S_step_36 : decode prog_1_method_14_code 36 = .ok (.if_icmp .ne 8, 3) := by decide +kernel
theorem smd_S_step_39 : decode prog_1_method_14_code 39 = .ok (.aload_n 3, 1) := by decide +kernel
theorem smd_S_step_40 : decode prog_1_method_14_code 40 = .ok (.iconst 0, 1) := by decide +kernel
theorem smd_S_step_41 : decode prog_1_method_14_code 41 = .ok (.putfield 123, 3) := by decide +kernel
theorem smd_S_step_44 : decode prog_1_method_14_code 44 = .ok (.iconst 0, 1) := by decide +kernel
theorem smd_S_step_45 : decode prog_1_method_14_code 45 = .ok (.istore 4, 2) := by decide +kernel
theorem smd_S_step_47 : decode prog_1_method_14_code 47 = .ok (.iload 4, 2) := by decide +kernel
theorem smd_S_step_49 : decode prog_1_method_14_code 49 = .ok (.iload_n 2, 1) := by decide +kernel
theorem smd_S_step_50 : decode prog_1_method_14_code 50 = .ok (.if_icmp .ge 21, 3) := by decide +kernel
theorem smd_S_step_53 : decode prog_1_method_14_code 53 = .ok (.aload_n 3, 1) := by decide +kernel
theorem smd_S_step_54 : decode prog_1_method_14_code 54 = .ok (.getfield 123, 3) := by decide +kernel
theorem smd_S_step_57 : decode prog_1_method_14_code 57 = .ok (.ifCond .ne 14, 3) := by decide +kernel
theorem smd_S_step_60 : decode prog_1_method_14_code 60 = .ok (.aload_n 0, 1) := by decide +kernel
theorem smd_S_step_61 : decode prog_1_method_14_code 61 = .ok (.aload_n 3, 1) := by decide +kernel
theorem smd_S_step_62 : decode prog_1_method_14_code 62 = .ok (.invokevirtual 126, 3) := by decide +kernel
theorem smd_S_step_65 : decode prog_1_method_14_code 65 = .ok (.iinc 4 1, 3) := by decide +kernel
theorem smd_S_step_68 : decode prog_1_method_14_code 68 = .ok (.goto (-21), 3) := by decide +kernel
theorem smd_S_step_71 : decode prog_1_method_14_code 71 = .ok (.aload_n 3, 1) := by decide +kernel
theorem smd_S_step_72 : decode prog_1_method_14_code 72 = .ok (.getfield 123, 3) := by decide +kernel
theorem smd_S_step_75 : decode prog_1_method_14_code 75 = .ok (.ireturn, 1) := by decide +kernel
theorem smd_S_send_0 : decode prog_1_method_15_code 0 = .ok (.aload_n 0, 1) := by decide +kernel
theorem smd_S_send_1 : decode prog_1_method_15_code 1 = .ok (.iload_n 1, 1) := by decide +kernel
theorem smd_S_send_2 : decode prog_1_method_15_code 2 = .ok (.invokevirtual 120, 3) := by decide +kernel
theorem smd_S_send_5 : decode prog_1_method_15_code 5 = .ok (.ifCond .ne 5, 3) := by decide +kernel
theorem smd_S_send_8 : decode prog_1_method_15_code 8 = .ok (.iconst (-1), 1) := by decide +kernel
theorem smd_S_send_9 : decode prog_1_method_15_code 9 = .ok (.ireturn, 1) := by decide +kernel
theorem smd_S_send_10 : decode prog_1_method_15_code 10 = .ok (.aload_n 0, 1) := by decide +kernel
theorem smd_S_send_11 : decode prog_1_method_15_code 11 = .ok (.getfield 39, 3) := by decide +kernel
theorem smd_S_send_14 : decode prog_1_method_15_code 14 = .ok (.iload_n 1, 1) := by decide +kernel
theorem smd_S_send_15 : decode prog_1_method_15_code 15 = .ok (.iconst 1, 1) := by decide +kernel
theorem smd_S_send_16 : decode prog_1_method_15_code 16 = .ok (.isub, 1) := by decide +kernel
theorem smd_S_send_17 : decode prog_1_method_15_code 17 = .ok (.aaload, 1) := by decide +kernel
theorem smd_S_send_18 : decode prog_1_method_15_code 18 = .ok (.astore_n 3, 1) := by decide +kernel
theorem smd_S_send_19 : decode prog_1_method_15_code 19 = .ok (.aload_n 3, 1) := by decide +kernel
theorem smd_S_send_20 : decode prog_1_method_15_code 20 = .ok (.getfield 123, 3) := by decide +kernel
theorem smd_S_send_23 : decode prog_1_method_15_code 23 = .ok (.iconst 2, 1) := by decide +kernel
theorem smd_S_send_24 : decode prog_1_method_15_code 24 = .ok (.if_icmp .eq 11, 3) := by decide +kernel
theorem smd_S_send_27 : decode prog_1_method_15_code 27 = .ok (.aload_n 3, 1) := by decide +kernel
theorem smd_S_send_28 : decode prog_1_method_15_code 28 = .ok (.getfield 123, 3) := by decide +kernel
theorem smd_S_send_31 : decode prog_1_method_15_code 31 = .ok (.iconst 3, 1) := by decide +kernel
theorem smd_S_send_32 : decode prog_1_method_15_code 32 = .ok (.if_icmp .ne 6, 3) := by decide +kernel
theorem smd_S_send_35 : decode prog_1_method_15_code 35 = .ok (.bipush (-2), 2) := by decide +kernel
theorem smd_S_send_37 : decode prog_1_method_15_code 37 = .ok (.ireturn, 1) := by decide +kernel
theorem smd_S_send_38 : decode prog_1_method_15_code 38 = .ok (.aload_n 3, 1) := by decide +kernel
theorem smd_S_send_39 : decode prog_1_method_15_code 39 = .ok (.getfield 130, 3) := by decide +kernel
theorem smd_S_send_42 : decode prog_1_method_15_code 42 = .ok (.bipush 8, 2) := by decide +kernel
theorem smd_S_send_44 : decode prog_1_method_15_code 44 = .ok (.if_icmp .lt 6, 3) := by decide +kernel
theorem smd_S_send_47 : decode prog_1_method_15_code 47 = .ok (.bipush (-3), 2) := by decide +kernel
theorem smd_S_send_49 : decode prog_1_method_15_code 49 = .ok (.ireturn, 1) := by decide +kernel
theorem smd_S_send_50 : decode prog_1_method_15_code 50 = .ok (.aload_n 3, 1) := by decide +kernel
theorem smd_S_send_51 : decode prog_1_method_15_code 51 = .ok (.iload_n 2, 1) := by decide +kernel
theorem smd_S_send_52 : decode prog_1_method_15_code 52 = .ok (.invokevirtual 133, 3) := by decide +kernel
theorem smd_S_send_55 : decode prog_1_method_15_code 55 = .ok (.aload_n 3, 1) := by decide +kernel
theorem smd_S_send_56 : decode prog_1_method_15_code 56 = .ok (.getfield 130, 3) := by decide +kernel
theorem smd_S_send_59 : decode prog_1_method_15_code 59 = .ok (.ireturn, 1) := by decide +kernel
theorem smd_S_state_0 : decode prog_1_method_16_code 0 = .ok (.aload_n 0, 1) := by decide +kernel
theorem smd_S_state_1 : decode prog_1_method_16_code 1 = .ok (.iload_n 1, 1) := by decide +kernel
theorem smd_S_state_2 : decode prog_1_method_16_code 2 = .ok (.invokevirtual 120, 3) := by decide +kernel
theorem smd_S_state_5 : decode prog_1_method_16_code 5 = .ok (.ifCond .eq 17, 3) := by decide +kernel
theorem smd_S_state_8 : decode prog_1_method_16_code 8 = .ok (.aload_n 0, 1) := by decide +kernel
theorem smd_S_state_9 : decode prog_1_method_16_code 9 = .ok (.getfield 39, 3) := by decide +kernel
theorem smd_S_state_12 : decode prog_1_method_16_code 12 = .ok (.iload_n 1, 1) := by decide +kernel
theorem smd_S_state_13 : decode prog_1_method_16_code 13 = .ok (.iconst 1, 1) := by decide +kernel
theorem smd_S_state_14 : decode prog_1_method_16_code 14 = .ok (.isub, 1) := by decide +kernel
theorem smd_S_state_15 : decode prog_1_method_16_code 15 = .ok (.aaload, 1) := by decide +kernel
theorem smd_S_state_16 : decode prog_1_method_16_code 16 = .ok (.getfield 123, 3) := by decide +kernel
theorem smd_S_state_19 : decode prog_1_method_16_code 19 = .ok (.goto 4, 3) := by decide +kernel
theorem smd_S_state_22 : decode prog_1_method_16_code 22 = .ok (.iconst (-1), 1) := by decide +kernel
theorem smd_S_state_23 : decode prog_1_method_16_code 23 = .ok (.ireturn, 1) := by decide +kernel
theorem smd_S_result_0 : decode prog_1_method_17_code 0 = .ok (.aload_n 0, 1) := by decide +kernel
theorem smd_S_result_1 : decode prog_1_method_17_code 1 = .ok (.iload_n 1, 1) := by decide +kernel
theorem smd_S_result_2 : decode prog_1_method_17_code 2 = .ok (.invokevirtual 120, 3) := by decide +kernel
theorem smd_S_result_5 : decode prog_1_method_17_code 5 = .ok (.ifCond .eq 17, 3) := by decide +kernel
theorem smd_S_result_8 : decode prog_1_method_17_code 8 = .ok (.aload_n 0, 1) := by decide +kernel
theorem smd_S_result_9 : decode prog_1_method_17_code 9 = .ok (.getfield 39, 3) := by decide +kernel
theorem smd_S_result_12 : decode prog_1_method_17_code 12 = .ok (.iload_n 1, 1) := by decide +kernel
theorem smd_S_result_13 : decode prog_1_method_17_code 13 = .ok (.iconst 1, 1) := by decide +kernel
theorem smd_S_result_14 : decode prog_1_method_17_code 14 = .ok (.isub, 1) := by decide +kernel
theorem smd_S_result_15 : decode prog_1_method_17_code 15 = .ok (.aaload, 1) := by decide +kernel
theorem smd_S_result_16 : decode prog_1_method_17_code 16 = .ok (.getfield 136, 3) := by decide +kernel
theorem smd_S_result_19 : decode prog_1_method_17_code 19 = .ok (.goto 4, 3) := by decide +kernel
theorem smd_S_result_22 : decode prog_1_method_17_code 22 = .ok (.iconst 0, 1) := by decide +kernel
theorem smd_S_result_23 : decode prog_1_method_17_code 23 = .ok (.ireturn, 1) := by decide +kernel
theorem smd_S_frames_0 : decode prog_1_method_18_code 0 = .ok (.aload_n 0, 1) := by decide +kernel
theorem smd_S_frames_1 : decode prog_1_method_18_code 1 = .ok (.iload_n 1, 1) := by decide +kernel
theorem smd_S_frames_2 : decode prog_1_method_18_code 2 = .ok (.invokevirtual 120, 3) := by decide +kernel
theorem smd_S_frames_5 : decode prog_1_method_18_code 5 = .ok (.ifCond .eq 17, 3) := by decide +kernel
theorem smd_S_frames_8 : decode prog_1_method_18_code 8 = .ok (.aload_n 0, 1) := by decide +kernel
theorem smd_S_frames_9 : decode prog_1_method_18_code 9 = .ok (.getfield 39, 3) := by decide +kernel
theorem smd_S_frames_12 : decode prog_1_method_18_code 12 = .ok (.iload_n 1, 1) := by decide +kernel
theorem smd_S_frames_13 : decode prog_1_method_18_code 13 = .ok (.iconst 1, 1) := by decide +kernel
theorem smd_S_frames_14 : decode prog_1_method_18_code 14 = .ok (.isub, 1) := by decide +kernel
theorem smd_S_frames_15 : decode prog_1_method_18_code 15 = .ok (.aaload, 1) := by decide +kernel
theorem smd_S_frames_16 : decode prog_1_method_18_code 16 = .ok (.getfield 139, 3) := by decide +kernel
theorem smd_S_frames_19 : decode prog_1_method_18_code 19 = .ok (.goto 4, 3) := by decide +kernel
theorem smd_S_frames_22 : decode prog_1_method_18_code 22 = .ok (.iconst (-1), 1) := by decide +kernel
theorem smd_S_frames_23 : decode prog_1_method_18_code 23 = .ok (.ireturn, 1) := by decide +kernel
theorem smd_S_frame_0 : decode prog_1_method_19_code 0 = .ok (.aload_n 0, 1) := by decide +kernel
theorem smd_S_frame_1 : decode prog_1_method_19_code 1 = .ok (.iload_n 1, 1) := by decide +kernel
theorem smd_S_frame_2 : decode prog_1_method_19_code 2 = .ok (.invokevirtual 120, 3) := by decide +kernel
theorem smd_S_frame_5 : decode prog_1_method_19_code 5 = .ok (.ifCond .eq 21, 3) := by decide +kernel
theorem smd_S_frame_8 : decode prog_1_method_19_code 8 = .ok (.iload_n 2, 1) := by decide +kernel
theorem smd_S_frame_9 : decode prog_1_method_19_code 9 = .ok (.aload_n 0, 1) := by decide +kernel
theorem smd_S_frame_10 : decode prog_1_method_19_code 10 = .ok (.getfield 39, 3) := by decide +kernel
theorem smd_S_frame_13 : decode prog_1_method_19_code 13 = .ok (.iload_n 1, 1) := by decide +kernel
theorem smd_S_frame_14 : decode prog_1_method_19_code 14 = .ok (.iconst 1, 1) := by decide +kernel
theorem smd_S_frame_15 : decode prog_1_method_19_code 15 = .ok (.isub, 1) := by decide +kernel
theorem smd_S_frame_16 : decode prog_1_method_19_code 16 = .ok (.aaload, 1) := by decide +kernel
theorem smd_S_frame_17 : decode prog_1_method_19_code 17 = .ok (.getfield 139, 3) := by decide +kernel
theorem smd_S_frame_20 : decode prog_1_method_19_code 20 = .ok (.invokestatic 44, 3) := by decide +kernel
theorem smd_S_frame_23 : decode prog_1_method_19_code 23 = .ok (.ifCond .ne 5, 3) := by decide +kernel
theorem smd_S_frame_26 : decode prog_1_method_19_code 26 = .ok (.iconst (-1), 1) := by decide +kernel
theorem smd_S_frame_27 : decode prog_1_method_19_code 27 = .ok (.ireturn, 1) := by decide +kernel
theorem smd_S_frame_28 : decode prog_1_method_19_code 28 = .ok (.aload_n 0, 1) := by decide +kernel
theorem smd_S_frame_29 : decode prog_1_method_19_code 29 = .ok (.getfield 39, 3) := by decide +kernel
theorem smd_S_frame_32 : decode prog_1_method_19_code 32 = .ok (.iload_n 1, 1) := by decide +kernel
theorem smd_S_frame_33 : decode prog_1_method_19_code 33 = .ok (.iconst 1, 1) := by decide +kernel
theorem smd_S_frame_34 : decode prog_1_method_19_code 34 = .ok (.isub, 1) := by decide +kernel
theorem smd_S_frame_35 : decode prog_1_method_19_code 35 = .ok (.aaload, 1) := by decide +kernel
theorem smd_S_frame_36 : decode prog_1_method_19_code 36 = .ok (.astore 4, 2) := by decide +kernel
theorem smd_S_frame_38 : decode prog_1_method_19_code 38 = .ok (.iload_n 3, 1) := by decide +kernel
theorem smd_S_frame_39 : decode prog_1_method_19_code 39 = .ok (.tableswitch 63 0 4 #[33, 41, 49, 49, 49], 33) := by decide +kernel
theorem smd_S_frame_72 : decode prog_1_method_19_code 72 = .ok (.aload 4, 2) := by decide +kernel
theorem smd_S_frame_74 : decode prog_1_method_19_code 74 = .ok (.getfield 142, 3) := by decide +kernel
theorem smd_S_frame_77 : decode prog_1_method_19_code 77 = .ok (.iload_n 2, 1) := by decide +kernel
theorem smd_S_frame_78 : decode prog_1_method_19_code 78 = .ok (.iaload, 1) := by decide +kernel
theorem smd_S_frame_79 : decode prog_1_method_19_code 79 = .ok (.ireturn, 1) := by decide +kernel
theorem smd_S_frame_80 : decode prog_1_method_19_code 80 = .ok (.aload 4, 2) := by decide +kernel
theorem smd_S_frame_82 : decode prog_1_method_19_code 82 = .ok (.getfield 145, 3) := by decide +kernel
theorem smd_S_frame_85 : decode prog_1_method_19_code 85 = .ok (.iload_n 2, 1) := by decide +kernel
theorem smd_S_frame_86 : decode prog_1_method_19_code 86 = .ok (.iaload, 1) := by decide +kernel
theorem smd_S_frame_87 : decode prog_1_method_19_code 87 = .ok (.ireturn, 1) := by decide +kernel
theorem smd_S_frame_88 : decode prog_1_method_19_code 88 = .ok (.aload 4, 2) := by decide +kernel
theorem smd_S_frame_90 : decode prog_1_method_19_code 90 = .ok (.getfield 148, 3) := by decide +kernel
theorem smd_S_frame_93 : decode prog_1_method_19_code 93 = .ok (.iload_n 2, 1) := by decide +kernel
theorem smd_S_frame_94 : decode prog_1_method_19_code 94 = .ok (.iconst 3, 1) := by decide +kernel
theorem smd_S_frame_95 : decode prog_1_method_19_code 95 = .ok (.imul, 1) := by decide +kernel
theorem smd_S_frame_96 : decode prog_1_method_19_code 96 = .ok (.iload_n 3, 1) := by decide +kernel
theorem smd_S_frame_97 : decode prog_1_method_19_code 97 = .ok (.iadd, 1) := by decide +kernel
theorem smd_S_frame_98 : decode prog_1_method_19_code 98 = .ok (.iconst 2, 1) := by decide +kernel
theorem smd_S_frame_99 : decode prog_1_method_19_code 99 = .ok (.isub, 1) := by decide +kernel
theorem smd_S_frame_100 : decode prog_1_method_19_code 100 = .ok (.iaload, 1) := by decide +kernel
theorem smd_S_frame_101 : decode prog_1_method_19_code 101 = .ok (.ireturn, 1) := by decide +kernel
theorem smd_S_frame_102 : decode prog_1_method_19_code 102 = .ok (.iconst (-1), 1) := by decide +kernel
theorem smd_S_frame_103 : decode prog_1_method_19_code 103 = .ok (.ireturn, 1) := by decide +kernel
theorem smd_S_global_0 : decode prog_1_method_20_code 0 = .ok (.iload_n 1, 1) := by decide +kernel
theorem smd_S_global_1 : decode prog_1_method_20_code 1 = .ok (.iconst 4, 1) := by decide +kernel
theorem smd_S_global_2 : decode prog_1_method_20_code 2 = .ok (.invokestatic 44, 3) := by decide +kernel
theorem smd_S_global_5 : decode prog_1_method_20_code 5 = .ok (.ifCond .eq 12, 3) := by decide +kernel
theorem smd_S_global_8 : decode prog_1_method_20_code 8 = .ok (.aload_n 0, 1) := by decide +kernel
theorem smd_S_global_9 : decode prog_1_method_20_code 9 = .ok (.getfield 33, 3) := by decide +kernel
theorem smd_S_global_12 : decode prog_1_method_20_code 12 = .ok (.iload_n 1, 1) := by decide +kernel
theorem smd_S_global_13 : decode prog_1_method_20_code 13 = .ok (.iaload, 1) := by decide +kernel
theorem smd_S_global_14 : decode prog_1_method_20_code 14 = .ok (.goto 4, 3) := by decide +kernel
theorem smd_S_global_17 : decode prog_1_method_20_code 17 = .ok (.iconst 0, 1) := by decide +kernel
theorem smd_S_global_18 : decode prog_1_method_20_code 18 = .ok (.ireturn, 1) := by decide +kernel
theorem smd_S_typeOf_0 : decode prog_1_method_21_code 0 = .ok (.aload_n 0, 1) := by decide +kernel
theorem smd_S_typeOf_1 : decode prog_1_method_21_code 1 = .ok (.getfield 29, 3) := by decide +kernel
theorem smd_S_typeOf_4 : decode prog_1_method_21_code 4 = .ok (.iload_n 1, 1) := by decide +kernel
theorem smd_S_typeOf_5 : decode prog_1_method_21_code 5 = .ok (.invokevirtual 151, 3) := by decide +kernel
theorem smd_S_typeOf_8 : decode prog_1_method_21_code 8 = .ok (.ifCond .eq 15, 3) := by decide +kernel
theorem smd_S_typeOf_11 : decode prog_1_method_21_code 11 = .ok (.aload_n 0, 1) := by decide +kernel
theorem smd_S_typeOf_12 : decode prog_1_method_21_code 12 = .ok (.getfield 29, 3) := by decide +kernel
theorem smd_S_typeOf_15 : decode prog_1_method_21_code 15 = .ok (.getfield 154, 3) := by decide +kernel
theorem smd_S_typeOf_18 : decode prog_1_method_21_code 18 = .ok (.iload_n 1, 1) := by decide +kernel
theorem smd_S_typeOf_19 : decode prog_1_method_21_code 19 = .ok (.iaload, 1) := by decide +kernel
theorem smd_S_typeOf_20 : decode prog_1_method_21_code 20 = .ok (.goto 4, 3) := by decide +kernel
theorem smd_S_typeOf_23 : decode prog_1_method_21_code 23 = .ok (.iconst (-1), 1) := by decide +kernel
theorem smd_S_typeOf_24 : decode prog_1_method_21_code 24 = .ok (.ireturn, 1) := by decide +kernel
theorem smd_S_field_0 : decode prog_1_method_22_code 0 = .ok (.aload_n 0, 1) := by decide +kernel
theorem smd_S_field_1 : decode prog_1_method_22_code 1 = .ok (.getfield 29, 3) := by decide +kernel
theorem smd_S_field_4 : decode prog_1_method_22_code 4 = .ok (.iload_n 1, 1) := by decide +kernel
theorem smd_S_field_5 : decode prog_1_method_22_code 5 = .ok (.invokevirtual 151, 3) := by decide +kernel
theorem smd_S_field_8 : decode prog_1_method_22_code 8 = .ok (.ifCond .eq 27, 3) := by decide +kernel
theorem smd_S_field_11 : decode prog_1_method_22_code 11 = .ok (.iload_n 2, 1) := by decide +kernel
theorem smd_S_field_12 : decode prog_1_method_22_code 12 = .ok (.iconst 4, 1) := by decide +kernel
theorem smd_S_field_13 : decode prog_1_method_22_code 13 = .ok (.invokestatic 44, 3) := by decide +kernel
theorem smd_S_field_16 : decode prog_1_method_22_code 16 = .ok (.ifCond .eq 19, 3) := by decide +kernel
theorem smd_S_field_19 : decode prog_1_method_22_code 19 = .ok (.aload_n 0, 1) := by decide +kernel
theorem smd_S_field_20 : decode prog_1_method_22_code 20 = .ok (.getfield 29, 3) := by decide +kernel
theorem smd_S_field_23 : decode prog_1_method_22_code 23 = .ok (.getfield 157, 3) := by decide +kernel
theorem smd_S_field_26 : decode prog_1_method_22_code 26 = .ok (.iload_n 1, 1) := by decide +kernel
theorem smd_S_field_27 : decode prog_1_method_22_code 27 = .ok (.iconst 4, 1) := by decide +kernel
theorem smd_S_field_28 : decode prog_1_method_22_code 28 = .ok (.imul, 1) := by decide +kernel
theorem smd_S_field_29 : decode prog_1_method_22_code 29 = .ok (.iload_n 2, 1) := by decide +kernel
theorem smd_S_field_30 : decode prog_1_method_22_code 30 = .ok (.iadd, 1) := by decide +kernel
theorem smd_S_field_31 : decode prog_1_method_22_code 31 = .ok (.iaload, 1) := by decide +kernel
theorem smd_S_field_32 : decode prog_1_method_22_code 32 = .ok (.goto 4, 3) := by decide +kernel
theorem smd_S_field_35 : decode prog_1_method_22_code 35 = .ok (.iconst 0, 1) := by decide +kernel
theorem smd_S_field_36 : decode prog_1_method_22_code 36 = .ok (.ireturn, 1) := by decide +kernel
theorem smd_S_heap_0 : decode prog_1_method_23_code 0 = .ok (.aload_n 0, 1) := by decide +kernel
theorem smd_S_heap_1 : decode prog_1_method_23_code 1 = .ok (.getfield 29, 3) := by decide +kernel
theorem smd_S_heap_4 : decode prog_1_method_23_code 4 = .ok (.invokevirtual 160, 3) := by decide +kernel
theorem smd_S_heap_7 : decode prog_1_method_23_code 7 = .ok (.ireturn, 1) := by decide +kernel
theorem smd_S_collect_0 : decode prog_1_method_24_code 0 = .ok (.aload_n 0, 1) := by decide +kernel
theorem smd_S_collect_1 : decode prog_1_method_24_code 1 = .ok (.invokevirtual 96, 3) := by decide +kernel
theorem smd_S_collect_4 : decode prog_1_method_24_code 4 = .ok (.ireturn, 1) := by decide +kernel
theorem smd_S_isWithin_0 : decode prog_1_method_25_code 0 = .ok (.iload_n 0, 1) := by decide +kernel
theorem smd_S_isWithin_1 : decode prog_1_method_25_code 1 = .ok (.ifCond .lt 12, 3) := by decide +kernel
theorem smd_S_isWithin_4 : decode prog_1_method_25_code 4 = .ok (.iload_n 0, 1) := by decide +kernel
theorem smd_S_isWithin_5 : decode prog_1_method_25_code 5 = .ok (.iload_n 1, 1) := by decide +kernel
theorem smd_S_isWithin_6 : decode prog_1_method_25_code 6 = .ok (.if_icmp .ge 7, 3) := by decide +kernel
theorem smd_S_isWithin_9 : decode prog_1_method_25_code 9 = .ok (.iconst 1, 1) := by decide +kernel
theorem smd_S_isWithin_10 : decode prog_1_method_25_code 10 = .ok (.goto 4, 3) := by decide +kernel
theorem smd_S_isWithin_13 : decode prog_1_method_25_code 13 = .ok (.iconst 0, 1) := by decide +kernel
theorem smd_S_isWithin_14 : decode prog_1_method_25_code 14 = .ok (.ireturn, 1) := by decide +kernel
theorem smd_S_isTask_0 : decode prog_1_method_26_code 0 = .ok (.iload_n 1, 1) := by decide +kernel
theorem smd_S_isTask_1 : decode prog_1_method_26_code 1 = .ok (.iconst 1, 1) := by decide +kernel
theorem smd_S_isTask_2 : decode prog_1_method_26_code 2 = .ok (.if_icmp .lt 15, 3) := by decide +kernel
theorem smd_S_isTask_5 : decode prog_1_method_26_code 5 = .ok (.iload_n 1, 1) := by decide +kernel
theorem smd_S_isTask_6 : decode prog_1_method_26_code 6 = .ok (.aload_n 0, 1) := by decide +kernel
theorem smd_S_isTask_7 : decode prog_1_method_26_code 7 = .ok (.getfield 113, 3) := by decide +kernel
theorem smd_S_isTask_10 : decode prog_1_method_26_code 10 = .ok (.if_icmp .gt 7, 3) := by decide +kernel
theorem smd_S_isTask_13 : decode prog_1_method_26_code 13 = .ok (.iconst 1, 1) := by decide +kernel
theorem smd_S_isTask_14 : decode prog_1_method_26_code 14 = .ok (.goto 4, 3) := by decide +kernel
theorem smd_S_isTask_17 : decode prog_1_method_26_code 17 = .ok (.iconst 0, 1) := by decide +kernel
theorem smd_S_isTask_18 : decode prog_1_method_26_code 18 = .ok (.ireturn, 1) := by decide +kernel
theorem smd_S_draftChanges_0 : decode prog_1_method_27_code 0 = .ok (.aload_n 0, 1) := by decide +kernel
theorem smd_S_draftChanges_1 : decode prog_1_method_27_code 1 = .ok (.getfield 16, 3) := by decide +kernel
theorem smd_S_draftChanges_4 : decode prog_1_method_27_code 4 = .ok (.aload_n 0, 1) := by decide +kernel
theorem smd_S_draftChanges_5 : decode prog_1_method_27_code 5 = .ok (.getfield 10, 3) := by decide +kernel
theorem smd_S_draftChanges_8 : decode prog_1_method_27_code 8 = .ok (.iload_n 1, 1) := by decide +kernel
theorem smd_S_draftChanges_9 : decode prog_1_method_27_code 9 = .ok (.invokevirtual 163, 3) := by decide +kernel
theorem smd_S_draftChanges_12 : decode prog_1_method_27_code 12 = .ok (.ifCond .eq 21, 3) := by decide +kernel
theorem smd_S_draftChanges_15 : decode prog_1_method_27_code 15 = .ok (.aload_n 0, 1) := by decide +kernel
theorem smd_S_draftChanges_16 : decode prog_1_method_27_code 16 = .ok (.getfield 10, 3) := by decide +kernel
theorem smd_S_draftChanges_19 : decode prog_1_method_27_code 19 = .ok (.iload_n 1, 1) := by decide +kernel
theorem smd_S_draftChanges_20 : decode prog_1_method_27_code 20 = .ok (.aload_n 0, 1) := by decide +kernel
theorem smd_S_draftChanges_21 : decode prog_1_method_27_code 21 = .ok (.getfield 22, 3) := by decide +kernel
theorem smd_S_draftChanges_24 : decode prog_1_method_27_code 24 = .ok (.getfield 66, 3) := by decide +kernel
theorem smd_S_draftChanges_27 : decode prog_1_method_27_code 27 = .ok (.invokevirtual 167, 3) := by decide +kernel
theorem smd_S_draftChanges_30 : decode prog_1_method_27_code 30 = .ok (.ifCond .eq 7, 3) := by decide +kernel
theorem smd_S_draftChanges_33 : decode prog_1_method_27_code 33 = .ok (.iconst 1, 1) := by decide +kernel
theorem smd_S_draftChanges_34 : decode prog_1_method_27_code 34 = .ok (.goto 4, 3) := by decide +kernel
theorem smd_S_draftChanges_37 : decode prog_1_method_27_code 37 = .ok (.iconst 0, 1) := by decide +kernel
theorem smd_S_draftChanges_38 : decode prog_1_method_27_code 38 = .ok (.ireturn, 1) := by decide +kernel
theorem smd_S_firstTaskInTheWay_0 : decode prog_1_method_28_code 0 = .ok (.iload_n 1, 1) := by decide +kernel
theorem smd_S_firstTaskInTheWay_1 : decode prog_1_method_28_code 1 = .ok (.iconst 1, 1) := by decide +kernel
theorem smd_S_firstTaskInTheWay_2 : decode prog_1_method_28_code 2 = .ok (.invokestatic 171, 3) := by decide +kernel
theorem smd_S_firstTaskInTheWay_5 : decode prog_1_method_28_code 5 = .ok (.istore_n 2, 1) := by decide +kernel
theorem smd_S_firstTaskInTheWay_6 : decode prog_1_method_28_code 6 = .ok (.iload_n 2, 1) := by decide +kernel
theorem smd_S_firstTaskInTheWay_7 : decode prog_1_method_28_code 7 = .ok (.aload_n 0, 1) := by decide +kernel
theorem smd_S_firstTaskInTheWay_8 : decode prog_1_method_28_code 8 = .ok (.getfield 113, 3) := by decide +kernel
theorem smd_S_firstTaskInTheWay_11 : decode prog_1_method_28_code 11 = .ok (.if_icmp .gt 26, 3) := by decide +kernel
theorem smd_S_firstTaskInTheWay_14 : decode prog_1_method_28_code 14 = .ok (.aload_n 0, 1) := by decide +kernel
theorem smd_S_firstTaskInTheWay_15 : decode prog_1_method_28_code 15 = .ok (.aload_n 0, 1) := by decide +kernel
theorem smd_S_firstTaskInTheWay_16 : decode prog_1_method_28_code 16 = .ok (.getfield 39, 3) := by decide +kernel
theorem smd_S_firstTaskInTheWay_19 : decode prog_1_method_28_code 19 = .ok (.iload_n 2, 1) := by decide +kernel
theorem smd_S_firstTaskInTheWay_20 : decode prog_1_method_28_code 20 = .ok (.iconst 1, 1) := by decide +kernel
theorem smd_S_firstTaskInTheWay_21 : decode prog_1_method_28_code 21 = .ok (.isub, 1) := by decide +kernel
theorem smd_S_firstTaskInTheWay_22 : decode prog_1_method_28_code 22 = .ok (.aaload, 1) := by decide +kernel
theorem smd_S_firstTaskInTheWay_23 : decode prog_1_method_28_code 23 = .ok (.invokevirtual 177, 3) := by decide +kernel
theorem smd_S_firstTaskInTheWay_26 : decode prog_1_method_28_code 26 = .ok (.ifCond .eq 5, 3) := by decide +kernel
theorem smd_S_firstTaskInTheWay_29 : decode prog_1_method_28_code 29 = .ok (.iload_n 2, 1) := by decide +kernel
theorem smd_S_firstTaskInTheWay_30 : decode prog_1_method_28_code 30 = .ok (.ireturn, 1) := by decide +kernel
theorem smd_S_firstTaskInTheWay_31 : decode prog_1_method_28_code 31 = .ok (.iinc 2 1, 3) := by decide +kernel
theorem smd_S_firstTaskInTheWay_34 : decode prog_1_method_28_code 34 = .ok (.goto (-28), 3) := by decide +kernel
theorem smd_S_firstTaskInTheWay_37 : decode prog_1_method_28_code 37 = .ok (.iconst 0, 1) := by decide +kernel
theorem smd_S_firstTaskInTheWay_38 : decode prog_1_method_28_code 38 = .ok (.ireturn, 1) := by decide +kernel
theorem smd_S_isInTheWay_0 : decode prog_1_method_29_code 0 = .ok (.iconst 0, 1) := by decide +kernel
theorem smd_S_isInTheWay_1 : decode prog_1_method_29_code 1 = .ok (.istore_n 2, 1) := by decide +kernel
theorem smd_S_isInTheWay_2 : decode prog_1_method_29_code 2 = .ok (.iload_n 2, 1) := by decide +kernel
theorem smd_S_isInTheWay_3 : decode prog_1_method_29_code 3 = .ok (.aload_n 1, 1) := by decide +kernel
theorem smd_S_isInTheWay_4 : decode prog_1_method_29_code 4 = .ok (.getfield 139, 3) := by decide +kernel
theorem smd_S_isInTheWay_7 : decode prog_1_method_29_code 7 = .ok (.if_icmp .ge 53, 3) := by decide +kernel
theorem smd_S_isInTheWay_10 : decode prog_1_method_29_code 10 = .ok (.iload_n 2, 1) := by decide +kernel
theorem smd_S_isInTheWay_11 : decode prog_1_method_29_code 11 = .ok (.aload_n 1, 1) := by decide +kernel
theorem smd_S_isInTheWay_12 : decode prog_1_method_29_code 12 = .ok (.getfield 139, 3) := by decide +kernel
theorem smd_S_isInTheWay_15 : decode prog_1_method_29_code 15 = .ok (.iconst 1, 1) := by decide +kernel
theorem smd_S_isInTheWay_16 : decode prog_1_method_29_code 16 = .ok (.isub, 1) := by decide +kernel
theorem smd_S_isInTheWay_17 : decode prog_1_method_29_code 17 = .ok (.if_icmp .ne 16, 3) := by decide +kernel
theorem smd_S_isInTheWay_20 : decode prog_1_method_29_code 20 = .ok (.aload_n 0, 1) := by decide +kernel
theorem smd_S_isInTheWay_21 : decode prog_1_method_29_code 21 = .ok (.aload_n 1, 1) := by decide +kernel
theorem smd_S_isInTheWay_22 : decode prog_1_method_29_code 22 = .ok (.invokevirtual 181, 3) := by decide +kernel
theorem smd_S_isInTheWay_25 : decode prog_1_method_29_code 25 = .ok (.iconst (-1), 1) := by decide +kernel
theorem smd_S_isInTheWay_26 : decode prog_1_method_29_code 26 = .ok (.if_icmp .eq 7, 3) := by decide +kernel
theorem smd_S_isInTheWay_29 : decode prog_1_method_29_code 29 = .ok (.iconst 1, 1) := by decide +kernel
theorem smd_S_isInTheWay_30 : decode prog_1_method_29_code 30 = .ok (.goto 4, 3) := by decide +kernel
theorem smd_S_isInTheWay_33 : decode prog_1_method_29_code 33 = .ok (.iconst 0, 1) := by decide +kernel
theorem smd_S_isInTheWay_34 : decode prog_1_method_29_code 34 = .ok (.istore_n 3, 1) := by decide +kernel
theorem smd_S_isInTheWay_35 : decode prog_1_method_29_code 35 = .ok (.aload_n 0, 1) := by decide +kernel
theorem smd_S_isInTheWay_36 : decode prog_1_method_29_code 36 = .ok (.aload_n 1, 1) := by decide +kernel
theorem smd_S_isInTheWay_37 : decode prog_1_method_29_code 37 = .ok (.getfield 142, 3) := by decide +kernel
theorem smd_S_isInTheWay_40 : decode prog_1_method_29_code 40 = .ok (.iload_n 2, 1) := by decide +kernel
theorem smd_S_isInTheWay_41 : decode prog_1_method_29_code 41 = .ok (.iaload, 1) := by decide +kernel
theorem smd_S_isInTheWay_42 : decode prog_1_method_29_code 42 = .ok (.invokevirtual 88, 3) := by decide +kernel
theorem smd_S_isInTheWay_45 : decode prog_1_method_29_code 45 = .ok (.ifCond .eq 9, 3) := by decide +kernel
theorem smd_S_isInTheWay_48 : decode prog_1_method_29_code 48 = .ok (.iload_n 3, 1) := by decide +kernel
theorem smd_S_isInTheWay_49 : decode prog_1_method_29_code 49 = .ok (.ifCond .ne 5, 3) := by decide +kernel
theorem smd_S_isInTheWay_52 : decode prog_1_method_29_code 52 = .ok (.iconst 1, 1) := by decide +kernel
theorem smd_S_isInTheWay_53 : decode prog_1_method_29_code 53 = .ok (.ireturn, 1) := by decide +kernel
theorem smd_S_isInTheWay_54 : decode prog_1_method_29_code 54 = .ok (.iinc 2 1, 3) := by decide +kernel
theorem smd_S_isInTheWay_57 : decode prog_1_method_29_code 57 = .ok (.goto (-55), 3) := by decide +kernel
theorem smd_S_isInTheWay_60 : decode prog_1_method_29_code 60 = .ok (.iconst 0, 1) := by decide +kernel
theorem smd_S_isInTheWay_61 : decode prog_1_method_29_code 61 = .ok (.ireturn, 1) := by decide +kernel
theorem smd_S_placeInDraft_0 : decode prog_1_method_30_code 0 = .ok (.aload_n 1, 1) := by decide +kernel
theorem smd_S_placeInDraft_1 : decode prog_1_method_30_code 1 = .ok (.getfield 142, 3) := by decide +kernel
theorem smd_S_placeInDraft_4 : decode prog_1_method_30_code 4 = .ok (.aload_n 1, 1) := by decide +kernel
theorem smd_S_placeInDraft_5 : decode prog_1_method_30_code 5 = .ok (.getfield 139, 3) := by decide +kernel
theorem smd_S_placeInDraft_8 : decode prog_1_method_30_code 8 = .ok (.iconst 1, 1) := by decide +kernel
theorem smd_S_placeInDraft_9 : decode prog_1_method_30_code 9 = .ok (.isub, 1) := by decide +kernel
theorem smd_S_placeInDraft_10 : decode prog_1_method_30_code 10 = .ok (.iaload, 1) := by decide +kernel
theorem smd_S_placeInDraft_11 : decode prog_1_method_30_code 11 = .ok (.istore_n 2, 1) := by decide +kernel
theorem smd_S_placeInDraft_12 : decode prog_1_method_30_code 12 = .ok (.iload_n 2, 1) := by decide +kernel
theorem smd_S_placeInDraft_13 : decode prog_1_method_30_code 13 = .ok (.aload_n 1, 1) := by decide +kernel
theorem smd_S_placeInDraft_14 : decode prog_1_method_30_code 14 = .ok (.getfield 145, 3) := by decide +kernel
theorem smd_S_placeInDraft_17 : decode prog_1_method_30_code 17 = .ok (.aload_n 1, 1) := by decide +kernel
theorem smd_S_placeInDraft_18 : decode prog_1_method_30_code 18 = .ok (.getfield 139, 3) := by decide +kernel
theorem smd_S_placeInDraft_21 : decode prog_1_method_30_code 21 = .ok (.iconst 1, 1) := by decide +kernel
theorem smd_S_placeInDraft_22 : decode prog_1_method_30_code 22 = .ok (.isub, 1) := by decide +kernel
theorem smd_S_placeInDraft_23 : decode prog_1_method_30_code 23 = .ok (.iaload, 1) := by decide +kernel
theorem smd_S_placeInDraft_24 : decode prog_1_method_30_code 24 = .ok (.invokestatic 185, 3) := by decide +kernel
theorem smd_S_placeInDraft_27 : decode prog_1_method_30_code 27 = .ok (.istore_n 3, 1) := by decide +kernel
theorem smd_S_placeInDraft_28 : decode prog_1_method_30_code 28 = .ok (.aload_n 0, 1) := by decide +kernel
theorem smd_S_placeInDraft_29 : decode prog_1_method_30_code 29 = .ok (.getfield 10, 3) := by decide +kernel
theorem smd_S_placeInDraft_32 : decode prog_1_method_30_code 32 = .ok (.getfield 188, 3) := by decide +kernel
theorem smd_S_placeInDraft_35 : decode prog_1_method_30_code 35 = .ok (.iload_n 3, 1) := by decide +kernel
theorem smd_S_placeInDraft_36 : decode prog_1_method_30_code 36 = .ok (.iaload, 1) := by decide +kernel
theorem smd_S_placeInDraft_37 : decode prog_1_method_30_code 37 = .ok (.bipush 12, 2) := by decide +kernel
theorem smd_S_placeInDraft_39 : decode prog_1_method_30_code 39 = .ok (.if_icmp .ne 23, 3) := by decide +kernel
theorem smd_S_placeInDraft_42 : decode prog_1_method_30_code 42 = .ok (.aload_n 0, 1) := by decide +kernel
theorem smd_S_placeInDraft_43 : decode prog_1_method_30_code 43 = .ok (.getfield 16, 3) := by decide +kernel
theorem smd_S_placeInDraft_46 : decode prog_1_method_30_code 46 = .ok (.iload_n 2, 1) := by decide +kernel
theorem smd_S_placeInDraft_47 : decode prog_1_method_30_code 47 = .ok (.aload_n 0, 1) := by decide +kernel
theorem smd_S_placeInDraft_48 : decode prog_1_method_30_code 48 = .ok (.getfield 10, 3) := by decide +kernel
theorem smd_S_placeInDraft_51 : decode prog_1_method_30_code 51 = .ok (.getfield 191, 3) := by decide +kernel
theorem smd_S_placeInDraft_54 : decode prog_1_method_30_code 54 = .ok (.iload_n 3, 1) := by decide +kernel
theorem smd_S_placeInDraft_55 : decode prog_1_method_30_code 55 = .ok (.iaload, 1) := by decide +kernel
theorem smd_S_placeInDraft_56 : decode prog_1_method_30_code 56 = .ok (.invokevirtual 194, 3) := by decide +kernel
theorem smd_S_placeInDraft_59 : decode prog_1_method_30_code 59 = .ok (.goto 4, 3) := by decide +kernel
theorem smd_S_placeInDraft_62 : decode prog_1_method_30_code 62 = .ok (.iconst (-1), 1) := by decide +kernel
theorem smd_S_placeInDraft_63 : decode prog_1_method_30_code 63 = .ok (.ireturn, 1) := by decide +kernel
theorem smd_S_takeThePlace_0 : decode prog_1_method_31_code 0 = .ok (.aload_n 0, 1) := by decide +kernel
theorem smd_S_takeThePlace_1 : decode prog_1_method_31_code 1 = .ok (.invokevirtual 197, 3) := by decide +kernel
theorem smd_S_takeThePlace_4 : decode prog_1_method_31_code 4 = .ok (.aload_n 0, 1) := by decide +kernel
theorem smd_S_takeThePlace_5 : decode prog_1_method_31_code 5 = .ok (.getfield 10, 3) := by decide +kernel
theorem smd_S_takeThePlace_8 : decode prog_1_method_31_code 8 = .ok (.aload_n 0, 1) := by decide +kernel
theorem smd_S_takeThePlace_9 : decode prog_1_method_31_code 9 = .ok (.getfield 16, 3) := by decide +kernel
theorem smd_S_takeThePlace_12 : decode prog_1_method_31_code 12 = .ok (.invokevirtual 73, 3) := by decide +kernel
theorem smd_S_takeThePlace_15 : decode prog_1_method_31_code 15 = .ok (.aload_n 0, 1) := by decide +kernel
theorem smd_S_takeThePlace_16 : decode prog_1_method_31_code 16 = .ok (.getfield 22, 3) := by decide +kernel
theorem smd_S_takeThePlace_19 : decode prog_1_method_31_code 19 = .ok (.invokevirtual 77, 3) := by decide +kernel
theorem smd_S_takeThePlace_22 : decode prog_1_method_31_code 22 = .ok (.aload_n 0, 1) := by decide +kernel
theorem smd_S_takeThePlace_23 : decode prog_1_method_31_code 23 = .ok (.dup, 1) := by decide +kernel
theorem smd_S_takeThePlace_24 : decode prog_1_method_31_code 24 = .ok (.getfield 106, 3) := by decide +kernel
theorem smd_S_takeThePlace_27 : decode prog_1_method_31_code 27 = .ok (.iconst 1, 1) := by decide +kernel
theorem smd_S_takeThePlace_28 : decode prog_1_method_31_code 28 = .ok (.iadd, 1) := by decide +kernel
theorem smd_S_takeThePlace_29 : decode prog_1_method_31_code 29 = .ok (.putfield 106, 3) := by decide +kernel
theorem smd_S_takeThePlace_32 : decode prog_1_method_31_code 32 = .ok (.aload_n 0, 1) := by decide +kernel
theorem smd_S_takeThePlace_33 : decode prog_1_method_31_code 33 = .ok (.iconst 0, 1) := by decide +kernel
theorem smd_S_takeThePlace_34 : decode prog_1_method_31_code 34 = .ok (.putfield 51, 3) := by decide +kernel
theorem smd_S_takeThePlace_37 : decode prog_1_method_31_code 37 = .ok (.return_, 1) := by decide +kernel
theorem smd_S_moveFrames_0 : decode prog_1_method_32_code 0 = .ok (.iconst 0, 1) := by decide +kernel
theorem smd_S_moveFrames_1 : decode prog_1_method_32_code 1 = .ok (.istore_n 1, 1) := by decide +kernel
theorem smd_S_moveFrames_2 : decode prog_1_method_32_code 2 = .ok (.iload_n 1, 1) := by decide +kernel
theorem smd_S_moveFrames_3 : decode prog_1_method_32_code 3 = .ok (.aload_n 0, 1) := by decide +kernel
theorem smd_S_moveFrames_4 : decode prog_1_method_32_code 4 = .ok (.getfield 113, 3) := by decide +kernel
theorem smd_S_moveFrames_7 : decode prog_1_method_32_code 7 = .ok (.if_icmp .ge 57, 3) := by decide +kernel
theorem smd_S_moveFrames_10 : decode prog_1_method_32_code 10 = .ok (.aload_n 0, 1) := by decide +kernel
theorem smd_S_moveFrames_11 : decode prog_1_method_32_code 11 = .ok (.getfield 39, 3) := by decide +kernel
theorem smd_S_moveFrames_14 : decode prog_1_method_32_code 14 = .ok (.iload_n 1, 1) := by decide +kernel
theorem smd_S_moveFrames_15 : decode prog_1_method_32_code 15 = .ok (.aaload, 1) := by decide +kernel
theorem smd_S_moveFrames_16 : decode prog_1_method_32_code 16 = .ok (.astore_n 2, 1) := by decide +kernel
theorem smd_S_moveFrames_17 : decode prog_1_method_32_code 17 = .ok (.aload_n 2, 1) := by decide +kernel
theorem smd_S_moveFrames_18 : decode prog_1_method_32_code 18 = .ok (.getfield 139, 3) := by decide +kernel
theorem smd_S_moveFrames_21 : decode prog_1_method_32_code 21 = .ok (.ifCond .le 37, 3) := by decide +kernel
theorem smd_S_moveFrames_24 : decode prog_1_method_32_code 24 = .ok (.aload_n 0, 1) := by decide +kernel
theorem smd_S_moveFrames_25 : decode prog_1_method_32_code 25 = .ok (.aload_n 2, 1) := by decide +kernel
theorem smd_S_moveFrames_26 : decode prog_1_method_32_code 26 = .ok (.getfield 142, 3) := by decide +kernel
theorem smd_S_moveFrames_29 : decode prog_1_method_32_code 29 = .ok (.aload_n 2, 1) := by decide +kernel
theorem smd_S_moveFrames_30 : decode prog_1_method_32_code 30 = .ok (.getfield 139, 3) := by decide +kernel
theorem smd_S_moveFrames_33 : decode prog_1_method_32_code 33 = .ok (.iconst 1, 1) := by decide +kernel
theorem smd_S_moveFrames_34 : decode prog_1_method_32_code 34 = .ok (.isub, 1) := by decide +kernel
theorem smd_S_moveFrames_35 : decode prog_1_method_32_code 35 = .ok (.iaload, 1) := by decide +kernel
theorem smd_S_moveFrames_36 : decode prog_1_method_32_code 36 = .ok (.invokevirtual 88, 3) := by decide +kernel
theorem smd_S_moveFrames_39 : decode prog_1_method_32_code 39 = .ok (.ifCond .eq 19, 3) := by decide +kernel
theorem smd_S_moveFrames_42 : decode prog_1_method_32_code 42 = .ok (.aload_n 2, 1) := by decide +kernel
theorem smd_S_moveFrames_43 : decode prog_1_method_32_code 43 = .ok (.getfield 145, 3) := by decide +kernel
theorem smd_S_moveFrames_46 : decode prog_1_method_32_code 46 = .ok (.aload_n 2, 1) := by decide +kernel
theorem smd_S_moveFrames_47 : decode prog_1_method_32_code 47 = .ok (.getfield 139, 3) := by decide +kernel
theorem smd_S_moveFrames_50 : decode prog_1_method_32_code 50 = .ok (.iconst 1, 1) := by decide +kernel
theorem smd_S_moveFrames_51 : decode prog_1_method_32_code 51 = .ok (.isub, 1) := by decide +kernel
theorem smd_S_moveFrames_52 : decode prog_1_method_32_code 52 = .ok (.aload_n 0, 1) := by decide +kernel
theorem smd_S_moveFrames_53 : decode prog_1_method_32_code 53 = .ok (.aload_n 2, 1) := by decide +kernel
theorem smd_S_moveFrames_54 : decode prog_1_method_32_code 54 = .ok (.invokevirtual 181, 3) := by decide +kernel
theorem smd_S_moveFrames_57 : decode prog_1_method_32_code 57 = .ok (.iastore, 1) := by decide +kernel
theorem smd_S_moveFrames_58 : decode prog_1_method_32_code 58 = .ok (.iinc 1 1, 3) := by decide +kernel
theorem smd_S_moveFrames_61 : decode prog_1_method_32_code 61 = .ok (.goto (-59), 3) := by decide +kernel
theorem smd_S_moveFrames_64 : decode prog_1_method_32_code 64 = .ok (.return_, 1) := by decide +kernel
theorem smd_S_dropUnreachable_0 : decode prog_1_method_33_code 0 = .ok (.aload_n 0, 1) := by decide +kernel
theorem smd_S_dropUnreachable_1 : decode prog_1_method_33_code 1 = .ok (.getfield 29, 3) := by decide +kernel
theorem smd_S_dropUnreachable_4 : decode prog_1_method_33_code 4 = .ok (.invokevirtual 200, 3) := by decide +kernel
theorem smd_S_dropUnreachable_7 : decode prog_1_method_33_code 7 = .ok (.iconst 0, 1) := by decide +kernel
theorem smd_S_dropUnreachable_8 : decode prog_1_method_33_code 8 = .ok (.istore_n 1, 1) := by decide +kernel
theorem smd_S_dropUnreachable_9 : decode prog_1_method_33_code 9 = .ok (.iload_n 1, 1) := by decide +kernel
theorem smd_S_dropUnreachable_10 : decode prog_1_method_33_code 10 = .ok (.iconst 4, 1) := by decide +kernel
theorem smd_S_dropUnreachable_11 : decode prog_1_method_33_code 11 = .ok (.if_icmp .ge 22, 3) := by decide +kernel
theorem smd_S_dropUnreachable_14 : decode prog_1_method_33_code 14 = .ok (.aload_n 0, 1) := by decide +kernel
theorem smd_S_dropUnreachable_15 : decode prog_1_method_33_code 15 = .ok (.getfield 29, 3) := by decide +kernel
theorem smd_S_dropUnreachable_18 : decode prog_1_method_33_code 18 = .ok (.aload_n 0, 1) := by decide +kernel
theorem smd_S_dropUnreachable_19 : decode prog_1_method_33_code 19 = .ok (.getfield 33, 3) := by decide +kernel
theorem smd_S_dropUnreachable_22 : decode prog_1_method_33_code 22 = .ok (.iload_n 1, 1) := by decide +kernel
theorem smd_S_dropUnreachable_23 : decode prog_1_method_33_code 23 = .ok (.iaload, 1) := by decide +kernel
theorem smd_S_dropUnreachable_24 : decode prog_1_method_33_code 24 = .ok (.invokevirtual 203, 3) := by decide +kernel
theorem smd_S_dropUnreachable_27 : decode prog_1_method_33_code 27 = .ok (.iinc 1 1, 3) := by decide +kernel
theorem smd_S_dropUnreachable_30 : decode prog_1_method_33_code 30 = .ok (.goto (-21), 3) := by decide +kernel
theorem smd_S_dropUnreachable_33 : decode prog_1_method_33_code 33 = .ok (.iconst 0, 1) := by decide +kernel
theorem smd_S_dropUnreachable_34 : decode prog_1_method_33_code 34 = .ok (.istore_n 1, 1) := by decide +kernel
theorem smd_S_dropUnreachable_35 : decode prog_1_method_33_code 35 = .ok (.iload_n 1, 1) := by decide +kernel
theorem smd_S_dropUnreachable_36 : decode prog_1_method_33_code 36 = .ok (.aload_n 0, 1) := by decide +kernel
theorem smd_S_dropUnreachable_37 : decode prog_1_method_33_code 37 = .ok (.getfield 113, 3) := by decide +kernel
theorem smd_S_dropUnreachable_40 : decode prog_1_method_33_code 40 = .ok (.if_icmp .ge 47, 3) := by decide +kernel
theorem smd_S_dropUnreachable_43 : decode prog_1_method_33_code 43 = .ok (.aload_n 0, 1) := by decide +kernel
theorem smd_S_dropUnreachable_44 : decode prog_1_method_33_code 44 = .ok (.getfield 39, 3) := by decide +kernel
theorem smd_S_dropUnreachable_47 : decode prog_1_method_33_code 47 = .ok (.iload_n 1, 1) := by decide +kernel
theorem smd_S_dropUnreachable_48 : decode prog_1_method_33_code 48 = .ok (.aaload, 1) := by decide +kernel
theorem smd_S_dropUnreachable_49 : decode prog_1_method_33_code 49 = .ok (.astore_n 2, 1) := by decide +kernel
theorem smd_S_dropUnreachable_50 : decode prog_1_method_33_code 50 = .ok (.iconst 0, 1) := by decide +kernel
theorem smd_S_dropUnreachable_51 : decode prog_1_method_33_code 51 = .ok (.istore_n 3, 1) := by decide +kernel
theorem smd_S_dropUnreachable_52 : decode prog_1_method_33_code 52 = .ok (.iload_n 3, 1) := by decide +kernel
theorem smd_S_dropUnreachable_53 : decode prog_1_method_33_code 53 = .ok (.aload_n 2, 1) := by decide +kernel
theorem smd_S_dropUnreachable_54 : decode prog_1_method_33_code 54 = .ok (.getfield 139, 3) := by decide +kernel
theorem smd_S_dropUnreachable_57 : decode prog_1_method_33_code 57 = .ok (.iconst 3, 1) := by decide +kernel
theorem smd_S_dropUnreachable_58 : decode prog_1_method_33_code 58 = .ok (.imul, 1) := by decide +kernel
theorem smd_S_dropUnreachable_59 : decode prog_1_method_33_code 59 = .ok (.if_icmp .ge 22, 3) := by decide +kernel
theorem smd_S_dropUnreachable_62 : decode prog_1_method_33_code 62 = .ok (.aload_n 0, 1) := by decide +kernel
theorem smd_S_dropUnreachable_63 : decode prog_1_method_33_code 63 = .ok (.getfield 29, 3) := by decide +kernel
theorem smd_S_dropUnreachable_66 : decode prog_1_method_33_code 66 = .ok (.aload_n 2, 1) := by decide +kernel
theorem smd_S_dropUnreachable_67 : decode prog_1_method_33_code 67 = .ok (.getfield 148, 3) := by decide +kernel
theorem smd_S_dropUnreachable_70 : decode prog_1_method_33_code 70 = .ok (.iload_n 3, 1) := by decide +kernel
theorem smd_S_dropUnreachable_71 : decode prog_1_method_33_code 71 = .ok (.iaload, 1) := by decide +kernel
theorem smd_S_dropUnreachable_72 : decode prog_1_method_33_code 72 = .ok (.invokevirtual 203, 3) := by decide +kernel
theorem smd_S_dropUnreachable_75 : decode prog_1_method_33_code 75 = .ok (.iinc 3 1, 3) := by decide +kernel
theorem smd_S_dropUnreachable_78 : decode prog_1_method_33_code 78 = .ok (.goto (-26), 3) := by decide +kernel
theorem smd_S_dropUnreachable_81 : decode prog_1_method_33_code 81 = .ok (.iinc 1 1, 3) := by decide +kernel
theorem smd_S_dropUnreachable_84 : decode prog_1_method_33_code 84 = .ok (.goto (-49), 3) := by decide +kernel
theorem smd_S_dropUnreachable_87 : decode prog_1_method_33_code 87 = .ok (.aload_n 0, 1) := by decide +kernel
theorem smd_S_dropUnreachable_88 : decode prog_1_method_33_code 88 = .ok (.getfield 29, 3) := by decide +kernel
theorem smd_S_dropUnreachable_91 : decode prog_1_method_33_code 91 = .ok (.invokevirtual 206, 3) := by decide +kernel
theorem smd_S_dropUnreachable_94 : decode prog_1_method_33_code 94 = .ok (.aload_n 0, 1) := by decide +kernel
theorem smd_S_dropUnreachable_95 : decode prog_1_method_33_code 95 = .ok (.getfield 29, 3) := by decide +kernel
theorem smd_S_dropUnreachable_98 : decode prog_1_method_33_code 98 = .ok (.invokevirtual 209, 3) := by decide +kernel
theorem smd_S_dropUnreachable_101 : decode prog_1_method_33_code 101 = .ok (.ireturn, 1) := by decide +kernel
