theorem smd_H_count_0 : decode prog_2_method_3_code 0 = .ok (.iconst 0, 1) := by decide +kernel
theorem smd_H_count_1 : decode prog_2_method_3_code 1 = .ok (.istore_n 1, 1) := by decide +kernel
theorem smd_H_count_2 : decode prog_2_method_3_code 2 = .ok (.iconst 1, 1) := by decide +kernel
theorem smd_H_count_3 : decode prog_2_method_3_code 3 = .ok (.istore_n 2, 1) := by decide +kernel
theorem smd_H_count_4 : decode prog_2_method_3_code 4 = .ok (.iload_n 2, 1) := by decide +kernel
theorem smd_H_count_5 : decode prog_2_method_3_code 5 = .ok (.bipush 16, 2) := by decide +kernel
theorem smd_H_count_7 : decode prog_2_method_3_code 7 = .ok (.if_icmp .gt 25, 3) := by decide +kernel
theorem smd_H_count_10 : decode prog_2_method_3_code 10 = .ok (.iload_n 1, 1) := by decide +kernel
theorem smd_H_count_11 : decode prog_2_method_3_code 11 = .ok (.aload_n 0, 1) := by decide +kernel
theorem smd_H_count_12 : decode prog_2_method_3_code 12 = .ok (.iload_n 2, 1) := by decide +kernel
theorem smd_H_count_13 : decode prog_2_method_3_code 13 = .ok (.invokevirtual 28, 3) := by decide +kernel
theorem smd_H_count_16 : decode prog_2_method_3_code 16 = .ok (.ifCond .eq 7, 3) := by decide +kernel
theorem smd_H_count_19 : decode prog_2_method_3_code 19 = .ok (.iconst 1, 1) := by decide +kernel
theorem smd_H_count_20 : decode prog_2_method_3_code 20 = .ok (.goto 4, 3) := by decide +kernel
theorem smd_H_count_23 : decode prog_2_method_3_code 23 = .ok (.iconst 0, 1) := by decide +kernel
theorem smd_H_count_24 : decode prog_2_method_3_code 24 = .ok (.iadd, 1) := by decide +kernel
theorem smd_H_count_25 : decode prog_2_method_3_code 25 = .ok (.istore_n 1, 1) := by decide +kernel
theorem smd_H_count_26 : decode prog_2_method_3_code 26 = .ok (.iinc 2 1, 3) := by decide +kernel
theorem smd_H_count_29 : decode prog_2_method_3_code 29 = .ok (.goto (-25), 3) := by decide +kernel
theorem smd_H_count_32 : decode prog_2_method_3_code 32 = .ok (.iload_n 1, 1) := by decide +kernel
theorem smd_H_count_33 : decode prog_2_method_3_code 33 = .ok (.ireturn, 1) := by decide +kernel
theorem smd_H_leastFree_0 : decode prog_2_method_4_code 0 = .ok (.iconst 1, 1) := by decide +kernel
theorem smd_H_leastFree_1 : decode prog_2_method_4_code 1 = .ok (.istore_n 1, 1) := by decide +kernel
theorem smd_H_leastFree_2 : decode prog_2_method_4_code 2 = .ok (.iload_n 1, 1) := by decide +kernel
theorem smd_H_leastFree_3 : decode prog_2_method_4_code 3 = .ok (.bipush 16, 2) := by decide +kernel
theorem smd_H_leastFree_5 : decode prog_2_method_4_code 5 = .ok (.if_icmp .gt 19, 3) := by decide +kernel
theorem smd_H_leastFree_8 : decode prog_2_method_4_code 8 = .ok (.aload_n 0, 1) := by decide +kernel
theorem smd_H_leastFree_9 : decode prog_2_method_4_code 9 = .ok (.iload_n 1, 1) := by decide +kernel
theorem smd_H_leastFree_10 : decode prog_2_method_4_code 10 = .ok (.invokevirtual 28, 3) := by decide +kernel
theorem smd_H_leastFree_13 : decode prog_2_method_4_code 13 = .ok (.ifCond .ne 5, 3) := by decide +kernel
theorem smd_H_leastFree_16 : decode prog_2_method_4_code 16 = .ok (.iload_n 1, 1) := by decide +kernel
theorem smd_H_leastFree_17 : decode prog_2_method_4_code 17 = .ok (.ireturn, 1) := by decide +kernel
theorem smd_H_leastFree_18 : decode prog_2_method_4_code 18 = .ok (.iinc 1 1, 3) := by decide +kernel
theorem smd_H_leastFree_21 : decode prog_2_method_4_code 21 = .ok (.goto (-19), 3) := by decide +kernel
theorem smd_H_leastFree_24 : decode prog_2_method_4_code 24 = .ok (.iconst (-1), 1) := by decide +kernel
theorem smd_H_leastFree_25 : decode prog_2_method_4_code 25 = .ok (.ireturn, 1) := by decide +kernel
theorem smd_H_begin_0 : decode prog_2_method_5_code 0 = .ok (.aload_n 0, 1) := by decide +kernel
theorem smd_H_begin_1 : decode prog_2_method_5_code 1 = .ok (.getfield 9, 3) := by decide +kernel
theorem smd_H_begin_4 : decode prog_2_method_5_code 4 = .ok (.iload_n 1, 1) := by decide +kernel
theorem smd_H_begin_5 : decode prog_2_method_5_code 5 = .ok (.iload_n 2, 1) := by decide +kernel
theorem smd_H_begin_6 : decode prog_2_method_5_code 6 = .ok (.iastore, 1) := by decide +kernel
theorem smd_H_begin_7 : decode prog_2_method_5_code 7 = .ok (.iconst 0, 1) := by decide +kernel
theorem smd_H_begin_8 : decode prog_2_method_5_code 8 = .ok (.istore_n 3, 1) := by decide +kernel
theorem smd_H_begin_9 : decode prog_2_method_5_code 9 = .ok (.iload_n 3, 1) := by decide +kernel
theorem smd_H_begin_10 : decode prog_2_method_5_code 10 = .ok (.iconst 4, 1) := by decide +kernel
theorem smd_H_begin_11 : decode prog_2_method_5_code 11 = .ok (.if_icmp .ge 20, 3) := by decide +kernel
theorem smd_H_begin_14 : decode prog_2_method_5_code 14 = .ok (.aload_n 0, 1) := by decide +kernel
theorem smd_H_begin_15 : decode prog_2_method_5_code 15 = .ok (.getfield 15, 3) := by decide +kernel
theorem smd_H_begin_18 : decode prog_2_method_5_code 18 = .ok (.iload_n 1, 1) := by decide +kernel
theorem smd_H_begin_19 : decode prog_2_method_5_code 19 = .ok (.iconst 4, 1) := by decide +kernel
theorem smd_H_begin_20 : decode prog_2_method_5_code 20 = .ok (.imul, 1) := by decide +kernel
theorem smd_H_begin_21 : decode prog_2_method_5_code 21 = .ok (.iload_n 3, 1) := by decide +kernel
theorem smd_H_begin_22 : decode prog_2_method_5_code 22 = .ok (.iadd, 1) := by decide +kernel
theorem smd_H_begin_23 : decode prog_2_method_5_code 23 = .ok (.iconst 0, 1) := by decide +kernel
theorem smd_H_begin_24 : decode prog_2_method_5_code 24 = .ok (.iastore, 1) := by decide +kernel
theorem smd_H_begin_25 : decode prog_2_method_5_code 25 = .ok (.iinc 3 1, 3) := by decide +kernel
theorem smd_H_begin_28 : decode prog_2_method_5_code 28 = .ok (.goto (-19), 3) := by decide +kernel
theorem smd_H_begin_31 : decode prog_2_method_5_code 31 = .ok (.return_, 1) := by decide +kernel
theorem smd_H_cellOf_0 : decode prog_2_method_6_code 0 = .ok (.aload_n 0, 1) := by decide +kernel
theorem smd_H_cellOf_1 : decode prog_2_method_6_code 1 = .ok (.iload_n 1, 1) := by decide +kernel
theorem smd_H_cellOf_2 : decode prog_2_method_6_code 2 = .ok (.invokevirtual 28, 3) := by decide +kernel
theorem smd_H_cellOf_5 : decode prog_2_method_6_code 5 = .ok (.ifCond .eq 25, 3) := by decide +kernel
theorem smd_H_cellOf_8 : decode prog_2_method_6_code 8 = .ok (.aload_n 0, 1) := by decide +kernel
theorem smd_H_cellOf_9 : decode prog_2_method_6_code 9 = .ok (.getfield 9, 3) := by decide +kernel
theorem smd_H_cellOf_12 : decode prog_2_method_6_code 12 = .ok (.iload_n 1, 1) := by decide +kernel
theorem smd_H_cellOf_13 : decode prog_2_method_6_code 13 = .ok (.iaload, 1) := by decide +kernel
theorem smd_H_cellOf_14 : decode prog_2_method_6_code 14 = .ok (.iload_n 2, 1) := by decide +kernel
theorem smd_H_cellOf_15 : decode prog_2_method_6_code 15 = .ok (.iconst 4, 1) := by decide +kernel
theorem smd_H_cellOf_16 : decode prog_2_method_6_code 16 = .ok (.idiv, 1) := by decide +kernel
theorem smd_H_cellOf_17 : decode prog_2_method_6_code 17 = .ok (.if_icmp .ne 13, 3) := by decide +kernel
theorem smd_H_cellOf_20 : decode prog_2_method_6_code 20 = .ok (.iload_n 1, 1) := by decide +kernel
theorem smd_H_cellOf_21 : decode prog_2_method_6_code 21 = .ok (.iconst 4, 1) := by decide +kernel
theorem smd_H_cellOf_22 : decode prog_2_method_6_code 22 = .ok (.imul, 1) := by decide +kernel
theorem smd_H_cellOf_23 : decode prog_2_method_6_code 23 = .ok (.iload_n 2, 1) := by decide +kernel
theorem smd_H_cellOf_24 : decode prog_2_method_6_code 24 = .ok (.iconst 4, 1) := by decide +kernel
theorem smd_H_cellOf_25 : decode prog_2_method_6_code 25 = .ok (.irem, 1) := by decide +kernel
theorem smd_H_cellOf_26 : decode prog_2_method_6_code 26 = .ok (.iadd, 1) := by decide +kernel
theorem smd_H_cellOf_27 : decode prog_2_method_6_code 27 = .ok (.goto 4, 3) := by decide +kernel
theorem smd_H_cellOf_30 : decode prog_2_method_6_code 30 = .ok (.iconst (-1), 1) := by decide +kernel
theorem smd_H_cellOf_31 : decode prog_2_method_6_code 31 = .ok (.ireturn, 1) := by decide +kernel
theorem smd_H_unmarkAll_0 : decode prog_2_method_7_code 0 = .ok (.aload_n 0, 1) := by decide +kernel
theorem smd_H_unmarkAll_1 : decode prog_2_method_7_code 1 = .ok (.iconst 0, 1) := by decide +kernel
theorem smd_H_unmarkAll_2 : decode prog_2_method_7_code 2 = .ok (.putfield 32, 3) := by decide +kernel
theorem smd_H_unmarkAll_5 : decode prog_2_method_7_code 5 = .ok (.iconst 0, 1) := by decide +kernel
theorem smd_H_unmarkAll_6 : decode prog_2_method_7_code 6 = .ok (.istore_n 1, 1) := by decide +kernel
theorem smd_H_unmarkAll_7 : decode prog_2_method_7_code 7 = .ok (.iload_n 1, 1) := by decide +kernel
theorem smd_H_unmarkAll_8 : decode prog_2_method_7_code 8 = .ok (.bipush 16, 2) := by decide +kernel
theorem smd_H_unmarkAll_10 : decode prog_2_method_7_code 10 = .ok (.if_icmp .gt 16, 3) := by decide +kernel
theorem smd_H_unmarkAll_13 : decode prog_2_method_7_code 13 = .ok (.aload_n 0, 1) := by decide +kernel
theorem smd_H_unmarkAll_14 : decode prog_2_method_7_code 14 = .ok (.getfield 21, 3) := by decide +kernel
theorem smd_H_unmarkAll_17 : decode prog_2_method_7_code 17 = .ok (.iload_n 1, 1) := by decide +kernel
theorem smd_H_unmarkAll_18 : decode prog_2_method_7_code 18 = .ok (.iconst 0, 1) := by decide +kernel
theorem smd_H_unmarkAll_19 : decode prog_2_method_7_code 19 = .ok (.bastore, 1) := by decide +kernel
theorem smd_H_unmarkAll_20 : decode prog_2_method_7_code 20 = .ok (.iinc 1 1, 3) := by decide +kernel
theorem smd_H_unmarkAll_23 : decode prog_2_method_7_code 23 = .ok (.goto (-16), 3) := by decide +kernel
theorem smd_H_unmarkAll_26 : decode prog_2_method_7_code 26 = .ok (.return_, 1) := by decide +kernel
theorem smd_H_mark_0 : decode prog_2_method_8_code 0 = .ok (.aload_n 0, 1) := by decide +kernel
theorem smd_H_mark_1 : decode prog_2_method_8_code 1 = .ok (.iload_n 1, 1) := by decide +kernel
theorem smd_H_mark_2 : decode prog_2_method_8_code 2 = .ok (.invokevirtual 28, 3) := by decide +kernel
theorem smd_H_mark_5 : decode prog_2_method_8_code 5 = .ok (.ifCond .eq 39, 3) := by decide +kernel
theorem smd_H_mark_8 : decode prog_2_method_8_code 8 = .ok (.aload_n 0, 1) := by decide +kernel
theorem smd_H_mark_9 : decode prog_2_method_8_code 9 = .ok (.getfield 21, 3) := by decide +kernel
theorem smd_H_mark_12 : decode prog_2_method_8_code 12 = .ok (.iload_n 1, 1) := by decide +kernel
theorem smd_H_mark_13 : decode prog_2_method_8_code 13 = .ok (.baload, 1) := by decide +kernel
theorem smd_H_mark_14 : decode prog_2_method_8_code 14 = .ok (.ifCond .ne 30, 3) := by decide +kernel
theorem smd_H_mark_17 : decode prog_2_method_8_code 17 = .ok (.aload_n 0, 1) := by decide +kernel
theorem smd_H_mark_18 : decode prog_2_method_8_code 18 = .ok (.getfield 21, 3) := by decide +kernel
theorem smd_H_mark_21 : decode prog_2_method_8_code 21 = .ok (.iload_n 1, 1) := by decide +kernel
theorem smd_H_mark_22 : decode prog_2_method_8_code 22 = .ok (.iconst 1, 1) := by decide +kernel
theorem smd_H_mark_23 : decode prog_2_method_8_code 23 = .ok (.bastore, 1) := by decide +kernel
theorem smd_H_mark_24 : decode prog_2_method_8_code 24 = .ok (.aload_n 0, 1) := by decide +kernel
theorem smd_H_mark_25 : decode prog_2_method_8_code 25 = .ok (.getfield 25, 3) := by decide +kernel
theorem smd_H_mark_28 : decode prog_2_method_8_code 28 = .ok (.aload_n 0, 1) := by decide +kernel
theorem smd_H_mark_29 : decode prog_2_method_8_code 29 = .ok (.getfield 32, 3) := by decide +kernel
theorem smd_H_mark_32 : decode prog_2_method_8_code 32 = .ok (.iload_n 1, 1) := by decide +kernel
theorem smd_H_mark_33 : decode prog_2_method_8_code 33 = .ok (.iastore, 1) := by decide +kernel
theorem smd_H_mark_34 : decode prog_2_method_8_code 34 = .ok (.aload_n 0, 1) := by decide +kernel
theorem smd_H_mark_35 : decode prog_2_method_8_code 35 = .ok (.dup, 1) := by decide +kernel
theorem smd_H_mark_36 : decode prog_2_method_8_code 36 = .ok (.getfield 32, 3) := by decide +kernel
theorem smd_H_mark_39 : decode prog_2_method_8_code 39 = .ok (.iconst 1, 1) := by decide +kernel
theorem smd_H_mark_40 : decode prog_2_method_8_code 40 = .ok (.iadd, 1) := by decide +kernel
theorem smd_H_mark_41 : decode prog_2_method_8_code 41 = .ok (.putfield 32, 3) := by decide +kernel
theorem smd_H_mark_44 : decode prog_2_method_8_code 44 = .ok (.return_, 1) := by decide +kernel
theorem smd_H_markFromMarked_0 : decode prog_2_method_9_code 0 = .ok (.iconst 0, 1) := by decide +kernel
theorem smd_H_markFromMarked_1 : decode prog_2_method_9_code 1 = .ok (.istore_n 1, 1) := by decide +kernel
theorem smd_H_markFromMarked_2 : decode prog_2_method_9_code 2 = .ok (.iload_n 1, 1) := by decide +kernel
theorem smd_H_markFromMarked_3 : decode prog_2_method_9_code 3 = .ok (.aload_n 0, 1) := by decide +kernel
theorem smd_H_markFromMarked_4 : decode prog_2_method_9_code 4 = .ok (.getfield 32, 3) := by decide +kernel
theorem smd_H_markFromMarked_7 : decode prog_2_method_9_code 7 = .ok (.if_icmp .ge 47, 3) := by decide +kernel
theorem smd_H_markFromMarked_10 : decode prog_2_method_9_code 10 = .ok (.iload_n 1, 1) := by decide +kernel
theorem smd_H_markFromMarked_11 : decode prog_2_method_9_code 11 = .ok (.bipush 16, 2) := by decide +kernel
theorem smd_H_markFromMarked_13 : decode prog_2_method_9_code 13 = .ok (.if_icmp .ge 41, 3) := by decide +kernel
theorem smd_H_markFromMarked_16 : decode prog_2_method_9_code 16 = .ok (.iconst 0, 1) := by decide +kernel
theorem smd_H_markFromMarked_17 : decode prog_2_method_9_code 17 = .ok (.istore_n 2, 1) := by decide +kernel
theorem smd_H_markFromMarked_18 : decode prog_2_method_9_code 18 = .ok (.iload_n 2, 1) := by decide +kernel
theorem smd_H_markFromMarked_19 : decode prog_2_method_9_code 19 = .ok (.iconst 4, 1) := by decide +kernel
theorem smd_H_markFromMarked_20 : decode prog_2_method_9_code 20 = .ok (.if_icmp .ge 28, 3) := by decide +kernel
theorem smd_H_markFromMarked_23 : decode prog_2_method_9_code 23 = .ok (.aload_n 0, 1) := by decide +kernel
theorem smd_H_markFromMarked_24 : decode prog_2_method_9_code 24 = .ok (.aload_n 0, 1) := by decide +kernel
theorem smd_H_markFromMarked_25 : decode prog_2_method_9_code 25 = .ok (.getfield 15, 3) := by decide +kernel
theorem smd_H_markFromMarked_28 : decode prog_2_method_9_code 28 = .ok (.aload_n 0, 1) := by decide +kernel
theorem smd_H_markFromMarked_29 : decode prog_2_method_9_code 29 = .ok (.getfield 25, 3) := by decide +kernel
theorem smd_H_markFromMarked_32 : decode prog_2_method_9_code 32 = .ok (.iload_n 1, 1) := by decide +kernel
theorem smd_H_markFromMarked_33 : decode prog_2_method_9_code 33 = .ok (.iaload, 1) := by decide +kernel
theorem smd_H_markFromMarked_34 : decode prog_2_method_9_code 34 = .ok (.iconst 4, 1) := by decide +kernel
theorem smd_H_markFromMarked_35 : decode prog_2_method_9_code 35 = .ok (.imul, 1) := by decide +kernel
theorem smd_H_markFromMarked_36 : decode prog_2_method_9_code 36 = .ok (.iload_n 2, 1) := by decide +kernel
theorem smd_H_markFromMarked_37 : decode prog_2_method_9_code 37 = .ok (.iadd, 1) := by decide +kernel
theorem smd_H_markFromMarked_38 : decode prog_2_method_9_code 38 = .ok (.iaload, 1) := by decide +kernel
theorem smd_H_markFromMarked_39 : decode prog_2_method_9_code 39 = .ok (.invokevirtual 36, 3) := by decide +kernel
theorem smd_H_markFromMarked_42 : decode prog_2_method_9_code 42 = .ok (.iinc 2 1, 3) := by decide +kernel
theorem smd_H_markFromMarked_45 : decode prog_2_method_9_code 45 = .ok (.goto (-27), 3) := by decide +kernel
theorem smd_H_markFromMarked_48 : decode prog_2_method_9_code 48 = .ok (.iinc 1 1, 3) := by decide +kernel
theorem smd_H_markFromMarked_51 : decode prog_2_method_9_code 51 = .ok (.goto (-49), 3) := by decide +kernel
theorem smd_H_markFromMarked_54 : decode prog_2_method_9_code 54 = .ok (.return_, 1) := by decide +kernel
theorem smd_H_dropUnmarked_0 : decode prog_2_method_10_code 0 = .ok (.iconst 0, 1) := by decide +kernel
theorem smd_H_dropUnmarked_1 : decode prog_2_method_10_code 1 = .ok (.istore_n 1, 1) := by decide +kernel
theorem smd_H_dropUnmarked_2 : decode prog_2_method_10_code 2 = .ok (.iconst 1, 1) := by decide +kernel
theorem smd_H_dropUnmarked_3 : decode prog_2_method_10_code 3 = .ok (.istore_n 2, 1) := by decide +kernel
theorem smd_H_dropUnmarked_4 : decode prog_2_method_10_code 4 = .ok (.iload_n 2, 1) := by decide +kernel
theorem smd_H_dropUnmarked_5 : decode prog_2_method_10_code 5 = .ok (.bipush 16, 2) := by decide +kernel
theorem smd_H_dropUnmarked_7 : decode prog_2_method_10_code 7 = .ok (.if_icmp .gt 36, 3) := by decide +kernel
theorem smd_H_dropUnmarked_10 : decode prog_2_method_10_code 10 = .ok (.aload_n 0, 1) := by decide +kernel
theorem smd_H_dropUnmarked_11 : decode prog_2_method_10_code 11 = .ok (.iload_n 2, 1) := by decide +kernel
theorem smd_H_dropUnmarked_12 : decode prog_2_method_10_code 12 = .ok (.invokevirtual 28, 3) := by decide +kernel
theorem smd_H_dropUnmarked_15 : decode prog_2_method_10_code 15 = .ok (.ifCond .eq 22, 3) := by decide +kernel
theorem smd_H_dropUnmarked_18 : decode prog_2_method_10_code 18 = .ok (.aload_n 0, 1) := by decide +kernel
theorem smd_H_dropUnmarked_19 : decode prog_2_method_10_code 19 = .ok (.getfield 21, 3) := by decide +kernel
theorem smd_H_dropUnmarked_22 : decode prog_2_method_10_code 22 = .ok (.iload_n 2, 1) := by decide +kernel
theorem smd_H_dropUnmarked_23 : decode prog_2_method_10_code 23 = .ok (.baload, 1) := by decide +kernel
theorem smd_H_dropUnmarked_24 : decode prog_2_method_10_code 24 = .ok (.ifCond .ne 13, 3) := by decide +kernel
theorem smd_H_dropUnmarked_27 : decode prog_2_method_10_code 27 = .ok (.aload_n 0, 1) := by decide +kernel
theorem smd_H_dropUnmarked_28 : decode prog_2_method_10_code 28 = .ok (.getfield 9, 3) := by decide +kernel
theorem smd_H_dropUnmarked_31 : decode prog_2_method_10_code 31 = .ok (.iload_n 2, 1) := by decide +kernel
theorem smd_H_dropUnmarked_32 : decode prog_2_method_10_code 32 = .ok (.iconst (-1), 1) := by decide +kernel
theorem smd_H_dropUnmarked_33 : decode prog_2_method_10_code 33 = .ok (.iastore, 1) := by decide +kernel
theorem smd_H_dropUnmarked_34 : decode prog_2_method_10_code 34 = .ok (.iinc 1 1, 3) := by decide +kernel
theorem smd_H_dropUnmarked_37 : decode prog_2_method_10_code 37 = .ok (.iinc 2 1, 3) := by decide +kernel
theorem smd_H_dropUnmarked_40 : decode prog_2_method_10_code 40 = .ok (.goto (-36), 3) := by decide +kernel
theorem smd_H_dropUnmarked_43 : decode prog_2_method_10_code 43 = .ok (.iload_n 1, 1) := by decide +kernel
theorem smd_H_dropUnmarked_44 : decode prog_2_method_10_code 44 = .ok (.ireturn, 1) := by decide +kernel
theorem smd_H_makeOver_0 : decode prog_2_method_11_code 0 = .ok (.aload_n 0, 1) := by decide +kernel
theorem smd_H_makeOver_1 : decode prog_2_method_11_code 1 = .ok (.getfield 15, 3) := by decide +kernel
theorem smd_H_makeOver_4 : decode prog_2_method_11_code 4 = .ok (.iconst 0, 1) := by decide +kernel
theorem smd_H_makeOver_5 : decode prog_2_method_11_code 5 = .ok (.aload_n 0, 1) := by decide +kernel
theorem smd_H_makeOver_6 : decode prog_2_method_11_code 6 = .ok (.getfield 18, 3) := by decide +kernel
theorem smd_H_makeOver_9 : decode prog_2_method_11_code 9 = .ok (.iconst 0, 1) := by decide +kernel
theorem smd_H_makeOver_10 : decode prog_2_method_11_code 10 = .ok (.aload_n 0, 1) := by decide +kernel
theorem smd_H_makeOver_11 : decode prog_2_method_11_code 11 = .ok (.getfield 15, 3) := by decide +kernel
theorem smd_H_makeOver_14 : decode prog_2_method_11_code 14 = .ok (.arraylength, 1) := by decide +kernel
theorem smd_H_makeOver_15 : decode prog_2_method_11_code 15 = .ok (.invokestatic 40, 3) := by decide +kernel
theorem smd_H_makeOver_18 : decode prog_2_method_11_code 18 = .ok (.iload_n 3, 1) := by decide +kernel
theorem smd_H_makeOver_19 : decode prog_2_method_11_code 19 = .ok (.istore 4, 2) := by decide +kernel
theorem smd_H_makeOver_21 : decode prog_2_method_11_code 21 = .ok (.iconst 1, 1) := by decide +kernel
theorem smd_H_makeOver_22 : decode prog_2_method_11_code 22 = .ok (.istore 5, 2) := by decide +kernel
theorem smd_H_makeOver_24 : decode prog_2_method_11_code 24 = .ok (.iload 5, 2) := by decide +kernel
theorem smd_H_makeOver_26 : decode prog_2_method_11_code 26 = .ok (.bipush 16, 2) := by decide +kernel
theorem smd_H_makeOver_28 : decode prog_2_method_11_code 28 = .ok (.if_icmp .gt 73, 3) := by decide +kernel
theorem smd_H_makeOver_31 : decode prog_2_method_11_code 31 = .ok (.aload_n 0, 1) := by decide +kernel
theorem smd_H_makeOver_32 : decode prog_2_method_11_code 32 = .ok (.iload 5, 2) := by decide +kernel
theorem smd_H_makeOver_34 : decode prog_2_method_11_code 34 = .ok (.invokevirtual 28, 3) := by decide +kernel
theorem smd_H_makeOver_37 : decode prog_2_method_11_code 37 = .ok (.ifCond .eq 58, 3) := by decide +kernel
theorem smd_H_makeOver_40 : decode prog_2_method_11_code 40 = .ok (.aload_n 1, 1) := by decide +kernel
theorem smd_H_makeOver_41 : decode prog_2_method_11_code 41 = .ok (.getfield 46, 3) := by decide +kernel
theorem smd_H_makeOver_44 : decode prog_2_method_11_code 44 = .ok (.aload_n 0, 1) := by decide +kernel
theorem smd_H_makeOver_45 : decode prog_2_method_11_code 45 = .ok (.getfield 9, 3) := by decide +kernel
theorem smd_H_makeOver_48 : decode prog_2_method_11_code 48 = .ok (.iload 5, 2) := by decide +kernel
theorem smd_H_makeOver_50 : decode prog_2_method_11_code 50 = .ok (.iaload, 1) := by decide +kernel
theorem smd_H_makeOver_51 : decode prog_2_method_11_code 51 = .ok (.baload, 1) := by decide +kernel
theorem smd_H_makeOver_52 : decode prog_2_method_11_code 52 = .ok (.ifCond .eq 43, 3) := by decide +kernel
theorem smd_H_makeOver_55 : decode prog_2_method_11_code 55 = .ok (.aload_n 2, 1) := by decide +kernel
theorem smd_H_makeOver_56 : decode prog_2_method_11_code 56 = .ok (.getfield 51, 3) := by decide +kernel
theorem smd_H_makeOver_59 : decode prog_2_method_11_code 59 = .ok (.aload_n 0, 1) := by decide +kernel
theorem smd_H_makeOver_60 : decode prog_2_method_11_code 60 = .ok (.getfield 9, 3) := by decide +kernel
theorem smd_H_makeOver_63 : decode prog_2_method_11_code 63 = .ok (.iload 5, 2) := by decide +kernel
theorem smd_H_makeOver_65 : decode prog_2_method_11_code 65 = .ok (.iaload, 1) := by decide +kernel
theorem smd_H_makeOver_66 : decode prog_2_method_11_code 66 = .ok (.iaload, 1) := by decide +kernel
theorem smd_H_makeOver_67 : decode prog_2_method_11_code 67 = .ok (.istore 6, 2) := by decide +kernel
theorem smd_H_makeOver_69 : decode prog_2_method_11_code 69 = .ok (.iload 4, 2) := by decide +kernel
theorem smd_H_makeOver_71 : decode prog_2_method_11_code 71 = .ok (.iload 6, 2) := by decide +kernel
theorem smd_H_makeOver_73 : decode prog_2_method_11_code 73 = .ok (.if_icmp .lt 13, 3) := by decide +kernel
theorem smd_H_makeOver_76 : decode prog_2_method_11_code 76 = .ok (.aload_n 0, 1) := by decide +kernel
theorem smd_H_makeOver_77 : decode prog_2_method_11_code 77 = .ok (.iload 5, 2) := by decide +kernel
theorem smd_H_makeOver_79 : decode prog_2_method_11_code 79 = .ok (.aload_n 1, 1) := by decide +kernel
theorem smd_H_makeOver_80 : decode prog_2_method_11_code 80 = .ok (.invokevirtual 56, 3) := by decide +kernel
theorem smd_H_makeOver_83 : decode prog_2_method_11_code 83 = .ok (.ifCond .ne 5, 3) := by decide +kernel
theorem smd_H_makeOver_86 : decode prog_2_method_11_code 86 = .ok (.iconst 0, 1) := by decide +kernel
theorem smd_H_makeOver_87 : decode prog_2_method_11_code 87 = .ok (.ireturn, 1) := by decide +kernel
theorem smd_H_makeOver_88 : decode prog_2_method_11_code 88 = .ok (.iload 4, 2) := by decide +kernel
theorem smd_H_makeOver_90 : decode prog_2_method_11_code 90 = .ok (.iload 6, 2) := by decide +kernel
theorem smd_H_makeOver_92 : decode prog_2_method_11_code 92 = .ok (.isub, 1) := by decide +kernel
theorem smd_H_makeOver_93 : decode prog_2_method_11_code 93 = .ok (.istore 4, 2) := by decide +kernel
theorem smd_H_makeOver_95 : decode prog_2_method_11_code 95 = .ok (.iinc 5 1, 3) := by decide +kernel
theorem smd_H_makeOver_98 : decode prog_2_method_11_code 98 = .ok (.goto (-74), 3) := by decide +kernel
theorem smd_H_makeOver_101 : decode prog_2_method_11_code 101 = .ok (.aload_n 0, 1) := by decide +kernel
theorem smd_H_makeOver_102 : decode prog_2_method_11_code 102 = .ok (.getfield 18, 3) := by decide +kernel
theorem smd_H_makeOver_105 : decode prog_2_method_11_code 105 = .ok (.iconst 0, 1) := by decide +kernel
theorem smd_H_makeOver_106 : decode prog_2_method_11_code 106 = .ok (.aload_n 0, 1) := by decide +kernel
theorem smd_H_makeOver_107 : decode prog_2_method_11_code 107 = .ok (.getfield 15, 3) := by decide +kernel
theorem smd_H_makeOver_110 : decode prog_2_method_11_code 110 = .ok (.iconst 0, 1) := by decide +kernel
theorem smd_H_makeOver_111 : decode prog_2_method_11_code 111 = .ok (.aload_n 0, 1) := by decide +kernel
theorem smd_H_makeOver_112 : decode prog_2_method_11_code 112 = .ok (.getfield 15, 3) := by decide +kernel
theorem smd_H_makeOver_115 : decode prog_2_method_11_code 115 = .ok (.arraylength, 1) := by decide +kernel
theorem smd_H_makeOver_116 : decode prog_2_method_11_code 116 = .ok (.invokestatic 40, 3) := by decide +kernel
theorem smd_H_makeOver_119 : decode prog_2_method_11_code 119 = .ok (.iconst 1, 1) := by decide +kernel
theorem smd_H_makeOver_120 : decode prog_2_method_11_code 120 = .ok (.ireturn, 1) := by decide +kernel
theorem smd_H_makeOverOne_0 : decode prog_2_method_12_code 0 = .ok (.iload_n 1, 1) := by decide +kernel
theorem smd_H_makeOverOne_1 : decode prog_2_method_12_code 1 = .ok (.iconst 4, 1) := by decide +kernel
theorem smd_H_makeOverOne_2 : decode prog_2_method_12_code 2 = .ok (.imul, 1) := by decide +kernel
theorem smd_H_makeOverOne_3 : decode prog_2_method_12_code 3 = .ok (.istore_n 3, 1) := by decide +kernel
theorem smd_H_makeOverOne_4 : decode prog_2_method_12_code 4 = .ok (.iconst 0, 1) := by decide +kernel
theorem smd_H_makeOverOne_5 : decode prog_2_method_12_code 5 = .ok (.istore 4, 2) := by decide +kernel
theorem smd_H_makeOverOne_7 : decode prog_2_method_12_code 7 = .ok (.iload 4, 2) := by decide +kernel
theorem smd_H_makeOverOne_9 : decode prog_2_method_12_code 9 = .ok (.iconst 4, 1) := by decide +kernel
theorem smd_H_makeOverOne_10 : decode prog_2_method_12_code 10 = .ok (.if_icmp .ge 58, 3) := by decide +kernel
theorem smd_H_makeOverOne_13 : decode prog_2_method_12_code 13 = .ok (.aload_n 0, 1) := by decide +kernel
theorem smd_H_makeOverOne_14 : decode prog_2_method_12_code 14 = .ok (.getfield 9, 3) := by decide +kernel
theorem smd_H_makeOverOne_17 : decode prog_2_method_12_code 17 = .ok (.iload_n 1, 1) := by decide +kernel
theorem smd_H_makeOverOne_18 : decode prog_2_method_12_code 18 = .ok (.iaload, 1) := by decide +kernel
theorem smd_H_makeOverOne_19 : decode prog_2_method_12_code 19 = .ok (.iconst 4, 1) := by decide +kernel
theorem smd_H_makeOverOne_20 : decode prog_2_method_12_code 20 = .ok (.imul, 1) := by decide +kernel
theorem smd_H_makeOverOne_21 : decode prog_2_method_12_code 21 = .ok (.iload 4, 2) := by decide +kernel
theorem smd_H_makeOverOne_23 : decode prog_2_method_12_code 23 = .ok (.iadd, 1) := by decide +kernel
theorem smd_H_makeOverOne_24 : decode prog_2_method_12_code 24 = .ok (.istore 5, 2) := by decide +kernel
theorem smd_H_makeOverOne_26 : decode prog_2_method_12_code 26 = .ok (.aload_n 2, 1) := by decide +kernel
theorem smd_H_makeOverOne_27 : decode prog_2_method_12_code 27 = .ok (.iload 5, 2) := by decide +kernel
theorem smd_H_makeOverOne_29 : decode prog_2_method_12_code 29 = .ok (.aload_n 0, 1) := by decide +kernel
theorem smd_H_makeOverOne_30 : decode prog_2_method_12_code 30 = .ok (.getfield 15, 3) := by decide +kernel
theorem smd_H_makeOverOne_33 : decode prog_2_method_12_code 33 = .ok (.iload_n 3, 1) := by decide +kernel
theorem smd_H_makeOverOne_34 : decode prog_2_method_12_code 34 = .ok (.invokevirtual 60, 3) := by decide +kernel
theorem smd_H_makeOverOne_37 : decode prog_2_method_12_code 37 = .ok (.ifCond .eq 5, 3) := by decide +kernel
theorem smd_H_makeOverOne_40 : decode prog_2_method_12_code 40 = .ok (.iconst 0, 1) := by decide +kernel
theorem smd_H_makeOverOne_41 : decode prog_2_method_12_code 41 = .ok (.ireturn, 1) := by decide +kernel
theorem smd_H_makeOverOne_42 : decode prog_2_method_12_code 42 = .ok (.aload_n 0, 1) := by decide +kernel
theorem smd_H_makeOverOne_43 : decode prog_2_method_12_code 43 = .ok (.getfield 18, 3) := by decide +kernel
theorem smd_H_makeOverOne_46 : decode prog_2_method_12_code 46 = .ok (.iload_n 3, 1) := by decide +kernel
theorem smd_H_makeOverOne_47 : decode prog_2_method_12_code 47 = .ok (.iload 4, 2) := by decide +kernel
theorem smd_H_makeOverOne_49 : decode prog_2_method_12_code 49 = .ok (.iadd, 1) := by decide +kernel
theorem smd_H_makeOverOne_50 : decode prog_2_method_12_code 50 = .ok (.aload_n 2, 1) := by decide +kernel
theorem smd_H_makeOverOne_51 : decode prog_2_method_12_code 51 = .ok (.iload 5, 2) := by decide +kernel
theorem smd_H_makeOverOne_53 : decode prog_2_method_12_code 53 = .ok (.aload_n 0, 1) := by decide +kernel
theorem smd_H_makeOverOne_54 : decode prog_2_method_12_code 54 = .ok (.getfield 15, 3) := by decide +kernel
theorem smd_H_makeOverOne_57 : decode prog_2_method_12_code 57 = .ok (.iload_n 3, 1) := by decide +kernel
theorem smd_H_makeOverOne_58 : decode prog_2_method_12_code 58 = .ok (.invokevirtual 64, 3) := by decide +kernel
theorem smd_H_makeOverOne_61 : decode prog_2_method_12_code 61 = .ok (.iastore, 1) := by decide +kernel
theorem smd_H_makeOverOne_62 : decode prog_2_method_12_code 62 = .ok (.iinc 4 1, 3) := by decide +kernel
theorem smd_H_makeOverOne_65 : decode prog_2_method_12_code 65 = .ok (.goto (-58), 3) := by decide +kernel
theorem smd_H_makeOverOne_68 : decode prog_2_method_12_code 68 = .ok (.iconst 1, 1) := by decide +kernel
theorem smd_H_makeOverOne_69 : decode prog_2_method_12_code 69 = .ok (.ireturn, 1) := by decide +kernel
theorem smd_R_init_0 : decode prog_3_method_1_code 0 = .ok (.aload_n 0, 1) := by decide +kernel
theorem smd_R_init_1 : decode prog_3_method_1_code 1 = .ok (.invokespecial 3, 3) := by decide +kernel
theorem smd_R_init_4 : decode prog_3_method_1_code 4 = .ok (.aload_n 0, 1) := by decide +kernel
theorem smd_R_init_5 : decode prog_3_method_1_code 5 = .ok (.iconst 3, 1) := by decide +kernel
theorem smd_R_init_6 : decode prog_3_method_1_code 6 = .ok (.newarray .boolean, 2) := by decide +kernel
theorem smd_R_init_8 : decode prog_3_method_1_code 8 = .ok (.putfield 9, 3) := by decide +kernel
theorem smd_R_init_11 : decode prog_3_method_1_code 11 = .ok (.aload_n 0, 1) := by decide +kernel
theorem smd_R_init_12 : decode prog_3_method_1_code 12 = .ok (.bipush 12, 2) := by decide +kernel
theorem smd_R_init_14 : decode prog_3_method_1_code 14 = .ok (.newarray .int, 2) := by decide +kernel
theorem smd_R_init_16 : decode prog_3_method_1_code 16 = .ok (.putfield 15, 3) := by decide +kernel
theorem smd_R_init_19 : decode prog_3_method_1_code 19 = .ok (.aload_n 0, 1) := by decide +kernel
theorem smd_R_init_20 : decode prog_3_method_1_code 20 = .ok (.bipush 12, 2) := by decide +kernel
theorem smd_R_init_22 : decode prog_3_method_1_code 22 = .ok (.newarray .int, 2) := by decide +kernel
theorem smd_R_init_24 : decode prog_3_method_1_code 24 = .ok (.putfield 19, 3) := by decide +kernel
theorem smd_R_init_27 : decode prog_3_method_1_code 27 = .ok (.aload_n 0, 1) := by decide +kernel
theorem smd_R_init_28 : decode prog_3_method_1_code 28 = .ok (.bipush 12, 2) := by decide +kernel
theorem smd_R_init_30 : decode prog_3_method_1_code 30 = .ok (.newarray .int, 2) := by decide +kernel
theorem smd_R_init_32 : decode prog_3_method_1_code 32 = .ok (.putfield 22, 3) := by decide +kernel
theorem smd_R_init_35 : decode prog_3_method_1_code 35 = .ok (.return_, 1) := by decide +kernel
theorem smd_R_write_0 : decode prog_3_method_2_code 0 = .ok (.iload_n 1, 1) := by decide +kernel
theorem smd_R_write_1 : decode prog_3_method_2_code 1 = .ok (.iconst 4, 1) := by decide +kernel
theorem smd_R_write_2 : decode prog_3_method_2_code 2 = .ok (.imul, 1) := by decide +kernel
theorem smd_R_write_3 : decode prog_3_method_2_code 3 = .ok (.iload_n 2, 1) := by decide +kernel
theorem smd_R_write_4 : decode prog_3_method_2_code 4 = .ok (.iadd, 1) := by decide +kernel
theorem smd_R_write_5 : decode prog_3_method_2_code 5 = .ok (.istore 6, 2) := by decide +kernel
theorem smd_R_write_7 : decode prog_3_method_2_code 7 = .ok (.aload_n 0, 1) := by decide +kernel
theorem smd_R_write_8 : decode prog_3_method_2_code 8 = .ok (.getfield 15, 3) := by decide +kernel
theorem smd_R_write_11 : decode prog_3_method_2_code 11 = .ok (.iload 6, 2) := by decide +kernel
theorem smd_R_write_13 : decode prog_3_method_2_code 13 = .ok (.iload_n 3, 1) := by decide +kernel
theorem smd_R_write_14 : decode prog_3_method_2_code 14 = .ok (.iastore, 1) := by decide +kernel
theorem smd_R_write_15 : decode prog_3_method_2_code 15 = .ok (.aload_n 0, 1) := by decide +kernel
theorem smd_R_write_16 : decode prog_3_method_2_code 16 = .ok (.getfield 19, 3) := by decide +kernel
theorem smd_R_write_19 : decode prog_3_method_2_code 19 = .ok (.iload 6, 2) := by decide +kernel
theorem smd_R_write_21 : decode prog_3_method_2_code 21 = .ok (.iload 4, 2) := by decide +kernel
theorem smd_R_write_23 : decode prog_3_method_2_code 23 = .ok (.iastore, 1) := by decide +kernel
theorem smd_R_write_24 : decode prog_3_method_2_code 24 = .ok (.aload_n 0, 1) := by decide +kernel
theorem smd_R_write_25 : decode prog_3_method_2_code 25 = .ok (.getfield 22, 3) := by decide +kernel
theorem smd_R_write_28 : decode prog_3_method_2_code 28 = .ok (.iload 6, 2) := by decide +kernel
theorem smd_R_write_30 : decode prog_3_method_2_code 30 = .ok (.iload 5, 2) := by decide +kernel
theorem smd_R_write_32 : decode prog_3_method_2_code 32 = .ok (.iastore, 1) := by decide +kernel
theorem smd_R_write_33 : decode prog_3_method_2_code 33 = .ok (.return_, 1) := by decide +kernel
theorem smd_R_forgetType_0 : decode prog_3_method_3_code 0 = .ok (.iconst 0, 1) := by decide +kernel
theorem smd_R_forgetType_1 : decode prog_3_method_3_code 1 = .ok (.istore_n 2, 1) := by decide +kernel
theorem smd_R_forgetType_2 : decode prog_3_method_3_code 2 = .ok (.iload_n 2, 1) := by decide +kernel
theorem smd_R_forgetType_3 : decode prog_3_method_3_code 3 = .ok (.iconst 4, 1) := by decide +kernel
theorem smd_R_forgetType_4 : decode prog_3_method_3_code 4 = .ok (.if_icmp .ge 18, 3) := by decide +kernel
theorem smd_R_forgetType_7 : decode prog_3_method_3_code 7 = .ok (.aload_n 0, 1) := by decide +kernel
theorem smd_R_forgetType_8 : decode prog_3_method_3_code 8 = .ok (.iload_n 1, 1) := by decide +kernel
theorem smd_R_forgetType_9 : decode prog_3_method_3_code 9 = .ok (.iload_n 2, 1) := by decide +kernel
theorem smd_R_forgetType_10 : decode prog_3_method_3_code 10 = .ok (.iconst 0, 1) := by decide +kernel
theorem smd_R_forgetType_11 : decode prog_3_method_3_code 11 = .ok (.iconst 0, 1) := by decide +kernel
theorem smd_R_forgetType_12 : decode prog_3_method_3_code 12 = .ok (.iconst 0, 1) := by decide +kernel
theorem smd_R_forgetType_13 : decode prog_3_method_3_code 13 = .ok (.invokevirtual 25, 3) := by decide +kernel
theorem smd_R_forgetType_16 : decode prog_3_method_3_code 16 = .ok (.iinc 2 1, 3) := by decide +kernel
theorem smd_R_forgetType_19 : decode prog_3_method_3_code 19 = .ok (.goto (-17), 3) := by decide +kernel
theorem smd_R_forgetType_22 : decode prog_3_method_3_code 22 = .ok (.return_, 1) := by decide +kernel
theorem smd_R_forgetAll_0 : decode prog_3_method_4_code 0 = .ok (.iconst 0, 1) := by decide +kernel
theorem smd_R_forgetAll_1 : decode prog_3_method_4_code 1 = .ok (.istore_n 1, 1) := by decide +kernel
theorem smd_R_forgetAll_2 : decode prog_3_method_4_code 2 = .ok (.iload_n 1, 1) := by decide +kernel
theorem smd_R_forgetAll_3 : decode prog_3_method_4_code 3 = .ok (.iconst 3, 1) := by decide +kernel
theorem smd_R_forgetAll_4 : decode prog_3_method_4_code 4 = .ok (.if_icmp .ge 21, 3) := by decide +kernel
theorem smd_R_forgetAll_7 : decode prog_3_method_4_code 7 = .ok (.aload_n 0, 1) := by decide +kernel
theorem smd_R_forgetAll_8 : decode prog_3_method_4_code 8 = .ok (.iload_n 1, 1) := by decide +kernel
theorem smd_R_forgetAll_9 : decode prog_3_method_4_code 9 = .ok (.invokevirtual 29, 3) := by decide +kernel
theorem smd_R_forgetAll_12 : decode prog_3_method_4_code 12 = .ok (.aload_n 0, 1) := by decide +kernel
theorem smd_R_forgetAll_13 : decode prog_3_method_4_code 13 = .ok (.getfield 9, 3) := by decide +kernel
theorem smd_R_forgetAll_16 : decode prog_3_method_4_code 16 = .ok (.iload_n 1, 1) := by decide +kernel
theorem smd_R_forgetAll_17 : decode prog_3_method_4_code 17 = .ok (.iconst 0, 1) := by decide +kernel
theorem smd_R_forgetAll_18 : decode prog_3_method_4_code 18 = .ok (.bastore, 1) := by decide +kernel
theorem smd_R_forgetAll_19 : decode prog_3_method_4_code 19 = .ok (.iinc 1 1, 3) := by decide +kernel
theorem smd_R_forgetAll_22 : decode prog_3_method_4_code 22 = .ok (.goto (-20), 3) := by decide +kernel
theorem smd_R_forgetAll_25 : decode prog_3_method_4_code 25 = .ok (.return_, 1) := by decide +kernel
theorem smd_R_firstWithoutSource_0 : decode prog_3_method_5_code 0 = .ok (.iconst 0, 1) := by decide +kernel
theorem smd_R_firstWithoutSource_1 : decode prog_3_method_5_code 1 = .ok (.istore_n 3, 1) := by decide +kernel
theorem smd_R_firstWithoutSource_2 : decode prog_3_method_5_code 2 = .ok (.iload_n 3, 1) := by decide +kernel
theorem smd_R_firstWithoutSource_3 : decode prog_3_method_5_code 3 = .ok (.iconst 3, 1) := by decide +kernel
theorem smd_R_firstWithoutSource_4 : decode prog_3_method_5_code 4 = .ok (.if_icmp .ge 66, 3) := by decide +kernel
theorem smd_R_firstWithoutSource_7 : decode prog_3_method_5_code 7 = .ok (.iconst 0, 1) := by decide +kernel
theorem smd_R_firstWithoutSource_8 : decode prog_3_method_5_code 8 = .ok (.istore 4, 2) := by decide +kernel
theorem smd_R_firstWithoutSource_10 : decode prog_3_method_5_code 10 = .ok (.iload 4, 2) := by decide +kernel
theorem smd_R_firstWithoutSource_12 : decode prog_3_method_5_code 12 = .ok (.aload_n 2, 1) := by decide +kernel
theorem smd_R_firstWithoutSource_13 : decode prog_3_method_5_code 13 = .ok (.getfield 33, 3) := by decide +kernel
theorem smd_R_firstWithoutSource_16 : decode prog_3_method_5_code 16 = .ok (.iload_n 3, 1) := by decide +kernel
theorem smd_R_firstWithoutSource_17 : decode prog_3_method_5_code 17 = .ok (.iaload, 1) := by decide +kernel
theorem smd_R_firstWithoutSource_18 : decode prog_3_method_5_code 18 = .ok (.if_icmp .ge 46, 3) := by decide +kernel
theorem smd_R_firstWithoutSource_21 : decode prog_3_method_5_code 21 = .ok (.iload_n 3, 1) := by decide +kernel
theorem smd_R_firstWithoutSource_22 : decode prog_3_method_5_code 22 = .ok (.iconst 4, 1) := by decide +kernel
theorem smd_R_firstWithoutSource_23 : decode prog_3_method_5_code 23 = .ok (.imul, 1) := by decide +kernel
theorem smd_R_firstWithoutSource_24 : decode prog_3_method_5_code 24 = .ok (.iload 4, 2) := by decide +kernel
theorem smd_R_firstWithoutSource_26 : decode prog_3_method_5_code 26 = .ok (.iadd, 1) := by decide +kernel
theorem smd_R_firstWithoutSource_27 : decode prog_3_method_5_code 27 = .ok (.istore 5, 2) := by decide +kernel
theorem smd_R_firstWithoutSource_29 : decode prog_3_method_5_code 29 = .ok (.aload_n 0, 1) := by decide +kernel
theorem smd_R_firstWithoutSource_30 : decode prog_3_method_5_code 30 = .ok (.getfield 15, 3) := by decide +kernel
theorem smd_R_firstWithoutSource_33 : decode prog_3_method_5_code 33 = .ok (.iload 5, 2) := by decide +kernel
theorem smd_R_firstWithoutSource_35 : decode prog_3_method_5_code 35 = .ok (.iaload, 1) := by decide +kernel
theorem smd_R_firstWithoutSource_36 : decode prog_3_method_5_code 36 = .ok (.ifCond .eq 22, 3) := by decide +kernel
theorem smd_R_firstWithoutSource_39 : decode prog_3_method_5_code 39 = .ok (.aload_n 0, 1) := by decide +kernel
theorem smd_R_firstWithoutSource_40 : decode prog_3_method_5_code 40 = .ok (.getfield 19, 3) := by decide +kernel
theorem smd_R_firstWithoutSource_43 : decode prog_3_method_5_code 43 = .ok (.iload 5, 2) := by decide +kernel
theorem smd_R_firstWithoutSource_45 : decode prog_3_method_5_code 45 = .ok (.iaload, 1) := by decide +kernel
theorem smd_R_firstWithoutSource_46 : decode prog_3_method_5_code 46 = .ok (.aload_n 1, 1) := by decide +kernel
theorem smd_R_firstWithoutSource_47 : decode prog_3_method_5_code 47 = .ok (.getfield 33, 3) := by decide +kernel
theorem smd_R_firstWithoutSource_50 : decode prog_3_method_5_code 50 = .ok (.iload_n 3, 1) := by decide +kernel
theorem smd_R_firstWithoutSource_51 : decode prog_3_method_5_code 51 = .ok (.iaload, 1) := by decide +kernel
theorem smd_R_firstWithoutSource_52 : decode prog_3_method_5_code 52 = .ok (.if_icmp .lt 6, 3) := by decide +kernel
theorem smd_R_firstWithoutSource_55 : decode prog_3_method_5_code 55 = .ok (.iload 5, 2) := by decide +kernel
theorem smd_R_firstWithoutSource_57 : decode prog_3_method_5_code 57 = .ok (.ireturn, 1) := by decide +kernel
theorem smd_R_firstWithoutSource_58 : decode prog_3_method_5_code 58 = .ok (.iinc 4 1, 3) := by decide +kernel
theorem smd_R_firstWithoutSource_61 : decode prog_3_method_5_code 61 = .ok (.goto (-51), 3) := by decide +kernel
theorem smd_R_firstWithoutSource_64 : decode prog_3_method_5_code 64 = .ok (.iinc 3 1, 3) := by decide +kernel
theorem smd_R_firstWithoutSource_67 : decode prog_3_method_5_code 67 = .ok (.goto (-65), 3) := by decide +kernel
theorem smd_R_firstWithoutSource_70 : decode prog_3_method_5_code 70 = .ok (.iconst (-1), 1) := by decide +kernel
theorem smd_R_firstWithoutSource_71 : decode prog_3_method_5_code 71 = .ok (.ireturn, 1) := by decide +kernel
theorem smd_R_isFaulty_0 : decode prog_3_method_6_code 0 = .ok (.aload_n 0, 1) := by decide +kernel
theorem smd_R_isFaulty_1 : decode prog_3_method_6_code 1 = .ok (.getfield 15, 3) := by decide +kernel
theorem smd_R_isFaulty_4 : decode prog_3_method_6_code 4 = .ok (.iload_n 1, 1) := by decide +kernel
theorem smd_R_isFaulty_5 : decode prog_3_method_6_code 5 = .ok (.iaload, 1) := by decide +kernel
theorem smd_R_isFaulty_6 : decode prog_3_method_6_code 6 = .ok (.iconst 2, 1) := by decide +kernel
theorem smd_R_isFaulty_7 : decode prog_3_method_6_code 7 = .ok (.if_icmp .ne 20, 3) := by decide +kernel
theorem smd_R_isFaulty_10 : decode prog_3_method_6_code 10 = .ok (.aload_n 2, 1) := by decide +kernel
theorem smd_R_isFaulty_11 : decode prog_3_method_6_code 11 = .ok (.iload_n 3, 1) := by decide +kernel
theorem smd_R_isFaulty_12 : decode prog_3_method_6_code 12 = .ok (.aload_n 0, 1) := by decide +kernel
theorem smd_R_isFaulty_13 : decode prog_3_method_6_code 13 = .ok (.getfield 19, 3) := by decide +kernel
theorem smd_R_isFaulty_16 : decode prog_3_method_6_code 16 = .ok (.iload_n 1, 1) := by decide +kernel
theorem smd_R_isFaulty_17 : decode prog_3_method_6_code 17 = .ok (.iaload, 1) := by decide +kernel
theorem smd_R_isFaulty_18 : decode prog_3_method_6_code 18 = .ok (.iadd, 1) := by decide +kernel
theorem smd_R_isFaulty_19 : decode prog_3_method_6_code 19 = .ok (.iaload, 1) := by decide +kernel
theorem smd_R_isFaulty_20 : decode prog_3_method_6_code 20 = .ok (.ifCond .ne 7, 3) := by decide +kernel
theorem smd_R_isFaulty_23 : decode prog_3_method_6_code 23 = .ok (.iconst 1, 1) := by decide +kernel
theorem smd_R_isFaulty_24 : decode prog_3_method_6_code 24 = .ok (.goto 4, 3) := by decide +kernel
theorem smd_R_isFaulty_27 : decode prog_3_method_6_code 27 = .ok (.iconst 0, 1) := by decide +kernel
theorem smd_R_isFaulty_28 : decode prog_3_method_6_code 28 = .ok (.ireturn, 1) := by decide +kernel
theorem smd_R_valueOf_0 : decode prog_3_method_7_code 0 = .ok (.aload_n 2, 1) := by decide +kernel
theorem smd_R_valueOf_1 : decode prog_3_method_7_code 1 = .ok (.iload_n 3, 1) := by decide +kernel
theorem smd_R_valueOf_2 : decode prog_3_method_7_code 2 = .ok (.aload_n 0, 1) := by decide +kernel
theorem smd_R_valueOf_3 : decode prog_3_method_7_code 3 = .ok (.getfield 19, 3) := by decide +kernel
theorem smd_R_valueOf_6 : decode prog_3_method_7_code 6 = .ok (.iload_n 1, 1) := by decide +kernel
theorem smd_R_valueOf_7 : decode prog_3_method_7_code 7 = .ok (.iaload, 1) := by decide +kernel
theorem smd_R_valueOf_8 : decode prog_3_method_7_code 8 = .ok (.iadd, 1) := by decide +kernel
theorem smd_R_valueOf_9 : decode prog_3_method_7_code 9 = .ok (.iaload, 1) := by decide +kernel
theorem smd_R_valueOf_10 : decode prog_3_method_7_code 10 = .ok (.istore 4, 2) := by decide +kernel
theorem smd_R_valueOf_12 : decode prog_3_method_7_code 12 = .ok (.aload_n 0, 1) := by decide +kernel
theorem smd_R_valueOf_13 : decode prog_3_method_7_code 13 = .ok (.getfield 15, 3) := by decide +kernel
theorem smd_R_valueOf_16 : decode prog_3_method_7_code 16 = .ok (.iload_n 1, 1) := by decide +kernel
theorem smd_R_valueOf_17 : decode prog_3_method_7_code 17 = .ok (.iaload, 1) := by decide +kernel
theorem smd_R_valueOf_18 : decode prog_3_method_7_code 18 = .ok (.lookupswitch 55 #[(1, 26), (2, 36)], 26) := by decide +kernel
theorem smd_R_valueOf_44 : decode prog_3_method_7_code 44 = .ok (.iload 4, 2) := by decide +kernel
theorem smd_R_valueOf_46 : decode prog_3_method_7_code 46 = .ok (.aload_n 0, 1) := by decide +kernel
theorem smd_R_valueOf_47 : decode prog_3_method_7_code 47 = .ok (.getfield 22, 3) := by decide +kernel
theorem smd_R_valueOf_50 : decode prog_3_method_7_code 50 = .ok (.iload_n 1, 1) := by decide +kernel
theorem smd_R_valueOf_51 : decode prog_3_method_7_code 51 = .ok (.iaload, 1) := by decide +kernel
theorem smd_R_valueOf_52 : decode prog_3_method_7_code 52 = .ok (.iadd, 1) := by decide +kernel
theorem smd_R_valueOf_53 : decode prog_3_method_7_code 53 = .ok (.ireturn, 1) := by decide +kernel
theorem smd_R_valueOf_54 : decode prog_3_method_7_code 54 = .ok (.iload 4, 2) := by decide +kernel
theorem smd_R_valueOf_56 : decode prog_3_method_7_code 56 = .ok (.ifCond .ne 7, 3) := by decide +kernel
theorem smd_R_valueOf_59 : decode prog_3_method_7_code 59 = .ok (.iconst 0, 1) := by decide +kernel
theorem smd_R_valueOf_60 : decode prog_3_method_7_code 60 = .ok (.goto 12, 3) := by decide +kernel
theorem smd_R_valueOf_63 : decode prog_3_method_7_code 63 = .ok (.aload_n 0, 1) := by decide +kernel
theorem smd_R_valueOf_64 : decode prog_3_method_7_code 64 = .ok (.getfield 22, 3) := by decide +kernel
theorem smd_R_valueOf_67 : decode prog_3_method_7_code 67 = .ok (.iload_n 1, 1) := by decide +kernel
theorem smd_R_valueOf_68 : decode prog_3_method_7_code 68 = .ok (.iaload, 1) := by decide +kernel
theorem smd_R_valueOf_69 : decode prog_3_method_7_code 69 = .ok (.iload 4, 2) := by decide +kernel
theorem smd_R_valueOf_71 : decode prog_3_method_7_code 71 = .ok (.idiv, 1) := by decide +kernel
theorem smd_R_valueOf_72 : decode prog_3_method_7_code 72 = .ok (.ireturn, 1) := by decide +kernel
theorem smd_R_valueOf_73 : decode prog_3_method_7_code 73 = .ok (.aload_n 0, 1) := by decide +kernel
theorem smd_R_valueOf_74 : decode prog_3_method_7_code 74 = .ok (.getfield 22, 3) := by decide +kernel
theorem smd_R_valueOf_77 : decode prog_3_method_7_code 77 = .ok (.iload_n 1, 1) := by decide +kernel
theorem smd_R_valueOf_78 : decode prog_3_method_7_code 78 = .ok (.iaload, 1) := by decide +kernel
theorem smd_R_valueOf_79 : decode prog_3_method_7_code 79 = .ok (.ireturn, 1) := by decide +kernel
theorem smd_T_init_0 : decode prog_4_method_1_code 0 = .ok (.aload_n 0, 1) := by decide +kernel
theorem smd_T_init_1 : decode prog_4_method_1_code 1 = .ok (.invokespecial 3, 3) := by decide +kernel
theorem smd_T_init_4 : decode prog_4_method_1_code 4 = .ok (.aload_n 0, 1) := by decide +kernel
theorem smd_T_init_5 : decode prog_4_method_1_code 5 = .ok (.bipush 6, 2) := by decide +kernel
theorem smd_T_init_7 : decode prog_4_method_1_code 7 = .ok (.newarray .int, 2) := by decide +kernel
theorem smd_T_init_9 : decode prog_4_method_1_code 9 = .ok (.putfield 9, 3) := by decide +kernel
theorem smd_T_init_12 : decode prog_4_method_1_code 12 = .ok (.aload_n 0, 1) := by decide +kernel
theorem smd_T_init_13 : decode prog_4_method_1_code 13 = .ok (.bipush 6, 2) := by decide +kernel
theorem smd_T_init_15 : decode prog_4_method_1_code 15 = .ok (.newarray .int, 2) := by decide +kernel
theorem smd_T_init_17 : decode prog_4_method_1_code 17 = .ok (.putfield 15, 3) := by decide +kernel
theorem smd_T_init_20 : decode prog_4_method_1_code 20 = .ok (.aload_n 0, 1) := by decide +kernel
theorem smd_T_init_21 : decode prog_4_method_1_code 21 = .ok (.bipush 18, 2) := by decide +kernel
theorem smd_T_init_23 : decode prog_4_method_1_code 23 = .ok (.newarray .int, 2) := by decide +kernel
theorem smd_T_init_25 : decode prog_4_method_1_code 25 = .ok (.putfield 18, 3) := by decide +kernel
theorem smd_T_init_28 : decode prog_4_method_1_code 28 = .ok (.aload_n 0, 1) := by decide +kernel
theorem smd_T_init_29 : decode prog_4_method_1_code 29 = .ok (.bipush 6, 2) := by decide +kernel
theorem smd_T_init_31 : decode prog_4_method_1_code 31 = .ok (.newarray .int, 2) := by decide +kernel
theorem smd_T_init_33 : decode prog_4_method_1_code 33 = .ok (.putfield 21, 3) := by decide +kernel
theorem smd_T_init_36 : decode prog_4_method_1_code 36 = .ok (.aload_n 0, 1) := by decide +kernel
theorem smd_T_init_37 : decode prog_4_method_1_code 37 = .ok (.bipush 8, 2) := by decide +kernel
theorem smd_T_init_39 : decode prog_4_method_1_code 39 = .ok (.newarray .int, 2) := by decide +kernel
theorem smd_T_init_41 : decode prog_4_method_1_code 41 = .ok (.putfield 24, 3) := by decide +kernel
theorem smd_T_init_44 : decode prog_4_method_1_code 44 = .ok (.return_, 1) := by decide +kernel
theorem smd_T_local_0 : decode prog_4_method_2_code 0 = .ok (.aload_n 0, 1) := by decide +kernel
theorem smd_T_local_1 : decode prog_4_method_2_code 1 = .ok (.getfield 18, 3) := by decide +kernel
theorem smd_T_local_4 : decode prog_4_method_2_code 4 = .ok (.aload_n 0, 1) := by decide +kernel
theorem smd_T_local_5 : decode prog_4_method_2_code 5 = .ok (.getfield 27, 3) := by decide +kernel
theorem smd_T_local_8 : decode prog_4_method_2_code 8 = .ok (.iconst 1, 1) := by decide +kernel
theorem smd_T_local_9 : decode prog_4_method_2_code 9 = .ok (.isub, 1) := by decide +kernel
theorem smd_T_local_10 : decode prog_4_method_2_code 10 = .ok (.iconst 3, 1) := by decide +kernel
theorem smd_T_local_11 : decode prog_4_method_2_code 11 = .ok (.imul, 1) := by decide +kernel
theorem smd_T_local_12 : decode prog_4_method_2_code 12 = .ok (.iload_n 1, 1) := by decide +kernel
theorem smd_T_local_13 : decode prog_4_method_2_code 13 = .ok (.iadd, 1) := by decide +kernel
theorem smd_T_local_14 : decode prog_4_method_2_code 14 = .ok (.iaload, 1) := by decide +kernel
theorem smd_T_local_15 : decode prog_4_method_2_code 15 = .ok (.ireturn, 1) := by decide +kernel
theorem smd_T_setLocal_0 : decode prog_4_method_3_code 0 = .ok (.aload_n 0, 1) := by decide +kernel
theorem smd_T_setLocal_1 : decode prog_4_method_3_code 1 = .ok (.getfield 18, 3) := by decide +kernel
theorem smd_T_setLocal_4 : decode prog_4_method_3_code 4 = .ok (.aload_n 0, 1) := by decide +kernel
theorem smd_T_setLocal_5 : decode prog_4_method_3_code 5 = .ok (.getfield 27, 3) := by decide +kernel
theorem smd_T_setLocal_8 : decode prog_4_method_3_code 8 = .ok (.iconst 1, 1) := by decide +kernel
theorem smd_T_setLocal_9 : decode prog_4_method_3_code 9 = .ok (.isub, 1) := by decide +kernel
theorem smd_T_setLocal_10 : decode prog_4_method_3_code 10 = .ok (.iconst 3, 1) := by decide +kernel
theorem smd_T_setLocal_11 : decode prog_4_method_3_code 11 = .ok (.imul, 1) := by decide +kernel
theorem smd_T_setLocal_12 : decode prog_4_method_3_code 12 = .ok (.iload_n 1, 1) := by decide +kernel
theorem smd_T_setLocal_13 : decode prog_4_method_3_code 13 = .ok (.iadd, 1) := by decide +kernel
theorem smd_T_setLocal_14 : decode prog_4_method_3_code 14 = .ok (.iload_n 2, 1) := by decide +kernel
theorem smd_T_setLocal_15 : decode prog_4_method_3_code 15 = .ok (.iastore, 1) := by decide +kernel
theorem smd_T_setLocal_16 : decode prog_4_method_3_code 16 = .ok (.return_, 1) := by decide +kernel
theorem smd_T_push_0 : decode prog_4_method_4_code 0 = .ok (.aload_n 0, 1) := by decide +kernel
theorem smd_T_push_1 : decode prog_4_method_4_code 1 = .ok (.getfield 9, 3) := by decide +kernel
theorem smd_T_push_4 : decode prog_4_method_4_code 4 = .ok (.aload_n 0, 1) := by decide +kernel
theorem smd_T_push_5 : decode prog_4_method_4_code 5 = .ok (.getfield 27, 3) := by decide +kernel
theorem smd_T_push_8 : decode prog_4_method_4_code 8 = .ok (.iload_n 1, 1) := by decide +kernel
theorem smd_T_push_9 : decode prog_4_method_4_code 9 = .ok (.iastore, 1) := by decide +kernel
theorem smd_T_push_10 : decode prog_4_method_4_code 10 = .ok (.aload_n 0, 1) := by decide +kernel
theorem smd_T_push_11 : decode prog_4_method_4_code 11 = .ok (.getfield 15, 3) := by decide +kernel
theorem smd_T_push_14 : decode prog_4_method_4_code 14 = .ok (.aload_n 0, 1) := by decide +kernel
theorem smd_T_push_15 : decode prog_4_method_4_code 15 = .ok (.getfield 27, 3) := by decide +kernel
theorem smd_T_push_18 : decode prog_4_method_4_code 18 = .ok (.iconst 0, 1) := by decide +kernel
theorem smd_T_push_19 : decode prog_4_method_4_code 19 = .ok (.iastore, 1) := by decide +kernel
theorem smd_T_push_20 : decode prog_4_method_4_code 20 = .ok (.aload_n 0, 1) := by decide +kernel
theorem smd_T_push_21 : decode prog_4_method_4_code 21 = .ok (.getfield 21, 3) := by decide +kernel
theorem smd_T_push_24 : decode prog_4_method_4_code 24 = .ok (.aload_n 0, 1) := by decide +kernel
theorem smd_T_push_25 : decode prog_4_method_4_code 25 = .ok (.getfield 27, 3) := by decide +kernel
theorem smd_T_push_28 : decode prog_4_method_4_code 28 = .ok (.iload_n 3, 1) := by decide +kernel
theorem smd_T_push_29 : decode prog_4_method_4_code 29 = .ok (.iastore, 1) := by decide +kernel
theorem smd_T_push_30 : decode prog_4_method_4_code 30 = .ok (.aload_n 0, 1) := by decide +kernel
theorem smd_T_push_31 : decode prog_4_method_4_code 31 = .ok (.dup, 1) := by decide +kernel
theorem smd_T_push_32 : decode prog_4_method_4_code 32 = .ok (.getfield 27, 3) := by decide +kernel
theorem smd_T_push_35 : decode prog_4_method_4_code 35 = .ok (.iconst 1, 1) := by decide +kernel
theorem smd_T_push_36 : decode prog_4_method_4_code 36 = .ok (.iadd, 1) := by decide +kernel
theorem smd_T_push_37 : decode prog_4_method_4_code 37 = .ok (.putfield 27, 3) := by decide +kernel
theorem smd_T_push_40 : decode prog_4_method_4_code 40 = .ok (.aload_n 0, 1) := by decide +kernel
theorem smd_T_push_41 : decode prog_4_method_4_code 41 = .ok (.iconst 0, 1) := by decide +kernel
theorem smd_T_push_42 : decode prog_4_method_4_code 42 = .ok (.iload_n 2, 1) := by decide +kernel
theorem smd_T_push_43 : decode prog_4_method_4_code 43 = .ok (.invokevirtual 31, 3) := by decide +kernel
theorem smd_T_push_46 : decode prog_4_method_4_code 46 = .ok (.iconst 1, 1) := by decide +kernel
theorem smd_T_push_47 : decode prog_4_method_4_code 47 = .ok (.istore 4, 2) := by decide +kernel
theorem smd_T_push_49 : decode prog_4_method_4_code 49 = .ok (.iload 4, 2) := by decide +kernel
theorem smd_T_push_51 : decode prog_4_method_4_code 51 = .ok (.iconst 3, 1) := by decide +kernel
theorem smd_T_push_52 : decode prog_4_method_4_code 52 = .ok (.if_icmp .ge 16, 3) := by decide +kernel
theorem smd_T_push_55 : decode prog_4_method_4_code 55 = .ok (.aload_n 0, 1) := by decide +kernel
theorem smd_T_push_56 : decode prog_4_method_4_code 56 = .ok (.iload 4, 2) := by decide +kernel
theorem smd_T_push_58 : decode prog_4_method_4_code 58 = .ok (.iconst 0, 1) := by decide +kernel
theorem smd_T_push_59 : decode prog_4_method_4_code 59 = .ok (.invokevirtual 31, 3) := by decide +kernel
theorem smd_T_push_62 : decode prog_4_method_4_code 62 = .ok (.iinc 4 1, 3) := by decide +kernel
theorem smd_T_push_65 : decode prog_4_method_4_code 65 = .ok (.goto (-16), 3) := by decide +kernel
theorem smd_T_push_68 : decode prog_4_method_4_code 68 = .ok (.return_, 1) := by decide +kernel
theorem smd_T_giveBack_0 : decode prog_4_method_5_code 0 = .ok (.aload_n 0, 1) := by decide +kernel
theorem smd_T_giveBack_1 : decode prog_4_method_5_code 1 = .ok (.dup, 1) := by decide +kernel
theorem smd_T_giveBack_2 : decode prog_4_method_5_code 2 = .ok (.getfield 27, 3) := by decide +kernel
theorem smd_T_giveBack_5 : decode prog_4_method_5_code 5 = .ok (.iconst 1, 1) := by decide +kernel
theorem smd_T_giveBack_6 : decode prog_4_method_5_code 6 = .ok (.isub, 1) := by decide +kernel
theorem smd_T_giveBack_7 : decode prog_4_method_5_code 7 = .ok (.putfield 27, 3) := by decide +kernel
theorem smd_T_giveBack_10 : decode prog_4_method_5_code 10 = .ok (.aload_n 0, 1) := by decide +kernel
theorem smd_T_giveBack_11 : decode prog_4_method_5_code 11 = .ok (.getfield 27, 3) := by decide +kernel
theorem smd_T_giveBack_14 : decode prog_4_method_5_code 14 = .ok (.ifCond .ne 16, 3) := by decide +kernel
theorem smd_T_giveBack_17 : decode prog_4_method_5_code 17 = .ok (.aload_n 0, 1) := by decide +kernel
theorem smd_T_giveBack_18 : decode prog_4_method_5_code 18 = .ok (.iconst 2, 1) := by decide +kernel
theorem smd_T_giveBack_19 : decode prog_4_method_5_code 19 = .ok (.putfield 35, 3) := by decide +kernel
theorem smd_T_giveBack_22 : decode prog_4_method_5_code 22 = .ok (.aload_n 0, 1) := by decide +kernel
theorem smd_T_giveBack_23 : decode prog_4_method_5_code 23 = .ok (.iload_n 1, 1) := by decide +kernel
theorem smd_T_giveBack_24 : decode prog_4_method_5_code 24 = .ok (.putfield 38, 3) := by decide +kernel
theorem smd_T_giveBack_27 : decode prog_4_method_5_code 27 = .ok (.goto 17, 3) := by decide +kernel
theorem smd_T_giveBack_30 : decode prog_4_method_5_code 30 = .ok (.aload_n 0, 1) := by decide +kernel
theorem smd_T_giveBack_31 : decode prog_4_method_5_code 31 = .ok (.aload_n 0, 1) := by decide +kernel
theorem smd_T_giveBack_32 : decode prog_4_method_5_code 32 = .ok (.getfield 21, 3) := by decide +kernel
theorem smd_T_giveBack_35 : decode prog_4_method_5_code 35 = .ok (.aload_n 0, 1) := by decide +kernel
theorem smd_T_giveBack_36 : decode prog_4_method_5_code 36 = .ok (.getfield 27, 3) := by decide +kernel
theorem smd_T_giveBack_39 : decode prog_4_method_5_code 39 = .ok (.iaload, 1) := by decide +kernel
theorem smd_T_giveBack_40 : decode prog_4_method_5_code 40 = .ok (.iload_n 1, 1) := by decide +kernel
theorem smd_T_giveBack_41 : decode prog_4_method_5_code 41 = .ok (.invokevirtual 31, 3) := by decide +kernel
theorem smd_T_giveBack_44 : decode prog_4_method_5_code 44 = .ok (.return_, 1) := by decide +kernel
theorem smd_T_fail_0 : decode prog_4_method_6_code 0 = .ok (.aload_n 0, 1) := by decide +kernel
theorem smd_T_fail_1 : decode prog_4_method_6_code 1 = .ok (.iconst 0, 1) := by decide +kernel
theorem smd_T_fail_2 : decode prog_4_method_6_code 2 = .ok (.putfield 27, 3) := by decide +kernel
theorem smd_T_fail_5 : decode prog_4_method_6_code 5 = .ok (.aload_n 0, 1) := by decide +kernel
theorem smd_T_fail_6 : decode prog_4_method_6_code 6 = .ok (.iconst 3, 1) := by decide +kernel
theorem smd_T_fail_7 : decode prog_4_method_6_code 7 = .ok (.putfield 35, 3) := by decide +kernel
theorem smd_T_fail_10 : decode prog_4_method_6_code 10 = .ok (.return_, 1) := by decide +kernel
theorem smd_T_enqueue_0 : decode prog_4_method_7_code 0 = .ok (.aload_n 0, 1) := by decide +kernel
theorem smd_T_enqueue_1 : decode prog_4_method_7_code 1 = .ok (.getfield 24, 3) := by decide +kernel
theorem smd_T_enqueue_4 : decode prog_4_method_7_code 4 = .ok (.aload_n 0, 1) := by decide +kernel
theorem smd_T_enqueue_5 : decode prog_4_method_7_code 5 = .ok (.getfield 41, 3) := by decide +kernel
theorem smd_T_enqueue_8 : decode prog_4_method_7_code 8 = .ok (.iload_n 1, 1) := by decide +kernel
theorem smd_T_enqueue_9 : decode prog_4_method_7_code 9 = .ok (.iastore, 1) := by decide +kernel
theorem smd_T_enqueue_10 : decode prog_4_method_7_code 10 = .ok (.aload_n 0, 1) := by decide +kernel
theorem smd_T_enqueue_11 : decode prog_4_method_7_code 11 = .ok (.dup, 1) := by decide +kernel
theorem smd_T_enqueue_12 : decode prog_4_method_7_code 12 = .ok (.getfield 41, 3) := by decide +kernel
theorem smd_T_enqueue_15 : decode prog_4_method_7_code 15 = .ok (.iconst 1, 1) := by decide +kernel
theorem smd_T_enqueue_16 : decode prog_4_method_7_code 16 = .ok (.iadd, 1) := by decide +kernel
theorem smd_T_enqueue_17 : decode prog_4_method_7_code 17 = .ok (.putfield 41, 3) := by decide +kernel
theorem smd_T_enqueue_20 : decode prog_4_method_7_code 20 = .ok (.return_, 1) := by decide +kernel
theorem smd_T_takeOldest_0 : decode prog_4_method_8_code 0 = .ok (.aload_n 0, 1) := by decide +kernel
theorem smd_T_takeOldest_1 : decode prog_4_method_8_code 1 = .ok (.getfield 24, 3) := by decide +kernel
theorem smd_T_takeOldest_4 : decode prog_4_method_8_code 4 = .ok (.iconst 0, 1) := by decide +kernel
theorem smd_T_takeOldest_5 : decode prog_4_method_8_code 5 = .ok (.iaload, 1) := by decide +kernel
theorem smd_T_takeOldest_6 : decode prog_4_method_8_code 6 = .ok (.istore_n 1, 1) := by decide +kernel
theorem smd_T_takeOldest_7 : decode prog_4_method_8_code 7 = .ok (.iconst 1, 1) := by decide +kernel
theorem smd_T_takeOldest_8 : decode prog_4_method_8_code 8 = .ok (.istore_n 2, 1) := by decide +kernel
theorem smd_T_takeOldest_9 : decode prog_4_method_8_code 9 = .ok (.iload_n 2, 1) := by decide +kernel
theorem smd_T_takeOldest_10 : decode prog_4_method_8_code 10 = .ok (.aload_n 0, 1) := by decide +kernel
theorem smd_T_takeOldest_11 : decode prog_4_method_8_code 11 = .ok (.getfield 41, 3) := by decide +kernel
theorem smd_T_takeOldest_14 : decode prog_4_method_8_code 14 = .ok (.if_icmp .ge 23, 3) := by decide +kernel
theorem smd_T_takeOldest_17 : decode prog_4_method_8_code 17 = .ok (.aload_n 0, 1) := by decide +kernel
theorem smd_T_takeOldest_18 : decode prog_4_method_8_code 18 = .ok (.getfield 24, 3) := by decide +kernel
theorem smd_T_takeOldest_21 : decode prog_4_method_8_code 21 = .ok (.iload_n 2, 1) := by decide +kernel
theorem smd_T_takeOldest_22 : decode prog_4_method_8_code 22 = .ok (.iconst 1, 1) := by decide +kernel
theorem smd_T_takeOldest_23 : decode prog_4_method_8_code 23 = .ok (.isub, 1) := by decide +kernel
theorem smd_T_takeOldest_24 : decode prog_4_method_8_code 24 = .ok (.aload_n 0, 1) := by decide +kernel
theorem smd_T_takeOldest_25 : decode prog_4_method_8_code 25 = .ok (.getfield 24, 3) := by decide +kernel
theorem smd_T_takeOldest_28 : decode prog_4_method_8_code 28 = .ok (.iload_n 2, 1) := by decide +kernel
theorem smd_T_takeOldest_29 : decode prog_4_method_8_code 29 = .ok (.iaload, 1) := by decide +kernel
theorem smd_T_takeOldest_30 : decode prog_4_method_8_code 30 = .ok (.iastore, 1) := by decide +kernel
theorem smd_T_takeOldest_31 : decode prog_4_method_8_code 31 = .ok (.iinc 2 1, 3) := by decide +kernel
theorem smd_T_takeOldest_34 : decode prog_4_method_8_code 34 = .ok (.goto (-25), 3) := by decide +kernel
theorem smd_T_takeOldest_37 : decode prog_4_method_8_code 37 = .ok (.aload_n 0, 1) := by decide +kernel
theorem smd_T_takeOldest_38 : decode prog_4_method_8_code 38 = .ok (.dup, 1) := by decide +kernel
theorem smd_T_takeOldest_39 : decode prog_4_method_8_code 39 = .ok (.getfield 41, 3) := by decide +kernel
theorem smd_T_takeOldest_42 : decode prog_4_method_8_code 42 = .ok (.iconst 1, 1) := by decide +kernel
theorem smd_T_takeOldest_43 : decode prog_4_method_8_code 43 = .ok (.isub, 1) := by decide +kernel
theorem smd_T_takeOldest_44 : decode prog_4_method_8_code 44 = .ok (.putfield 41, 3) := by decide +kernel
theorem smd_T_takeOldest_47 : decode prog_4_method_8_code 47 = .ok (.iload_n 1, 1) := by decide +kernel
theorem smd_T_takeOldest_48 : decode prog_4_method_8_code 48 = .ok (.ireturn, 1) := by decide +kernel
theorem smd_V_init_0 : decode prog_5_method_1_code 0 = .ok (.aload_n 0, 1) := by decide +kernel
theorem smd_V_init_1 : decode prog_5_method_1_code 1 = .ok (.invokespecial 3, 3) := by decide +kernel
theorem smd_V_init_4 : decode prog_5_method_1_code 4 = .ok (.aload_n 0, 1) := by decide +kernel
theorem smd_V_init_5 : decode prog_5_method_1_code 5 = .ok (.bipush 6, 2) := by decide +kernel
theorem smd_V_init_7 : decode prog_5_method_1_code 7 = .ok (.newarray .int, 2) := by decide +kernel
theorem smd_V_init_9 : decode prog_5_method_1_code 9 = .ok (.putfield 9, 3) := by decide +kernel
theorem smd_V_init_12 : decode prog_5_method_1_code 12 = .ok (.aload_n 0, 1) := by decide +kernel
theorem smd_V_init_13 : decode prog_5_method_1_code 13 = .ok (.bipush 72, 2) := by decide +kernel
theorem smd_V_init_15 : decode prog_5_method_1_code 15 = .ok (.newarray .int, 2) := by decide +kernel
theorem smd_V_init_17 : decode prog_5_method_1_code 17 = .ok (.putfield 15, 3) := by decide +kernel
theorem smd_V_init_20 : decode prog_5_method_1_code 20 = .ok (.aload_n 0, 1) := by decide +kernel
theorem smd_V_init_21 : decode prog_5_method_1_code 21 = .ok (.bipush 72, 2) := by decide +kernel
theorem smd_V_init_23 : decode prog_5_method_1_code 23 = .ok (.newarray .int, 2) := by decide +kernel
theorem smd_V_init_25 : decode prog_5_method_1_code 25 = .ok (.putfield 18, 3) := by decide +kernel
theorem smd_V_init_28 : decode prog_5_method_1_code 28 = .ok (.aload_n 0, 1) := by decide +kernel
theorem smd_V_init_29 : decode prog_5_method_1_code 29 = .ok (.bipush 72, 2) := by decide +kernel
theorem smd_V_init_31 : decode prog_5_method_1_code 31 = .ok (.newarray .int, 2) := by decide +kernel
theorem smd_V_init_33 : decode prog_5_method_1_code 33 = .ok (.putfield 21, 3) := by decide +kernel
theorem smd_V_init_36 : decode prog_5_method_1_code 36 = .ok (.aload_n 0, 1) := by decide +kernel
theorem smd_V_init_37 : decode prog_5_method_1_code 37 = .ok (.bipush 72, 2) := by decide +kernel
theorem smd_V_init_39 : decode prog_5_method_1_code 39 = .ok (.newarray .int, 2) := by decide +kernel
theorem smd_V_init_41 : decode prog_5_method_1_code 41 = .ok (.putfield 24, 3) := by decide +kernel
theorem smd_V_init_44 : decode prog_5_method_1_code 44 = .ok (.aload_n 0, 1) := by decide +kernel
theorem smd_V_init_45 : decode prog_5_method_1_code 45 = .ok (.iconst 3, 1) := by decide +kernel
theorem smd_V_init_46 : decode prog_5_method_1_code 46 = .ok (.newarray .int, 2) := by decide +kernel
theorem smd_V_init_48 : decode prog_5_method_1_code 48 = .ok (.putfield 27, 3) := by decide +kernel
theorem smd_V_init_51 : decode prog_5_method_1_code 51 = .ok (.return_, 1) := by decide +kernel
theorem smd_V_at_0 : decode prog_5_method_2_code 0 = .ok (.iload_n 0, 1) := by decide +kernel
theorem smd_V_at_1 : decode prog_5_method_2_code 1 = .ok (.bipush 12, 2) := by decide +kernel
theorem smd_V_at_3 : decode prog_5_method_2_code 3 = .ok (.imul, 1) := by decide +kernel
theorem smd_V_at_4 : decode prog_5_method_2_code 4 = .ok (.iload_n 1, 1) := by decide +kernel
theorem smd_V_at_5 : decode prog_5_method_2_code 5 = .ok (.iadd, 1) := by decide +kernel
theorem smd_V_at_6 : decode prog_5_method_2_code 6 = .ok (.ireturn, 1) := by decide +kernel
theorem smd_V_hasProcedure_0 : decode prog_5_method_3_code 0 = .ok (.iload_n 1, 1) := by decide +kernel
theorem smd_V_hasProcedure_1 : decode prog_5_method_3_code 1 = .ok (.bipush 6, 2) := by decide +kernel
theorem smd_V_hasProcedure_3 : decode prog_5_method_3_code 3 = .ok (.invokestatic 30, 3) := by decide +kernel
theorem smd_V_hasProcedure_6 : decode prog_5_method_3_code 6 = .ok (.ifCond .eq 16, 3) := by decide +kernel
theorem smd_V_hasProcedure_9 : decode prog_5_method_3_code 9 = .ok (.aload_n 0, 1) := by decide +kernel
theorem smd_V_hasProcedure_10 : decode prog_5_method_3_code 10 = .ok (.getfield 9, 3) := by decide +kernel
theorem smd_V_hasProcedure_13 : decode prog_5_method_3_code 13 = .ok (.iload_n 1, 1) := by decide +kernel
theorem smd_V_hasProcedure_14 : decode prog_5_method_3_code 14 = .ok (.iaload, 1) := by decide +kernel
theorem smd_V_hasProcedure_15 : decode prog_5_method_3_code 15 = .ok (.ifCond .le 7, 3) := by decide +kernel
theorem smd_V_hasProcedure_18 : decode prog_5_method_3_code 18 = .ok (.iconst 1, 1) := by decide +kernel
theorem smd_V_hasProcedure_19 : decode prog_5_method_3_code 19 = .ok (.goto 4, 3) := by decide +kernel
theorem smd_V_hasProcedure_22 : decode prog_5_method_3_code 22 = .ok (.iconst 0, 1) := by decide +kernel
theorem smd_V_hasProcedure_23 : decode prog_5_method_3_code 23 = .ok (.ireturn, 1) := by decide +kernel
theorem smd_V_write_0 : decode prog_5_method_4_code 0 = .ok (.iload_n 1, 1) := by decide +kernel
theorem smd_V_write_1 : decode prog_5_method_4_code 1 = .ok (.iload_n 2, 1) := by decide +kernel
theorem smd_V_write_2 : decode prog_5_method_4_code 2 = .ok (.invokestatic 34, 3) := by decide +kernel
theorem smd_V_write_5 : decode prog_5_method_4_code 5 = .ok (.istore 7, 2) := by decide +kernel
theorem smd_V_write_7 : decode prog_5_method_4_code 7 = .ok (.aload_n 0, 1) := by decide +kernel
theorem smd_V_write_8 : decode prog_5_method_4_code 8 = .ok (.getfield 15, 3) := by decide +kernel
theorem smd_V_write_11 : decode prog_5_method_4_code 11 = .ok (.iload 7, 2) := by decide +kernel
theorem smd_V_write_13 : decode prog_5_method_4_code 13 = .ok (.iload_n 3, 1) := by decide +kernel
theorem smd_V_write_14 : decode prog_5_method_4_code 14 = .ok (.iastore, 1) := by decide +kernel
theorem smd_V_write_15 : decode prog_5_method_4_code 15 = .ok (.aload_n 0, 1) := by decide +kernel
theorem smd_V_write_16 : decode prog_5_method_4_code 16 = .ok (.getfield 18, 3) := by decide +kernel
theorem smd_V_write_19 : decode prog_5_method_4_code 19 = .ok (.iload 7, 2) := by decide +kernel
theorem smd_V_write_21 : decode prog_5_method_4_code 21 = .ok (.iload 4, 2) := by decide +kernel
theorem smd_V_write_23 : decode prog_5_method_4_code 23 = .ok (.iastore, 1) := by decide +kernel
theorem smd_V_write_24 : decode prog_5_method_4_code 24 = .ok (.aload_n 0, 1) := by decide +kernel
theorem smd_V_write_25 : decode prog_5_method_4_code 25 = .ok (.getfield 21, 3) := by decide +kernel
theorem smd_V_write_28 : decode prog_5_method_4_code 28 = .ok (.iload 7, 2) := by decide +kernel
theorem smd_V_write_30 : decode prog_5_method_4_code 30 = .ok (.iload 5, 2) := by decide +kernel
theorem smd_V_write_32 : decode prog_5_method_4_code 32 = .ok (.iastore, 1) := by decide +kernel
theorem smd_V_write_33 : decode prog_5_method_4_code 33 = .ok (.aload_n 0, 1) := by decide +kernel
theorem smd_V_write_34 : decode prog_5_method_4_code 34 = .ok (.getfield 24, 3) := by decide +kernel
theorem smd_V_write_37 : decode prog_5_method_4_code 37 = .ok (.iload 7, 2) := by decide +kernel
theorem smd_V_write_39 : decode prog_5_method_4_code 39 = .ok (.iload 6, 2) := by decide +kernel
theorem smd_V_write_41 : decode prog_5_method_4_code 41 = .ok (.iastore, 1) := by decide +kernel
theorem smd_V_write_42 : decode prog_5_method_4_code 42 = .ok (.aload_n 0, 1) := by decide +kernel
theorem smd_V_write_43 : decode prog_5_method_4_code 43 = .ok (.getfield 9, 3) := by decide +kernel
theorem smd_V_write_46 : decode prog_5_method_4_code 46 = .ok (.iload_n 1, 1) := by decide +kernel
theorem smd_V_write_47 : decode prog_5_method_4_code 47 = .ok (.aload_n 0, 1) := by decide +kernel
theorem smd_V_write_48 : decode prog_5_method_4_code 48 = .ok (.getfield 9, 3) := by decide +kernel
theorem smd_V_write_51 : decode prog_5_method_4_code 51 = .ok (.iload_n 1, 1) := by decide +kernel
theorem smd_V_write_52 : decode prog_5_method_4_code 52 = .ok (.iaload, 1) := by decide +kernel
theorem smd_V_write_53 : decode prog_5_method_4_code 53 = .ok (.iload_n 2, 1) := by decide +kernel
theorem smd_V_write_54 : decode prog_5_method_4_code 54 = .ok (.iconst 1, 1) := by decide +kernel
theorem smd_V_write_55 : decode prog_5_method_4_code 55 = .ok (.iadd, 1) := by decide +kernel
theorem smd_V_write_56 : decode prog_5_method_4_code 56 = .ok (.invokestatic 38, 3) := by decide +kernel
theorem smd_V_write_59 : decode prog_5_method_4_code 59 = .ok (.iastore, 1) := by decide +kernel
theorem smd_V_write_60 : decode prog_5_method_4_code 60 = .ok (.return_, 1) := by decide +kernel
theorem smd_V_copyFrom_0 : decode prog_5_method_5_code 0 = .ok (.aload_n 1, 1) := by decide +kernel
theorem smd_V_copyFrom_1 : decode prog_5_method_5_code 1 = .ok (.getfield 9, 3) := by decide +kernel
theorem smd_V_copyFrom_4 : decode prog_5_method_5_code 4 = .ok (.iconst 0, 1) := by decide +kernel
theorem smd_V_copyFrom_5 : decode prog_5_method_5_code 5 = .ok (.aload_n 0, 1) := by decide +kernel
theorem smd_V_copyFrom_6 : decode prog_5_method_5_code 6 = .ok (.getfield 9, 3) := by decide +kernel
theorem smd_V_copyFrom_9 : decode prog_5_method_5_code 9 = .ok (.iconst 0, 1) := by decide +kernel
theorem smd_V_copyFrom_10 : decode prog_5_method_5_code 10 = .ok (.aload_n 0, 1) := by decide +kernel
theorem smd_V_copyFrom_11 : decode prog_5_method_5_code 11 = .ok (.getfield 9, 3) := by decide +kernel
theorem smd_V_copyFrom_14 : decode prog_5_method_5_code 14 = .ok (.arraylength, 1) := by decide +kernel
theorem smd_V_copyFrom_15 : decode prog_5_method_5_code 15 = .ok (.invokestatic 43, 3) := by decide +kernel
theorem smd_V_copyFrom_18 : decode prog_5_method_5_code 18 = .ok (.aload_n 1, 1) := by decide +kernel
theorem smd_V_copyFrom_19 : decode prog_5_method_5_code 19 = .ok (.getfield 15, 3) := by decide +kernel
theorem smd_V_copyFrom_22 : decode prog_5_method_5_code 22 = .ok (.iconst 0, 1) := by decide +kernel
theorem smd_V_copyFrom_23 : decode prog_5_method_5_code 23 = .ok (.aload_n 0, 1) := by decide +kernel
theorem smd_V_copyFrom_24 : decode prog_5_method_5_code 24 = .ok (.getfield 15, 3) := by decide +kernel
theorem smd_V_copyFrom_27 : decode prog_5_method_5_code 27 = .ok (.iconst 0, 1) := by decide +kernel
theorem smd_V_copyFrom_28 : decode prog_5_method_5_code 28 = .ok (.aload_n 0, 1) := by decide +kernel
theorem smd_V_copyFrom_29 : decode prog_5_method_5_code 29 = .ok (.getfield 15, 3) := by decide +kernel
theorem smd_V_copyFrom_32 : decode prog_5_method_5_code 32 = .ok (.arraylength, 1) := by decide +kernel
theorem smd_V_copyFrom_33 : decode prog_5_method_5_code 33 = .ok (.invokestatic 43, 3) := by decide +kernel
theorem smd_V_copyFrom_36 : decode prog_5_method_5_code 36 = .ok (.aload_n 1, 1) := by decide +kernel
theorem smd_V_copyFrom_37 : decode prog_5_method_5_code 37 = .ok (.getfield 18, 3) := by decide +kernel
theorem smd_V_copyFrom_40 : decode prog_5_method_5_code 40 = .ok (.iconst 0, 1) := by decide +kernel
theorem smd_V_copyFrom_41 : decode prog_5_method_5_code 41 = .ok (.aload_n 0, 1) := by decide +kernel
theorem smd_V_copyFrom_42 : decode prog_5_method_5_code 42 = .ok (.getfield 18, 3) := by decide +kernel
theorem smd_V_copyFrom_45 : decode prog_5_method_5_code 45 = .ok (.iconst 0, 1) := by decide +kernel
theorem smd_V_copyFrom_46 : decode prog_5_method_5_code 46 = .ok (.aload_n 0, 1) := by decide +kernel
theorem smd_V_copyFrom_47 : decode prog_5_method_5_code 47 = .ok (.getfield 18, 3) := by decide +kernel
theorem smd_V_copyFrom_50 : decode prog_5_method_5_code 50 = .ok (.arraylength, 1) := by decide +kernel
theorem smd_V_copyFrom_51 : decode prog_5_method_5_code 51 = .ok (.invokestatic 43, 3) := by decide +kernel
theorem smd_V_copyFrom_54 : decode prog_5_method_5_code 54 = .ok (.aload_n 1, 1) := by decide +kernel
theorem smd_V_copyFrom_55 : decode prog_5_method_5_code 55 = .ok (.getfield 21, 3) := by decide +kernel
theorem smd_V_copyFrom_58 : decode prog_5_method_5_code 58 = .ok (.iconst 0, 1) := by decide +kernel
theorem smd_V_copyFrom_59 : decode prog_5_method_5_code 59 = .ok (.aload_n 0, 1) := by decide +kernel
theorem smd_V_copyFrom_60 : decode prog_5_method_5_code 60 = .ok (.getfield 21, 3) := by decide +kernel
theorem smd_V_copyFrom_63 : decode prog_5_method_5_code 63 = .ok (.iconst 0, 1) := by decide +kernel
theorem smd_V_copyFrom_64 : decode prog_5_method_5_code 64 = .ok (.aload_n 0, 1) := by decide +kernel
theorem smd_V_copyFrom_65 : decode prog_5_method_5_code 65 = .ok (.getfield 21, 3) := by decide +kernel
theorem smd_V_copyFrom_68 : decode prog_5_method_5_code 68 = .ok (.arraylength, 1) := by decide +kernel
theorem smd_V_copyFrom_69 : decode prog_5_method_5_code 69 = .ok (.invokestatic 43, 3) := by decide +kernel
theorem smd_V_copyFrom_72 : decode prog_5_method_5_code 72 = .ok (.aload_n 1, 1) := by decide +kernel
theorem smd_V_copyFrom_73 : decode prog_5_method_5_code 73 = .ok (.getfield 24, 3) := by decide +kernel
theorem smd_V_copyFrom_76 : decode prog_5_method_5_code 76 = .ok (.iconst 0, 1) := by decide +kernel
theorem smd_V_copyFrom_77 : decode prog_5_method_5_code 77 = .ok (.aload_n 0, 1) := by decide +kernel
theorem smd_V_copyFrom_78 : decode prog_5_method_5_code 78 = .ok (.getfield 24, 3) := by decide +kernel
theorem smd_V_copyFrom_81 : decode prog_5_method_5_code 81 = .ok (.iconst 0, 1) := by decide +kernel
theorem smd_V_copyFrom_82 : decode prog_5_method_5_code 82 = .ok (.aload_n 0, 1) := by decide +kernel
theorem smd_V_copyFrom_83 : decode prog_5_method_5_code 83 = .ok (.getfield 24, 3) := by decide +kernel
theorem smd_V_copyFrom_86 : decode prog_5_method_5_code 86 = .ok (.arraylength, 1) := by decide +kernel
theorem smd_V_copyFrom_87 : decode prog_5_method_5_code 87 = .ok (.invokestatic 43, 3) := by decide +kernel
theorem smd_V_copyFrom_90 : decode prog_5_method_5_code 90 = .ok (.aload_n 1, 1) := by decide +kernel
theorem smd_V_copyFrom_91 : decode prog_5_method_5_code 91 = .ok (.getfield 27, 3) := by decide +kernel
theorem smd_V_copyFrom_94 : decode prog_5_method_5_code 94 = .ok (.iconst 0, 1) := by decide +kernel
theorem smd_V_copyFrom_95 : decode prog_5_method_5_code 95 = .ok (.aload_n 0, 1) := by decide +kernel
theorem smd_V_copyFrom_96 : decode prog_5_method_5_code 96 = .ok (.getfield 27, 3) := by decide +kernel
theorem smd_V_copyFrom_99 : decode prog_5_method_5_code 99 = .ok (.iconst 0, 1) := by decide +kernel
theorem smd_V_copyFrom_100 : decode prog_5_method_5_code 100 = .ok (.aload_n 0, 1) := by decide +kernel
theorem smd_V_copyFrom_101 : decode prog_5_method_5_code 101 = .ok (.getfield 27, 3) := by decide +kernel
theorem smd_V_copyFrom_104 : decode prog_5_method_5_code 104 = .ok (.arraylength, 1) := by decide +kernel
theorem smd_V_copyFrom_105 : decode prog_5_method_5_code 105 = .ok (.invokestatic 43, 3) := by decide +kernel
theorem smd_V_copyFrom_108 : decode prog_5_method_5_code 108 = .ok (.return_, 1) := by decide +kernel
theorem smd_V_hasSameProcedure_0 : decode prog_5_method_6_code 0 = .ok (.aload_n 0, 1) := by decide +kernel
theorem smd_V_hasSameProcedure_1 : decode prog_5_method_6_code 1 = .ok (.getfield 9, 3) := by decide +kernel
theorem smd_V_hasSameProcedure_4 : decode prog_5_method_6_code 4 = .ok (.iload_n 2, 1) := by decide +kernel
theorem smd_V_hasSameProcedure_5 : decode prog_5_method_6_code 5 = .ok (.iaload, 1) := by decide +kernel
theorem smd_V_hasSameProcedure_6 : decode prog_5_method_6_code 6 = .ok (.aload_n 1, 1) := by decide +kernel
theorem smd_V_hasSameProcedure_7 : decode prog_5_method_6_code 7 = .ok (.getfield 9, 3) := by decide +kernel
theorem smd_V_hasSameProcedure_10 : decode prog_5_method_6_code 10 = .ok (.iload_n 2, 1) := by decide +kernel
theorem smd_V_hasSameProcedure_11 : decode prog_5_method_6_code 11 = .ok (.iaload, 1) := by decide +kernel
theorem smd_V_hasSameProcedure_12 : decode prog_5_method_6_code 12 = .ok (.if_icmp .eq 5, 3) := by decide +kernel
theorem smd_V_hasSameProcedure_15 : decode prog_5_method_6_code 15 = .ok (.iconst 0, 1) := by decide +kernel
theorem smd_V_hasSameProcedure_16 : decode prog_5_method_6_code 16 = .ok (.ireturn, 1) := by decide +kernel
theorem smd_V_hasSameProcedure_17 : decode prog_5_method_6_code 17 = .ok (.iload_n 2, 1) := by decide +kernel
theorem smd_V_hasSameProcedure_18 : decode prog_5_method_6_code 18 = .ok (.iconst 0, 1) := by decide +kernel
theorem smd_V_hasSameProcedure_19 : decode prog_5_method_6_code 19 = .ok (.invokestatic 34, 3) := by decide +kernel
theorem smd_V_hasSameProcedure_22 : decode prog_5_method_6_code 22 = .ok (.istore_n 3, 1) := by decide +kernel
theorem smd_V_hasSameProcedure_23 : decode prog_5_method_6_code 23 = .ok (.iload_n 3, 1) := by decide +kernel
theorem smd_V_hasSameProcedure_24 : decode prog_5_method_6_code 24 = .ok (.iload_n 2, 1) := by decide +kernel
theorem smd_V_hasSameProcedure_25 : decode prog_5_method_6_code 25 = .ok (.aload_n 0, 1) := by decide +kernel
theorem smd_V_hasSameProcedure_26 : decode prog_5_method_6_code 26 = .ok (.getfield 9, 3) := by decide +kernel
theorem smd_V_hasSameProcedure_29 : decode prog_5_method_6_code 29 = .ok (.iload_n 2, 1) := by decide +kernel
theorem smd_V_hasSameProcedure_30 : decode prog_5_method_6_code 30 = .ok (.iaload, 1) := by decide +kernel
theorem smd_V_hasSameProcedure_31 : decode prog_5_method_6_code 31 = .ok (.invokestatic 34, 3) := by decide +kernel
theorem smd_V_hasSameProcedure_34 : decode prog_5_method_6_code 34 = .ok (.if_icmp .ge 71, 3) := by decide +kernel
theorem smd_V_hasSameProcedure_37 : decode prog_5_method_6_code 37 = .ok (.aload_n 0, 1) := by decide +kernel
theorem smd_V_hasSameProcedure_38 : decode prog_5_method_6_code 38 = .ok (.getfield 15, 3) := by decide +kernel
theorem smd_V_hasSameProcedure_41 : decode prog_5_method_6_code 41 = .ok (.iload_n 3, 1) := by decide +kernel
theorem smd_V_hasSameProcedure_42 : decode prog_5_method_6_code 42 = .ok (.iaload, 1) := by decide +kernel
theorem smd_V_hasSameProcedure_43 : decode prog_5_method_6_code 43 = .ok (.aload_n 1, 1) := by decide +kernel
theorem smd_V_hasSameProcedure_44 : decode prog_5_method_6_code 44 = .ok (.getfield 15, 3) := by decide +kernel
theorem smd_V_hasSameProcedure_47 : decode prog_5_method_6_code 47 = .ok (.iload_n 3, 1) := by decide +kernel
theorem smd_V_hasSameProcedure_48 : decode prog_5_method_6_code 48 = .ok (.iaload, 1) := by decide +kernel
theorem smd_V_hasSameProcedure_49 : decode prog_5_method_6_code 49 = .ok (.if_icmp .ne 48, 3) := by decide +kernel
theorem smd_V_hasSameProcedure_52 : decode prog_5_method_6_code 52 = .ok (.aload_n 0, 1) := by decide +kernel
theorem smd_V_hasSameProcedure_53 : decode prog_5_method_6_code 53 = .ok (.getfield 18, 3) := by decide +kernel
theorem smd_V_hasSameProcedure_56 : decode prog_5_method_6_code 56 = .ok (.iload_n 3, 1) := by decide +kernel
theorem smd_V_hasSameProcedure_57 : decode prog_5_method_6_code 57 = .ok (.iaload, 1) := by decide +kernel
theorem smd_V_hasSameProcedure_58 : decode prog_5_method_6_code 58 = .ok (.aload_n 1, 1) := by decide +kernel
theorem smd_V_hasSameProcedure_59 : decode prog_5_method_6_code 59 = .ok (.getfield 18, 3) := by decide +kernel
theorem smd_V_hasSameProcedure_62 : decode prog_5_method_6_code 62 = .ok (.iload_n 3, 1) := by decide +kernel
theorem smd_V_hasSameProcedure_63 : decode prog_5_method_6_code 63 = .ok (.iaload, 1) := by decide +kernel
theorem smd_V_hasSameProcedure_64 : decode prog_5_method_6_code 64 = .ok (.if_icmp .ne 33, 3) := by decide +kernel
theorem smd_V_hasSameProcedure_67 : decode prog_5_method_6_code 67 = .ok (.aload_n 0, 1) := by decide +kernel
theorem smd_V_hasSameProcedure_68 : decode prog_5_method_6_code 68 = .ok (.getfield 21, 3) := by decide +kernel
theorem smd_V_hasSameProcedure_71 : decode prog_5_method_6_code 71 = .ok (.iload_n 3, 1) := by decide +kernel
theorem smd_V_hasSameProcedure_72 : decode prog_5_method_6_code 72 = .ok (.iaload, 1) := by decide +kernel
theorem smd_V_hasSameProcedure_73 : decode prog_5_method_6_code 73 = .ok (.aload_n 1, 1) := by decide +kernel
theorem smd_V_hasSameProcedure_74 : decode prog_5_method_6_code 74 = .ok (.getfield 21, 3) := by decide +kernel
theorem smd_V_hasSameProcedure_77 : decode prog_5_method_6_code 77 = .ok (.iload_n 3, 1) := by decide +kernel
theorem smd_V_hasSameProcedure_78 : decode prog_5_method_6_code 78 = .ok (.iaload, 1) := by decide +kernel
theorem smd_V_hasSameProcedure_79 : decode prog_5_method_6_code 79 = .ok (.if_icmp .ne 18, 3) := by decide +kernel
theorem smd_V_hasSameProcedure_82 : decode prog_5_method_6_code 82 = .ok (.aload_n 0, 1) := by decide +kernel
theorem smd_V_hasSameProcedure_83 : decode prog_5_method_6_code 83 = .ok (.getfield 24, 3) := by decide +kernel
theorem smd_V_hasSameProcedure_86 : decode prog_5_method_6_code 86 = .ok (.iload_n 3, 1) := by decide +kernel
theorem smd_V_hasSameProcedure_87 : decode prog_5_method_6_code 87 = .ok (.iaload, 1) := by decide +kernel
theorem smd_V_hasSameProcedure_88 : decode prog_5_method_6_code 88 = .ok (.aload_n 1, 1) := by decide +kernel
theorem smd_V_hasSameProcedure_89 : decode prog_5_method_6_code 89 = .ok (.getfield 24, 3) := by decide +kernel
theorem smd_V_hasSameProcedure_92 : decode prog_5_method_6_code 92 = .ok (.iload_n 3, 1) := by decide +kernel
theorem smd_V_hasSameProcedure_93 : decode prog_5_method_6_code 93 = .ok (.iaload, 1) := by decide +kernel
theorem smd_V_hasSameProcedure_94 : decode prog_5_method_6_code 94 = .ok (.if_icmp .eq 5, 3) := by decide +kernel
theorem smd_V_hasSameProcedure_97 : decode prog_5_method_6_code 97 = .ok (.iconst 0, 1) := by decide +kernel
theorem smd_V_hasSameProcedure_98 : decode prog_5_method_6_code 98 = .ok (.ireturn, 1) := by decide +kernel
theorem smd_V_hasSameProcedure_99 : decode prog_5_method_6_code 99 = .ok (.iinc 3 1, 3) := by decide +kernel
theorem smd_V_hasSameProcedure_102 : decode prog_5_method_6_code 102 = .ok (.goto (-79), 3) := by decide +kernel
theorem smd_V_hasSameProcedure_105 : decode prog_5_method_6_code 105 = .ok (.iconst 1, 1) := by decide +kernel
theorem smd_V_hasSameProcedure_106 : decode prog_5_method_6_code 106 = .ok (.ireturn, 1) := by decide +kernel
theorem smd_V_usesTouchedType_0 : decode prog_5_method_7_code 0 = .ok (.iload_n 1, 1) := by decide +kernel
theorem smd_V_usesTouchedType_1 : decode prog_5_method_7_code 1 = .ok (.iconst 0, 1) := by decide +kernel
theorem smd_V_usesTouchedType_2 : decode prog_5_method_7_code 2 = .ok (.invokestatic 34, 3) := by decide +kernel
theorem smd_V_usesTouchedType_5 : decode prog_5_method_7_code 5 = .ok (.istore_n 3, 1) := by decide +kernel
theorem smd_V_usesTouchedType_6 : decode prog_5_method_7_code 6 = .ok (.iload_n 3, 1) := by decide +kernel
theorem smd_V_usesTouchedType_7 : decode prog_5_method_7_code 7 = .ok (.iload_n 1, 1) := by decide +kernel
theorem smd_V_usesTouchedType_8 : decode prog_5_method_7_code 8 = .ok (.aload_n 0, 1) := by decide +kernel
theorem smd_V_usesTouchedType_9 : decode prog_5_method_7_code 9 = .ok (.getfield 9, 3) := by decide +kernel
theorem smd_V_usesTouchedType_12 : decode prog_5_method_7_code 12 = .ok (.iload_n 1, 1) := by decide +kernel
theorem smd_V_usesTouchedType_13 : decode prog_5_method_7_code 13 = .ok (.iaload, 1) := by decide +kernel
theorem smd_V_usesTouchedType_14 : decode prog_5_method_7_code 14 = .ok (.invokestatic 34, 3) := by decide +kernel
theorem smd_V_usesTouchedType_17 : decode prog_5_method_7_code 17 = .ok (.if_icmp .ge 31, 3) := by decide +kernel
theorem smd_V_usesTouchedType_20 : decode prog_5_method_7_code 20 = .ok (.aload_n 0, 1) := by decide +kernel
theorem smd_V_usesTouchedType_21 : decode prog_5_method_7_code 21 = .ok (.iload_n 3, 1) := by decide +kernel
theorem smd_V_usesTouchedType_22 : decode prog_5_method_7_code 22 = .ok (.invokevirtual 49, 3) := by decide +kernel
theorem smd_V_usesTouchedType_25 : decode prog_5_method_7_code 25 = .ok (.istore 4, 2) := by decide +kernel
theorem smd_V_usesTouchedType_27 : decode prog_5_method_7_code 27 = .ok (.iload 4, 2) := by decide +kernel
theorem smd_V_usesTouchedType_29 : decode prog_5_method_7_code 29 = .ok (.iconst (-1), 1) := by decide +kernel
theorem smd_V_usesTouchedType_30 : decode prog_5_method_7_code 30 = .ok (.if_icmp .eq 12, 3) := by decide +kernel
theorem smd_V_usesTouchedType_33 : decode prog_5_method_7_code 33 = .ok (.aload_n 2, 1) := by decide +kernel
theorem smd_V_usesTouchedType_34 : decode prog_5_method_7_code 34 = .ok (.iload 4, 2) := by decide +kernel
theorem smd_V_usesTouchedType_36 : decode prog_5_method_7_code 36 = .ok (.baload, 1) := by decide +kernel
theorem smd_V_usesTouchedType_37 : decode prog_5_method_7_code 37 = .ok (.ifCond .eq 5, 3) := by decide +kernel
theorem smd_V_usesTouchedType_40 : decode prog_5_method_7_code 40 = .ok (.iconst 1, 1) := by decide +kernel
theorem smd_V_usesTouchedType_41 : decode prog_5_method_7_code 41 = .ok (.ireturn, 1) := by decide +kernel
theorem smd_V_usesTouchedType_42 : decode prog_5_method_7_code 42 = .ok (.iinc 3 1, 3) := by decide +kernel
theorem smd_V_usesTouchedType_45 : decode prog_5_method_7_code 45 = .ok (.goto (-39), 3) := by decide +kernel
theorem smd_V_usesTouchedType_48 : decode prog_5_method_7_code 48 = .ok (.iconst 0, 1) := by decide +kernel
theorem smd_V_usesTouchedType_49 : decode prog_5_method_7_code 49 = .ok (.ireturn, 1) := by decide +kernel
theorem smd_V_typeUsed_0 : decode prog_5_method_8_code 0 = .ok (.aload_n 0, 1) := by decide +kernel
theorem smd_V_typeUsed_1 : decode prog_5_method_8_code 1 = .ok (.getfield 15, 3) := by decide +kernel
theorem smd_V_typeUsed_4 : decode prog_5_method_8_code 4 = .ok (.iload_n 1, 1) := by decide +kernel
theorem smd_V_typeUsed_5 : decode prog_5_method_8_code 5 = .ok (.iaload, 1) := by decide +kernel
theorem smd_V_typeUsed_6 : decode prog_5_method_8_code 6 = .ok (.tableswitch 42 6 8 #[26, 33, 33], 26) := by decide +kernel
theorem smd_V_typeUsed_32 : decode prog_5_method_8_code 32 = .ok (.aload_n 0, 1) := by decide +kernel
theorem smd_V_typeUsed_33 : decode prog_5_method_8_code 33 = .ok (.getfield 21, 3) := by decide +kernel
theorem smd_V_typeUsed_36 : decode prog_5_method_8_code 36 = .ok (.iload_n 1, 1) := by decide +kernel
theorem smd_V_typeUsed_37 : decode prog_5_method_8_code 37 = .ok (.iaload, 1) := by decide +kernel
theorem smd_V_typeUsed_38 : decode prog_5_method_8_code 38 = .ok (.ireturn, 1) := by decide +kernel
theorem smd_V_typeUsed_39 : decode prog_5_method_8_code 39 = .ok (.aload_n 0, 1) := by decide +kernel
theorem smd_V_typeUsed_40 : decode prog_5_method_8_code 40 = .ok (.getfield 24, 3) := by decide +kernel
theorem smd_V_typeUsed_43 : decode prog_5_method_8_code 43 = .ok (.iload_n 1, 1) := by decide +kernel
theorem smd_V_typeUsed_44 : decode prog_5_method_8_code 44 = .ok (.iaload, 1) := by decide +kernel
theorem smd_V_typeUsed_45 : decode prog_5_method_8_code 45 = .ok (.iconst 4, 1) := by decide +kernel
theorem smd_V_typeUsed_46 : decode prog_5_method_8_code 46 = .ok (.idiv, 1) := by decide +kernel
theorem smd_V_typeUsed_47 : decode prog_5_method_8_code 47 = .ok (.ireturn, 1) := by decide +kernel
theorem smd_V_typeUsed_48 : decode prog_5_method_8_code 48 = .ok (.iconst (-1), 1) := by decide +kernel
theorem smd_V_typeUsed_49 : decode prog_5_method_8_code 49 = .ok (.ireturn, 1) := by decide +kernel
