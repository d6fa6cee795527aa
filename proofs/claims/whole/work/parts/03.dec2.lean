theorem dX8_lineOf_93 : decode cX8_lineOf 93 = .ok (.getfield 39, 3) := by decide +kernel
theorem dX8_lineOf_96 : decode cX8_lineOf 96 = .ok (.getfield 253, 3) := by decide +kernel
theorem dX8_lineOf_99 : decode cX8_lineOf 99 = .ok (.getfield 269, 3) := by decide +kernel
theorem dX8_lineOf_102 : decode cX8_lineOf 102 = .ok (.ireturn, 1) := by decide +kernel
theorem dX8_lineOf_103 : decode cX8_lineOf 103 = .ok (.aload_n 0, 1) := by decide +kernel
theorem dX8_lineOf_104 : decode cX8_lineOf 104 = .ok (.bipush (-2), 2) := by decide +kernel
theorem dX8_lineOf_106 : decode cX8_lineOf 106 = .ok (.invokevirtual 50, 3) := by decide +kernel
theorem dX8_lineOf_109 : decode cX8_lineOf 109 = .ok (.ireturn, 1) := by decide +kernel
theorem dX8_ratio_0 : decode cX8_ratio 0 = .ok (.aload_n 0, 1) := by decide +kernel
theorem dX8_ratio_1 : decode cX8_ratio 1 = .ok (.iload_n 1, 1) := by decide +kernel
theorem dX8_ratio_2 : decode cX8_ratio 2 = .ok (.invokevirtual 250, 3) := by decide +kernel
theorem dX8_ratio_5 : decode cX8_ratio 5 = .ok (.ifCond .eq 19, 3) := by decide +kernel
theorem dX8_ratio_8 : decode cX8_ratio 8 = .ok (.aload_n 0, 1) := by decide +kernel
theorem dX8_ratio_9 : decode cX8_ratio 9 = .ok (.getfield 39, 3) := by decide +kernel
theorem dX8_ratio_12 : decode cX8_ratio 12 = .ok (.getfield 253, 3) := by decide +kernel
theorem dX8_ratio_15 : decode cX8_ratio 15 = .ok (.getfield 272, 3) := by decide +kernel
theorem dX8_ratio_18 : decode cX8_ratio 18 = .ok (.invokestatic 276, 3) := by decide +kernel
theorem dX8_ratio_21 : decode cX8_ratio 21 = .ok (.goto 4, 3) := by decide +kernel
theorem dX8_ratio_24 : decode cX8_ratio 24 = .ok (.iconst 0, 1) := by decide +kernel
theorem dX8_ratio_25 : decode cX8_ratio 25 = .ok (.ireturn, 1) := by decide +kernel
theorem dX8_badness_0 : decode cX8_badness 0 = .ok (.aload_n 0, 1) := by decide +kernel
theorem dX8_badness_1 : decode cX8_badness 1 = .ok (.iload_n 1, 1) := by decide +kernel
theorem dX8_badness_2 : decode cX8_badness 2 = .ok (.invokevirtual 250, 3) := by decide +kernel
theorem dX8_badness_5 : decode cX8_badness 5 = .ok (.ifCond .eq 19, 3) := by decide +kernel
theorem dX8_badness_8 : decode cX8_badness 8 = .ok (.aload_n 0, 1) := by decide +kernel
theorem dX8_badness_9 : decode cX8_badness 9 = .ok (.getfield 39, 3) := by decide +kernel
theorem dX8_badness_12 : decode cX8_badness 12 = .ok (.getfield 253, 3) := by decide +kernel
theorem dX8_badness_15 : decode cX8_badness 15 = .ok (.invokevirtual 280, 3) := by decide +kernel
theorem dX8_badness_18 : decode cX8_badness 18 = .ok (.invokestatic 276, 3) := by decide +kernel
theorem dX8_badness_21 : decode cX8_badness 21 = .ok (.goto 4, 3) := by decide +kernel
theorem dX8_badness_24 : decode cX8_badness 24 = .ok (.iconst 0, 1) := by decide +kernel
theorem dX8_badness_25 : decode cX8_badness 25 = .ok (.ireturn, 1) := by decide +kernel
theorem dX8_demerits_0 : decode cX8_demerits 0 = .ok (.aload_n 0, 1) := by decide +kernel
theorem dX8_demerits_1 : decode cX8_demerits 1 = .ok (.iload_n 1, 1) := by decide +kernel
theorem dX8_demerits_2 : decode cX8_demerits 2 = .ok (.invokevirtual 250, 3) := by decide +kernel
theorem dX8_demerits_5 : decode cX8_demerits 5 = .ok (.ifCond .eq 19, 3) := by decide +kernel
theorem dX8_demerits_8 : decode cX8_demerits 8 = .ok (.aload_n 0, 1) := by decide +kernel
theorem dX8_demerits_9 : decode cX8_demerits 9 = .ok (.getfield 39, 3) := by decide +kernel
theorem dX8_demerits_12 : decode cX8_demerits 12 = .ok (.getfield 253, 3) := by decide +kernel
theorem dX8_demerits_15 : decode cX8_demerits 15 = .ok (.invokevirtual 284, 3) := by decide +kernel
theorem dX8_demerits_18 : decode cX8_demerits 18 = .ok (.invokestatic 276, 3) := by decide +kernel
theorem dX8_demerits_21 : decode cX8_demerits 21 = .ok (.goto 4, 3) := by decide +kernel
theorem dX8_demerits_24 : decode cX8_demerits 24 = .ok (.iconst 0, 1) := by decide +kernel
theorem dX8_demerits_25 : decode cX8_demerits 25 = .ok (.ireturn, 1) := by decide +kernel
theorem dX8_total_0 : decode cX8_total 0 = .ok (.iload_n 1, 1) := by decide +kernel
theorem dX8_total_1 : decode cX8_total 1 = .ok (.ifCond .lt 9, 3) := by decide +kernel
theorem dX8_total_4 : decode cX8_total 4 = .ok (.iload_n 1, 1) := by decide +kernel
theorem dX8_total_5 : decode cX8_total 5 = .ok (.bipush 20, 2) := by decide +kernel
theorem dX8_total_7 : decode cX8_total 7 = .ok (.if_icmp .le 5, 3) := by decide +kernel
theorem dX8_total_10 : decode cX8_total 10 = .ok (.iconst 0, 1) := by decide +kernel
theorem dX8_total_11 : decode cX8_total 11 = .ok (.ireturn, 1) := by decide +kernel
theorem dX8_total_12 : decode cX8_total 12 = .ok (.aload_n 0, 1) := by decide +kernel
theorem dX8_total_13 : decode cX8_total 13 = .ok (.getfield 39, 3) := by decide +kernel
theorem dX8_total_16 : decode cX8_total 16 = .ok (.aload_n 0, 1) := by decide +kernel
theorem dX8_total_17 : decode cX8_total 17 = .ok (.getfield 10, 3) := by decide +kernel
theorem dX8_total_20 : decode cX8_total 20 = .ok (.iconst 0, 1) := by decide +kernel
theorem dX8_total_21 : decode cX8_total 21 = .ok (.invokevirtual 229, 3) := by decide +kernel
theorem dX8_total_24 : decode cX8_total 24 = .ok (.pop, 1) := by decide +kernel
theorem dX8_total_25 : decode cX8_total 25 = .ok (.iload_n 1, 1) := by decide +kernel
theorem dX8_total_26 : decode cX8_total 26 = .ok (.ifCond .ne 13, 3) := by decide +kernel
theorem dX8_total_29 : decode cX8_total 29 = .ok (.aload_n 0, 1) := by decide +kernel
theorem dX8_total_30 : decode cX8_total 30 = .ok (.getfield 39, 3) := by decide +kernel
theorem dX8_total_33 : decode cX8_total 33 = .ok (.invokevirtual 287, 3) := by decide +kernel
theorem dX8_total_36 : decode cX8_total 36 = .ok (.goto 15, 3) := by decide +kernel
theorem dX8_total_39 : decode cX8_total 39 = .ok (.aload_n 0, 1) := by decide +kernel
theorem dX8_total_40 : decode cX8_total 40 = .ok (.getfield 39, 3) := by decide +kernel
theorem dX8_total_43 : decode cX8_total 43 = .ok (.aload_n 0, 1) := by decide +kernel
theorem dX8_total_44 : decode cX8_total 44 = .ok (.getfield 10, 3) := by decide +kernel
theorem dX8_total_47 : decode cX8_total 47 = .ok (.iload_n 1, 1) := by decide +kernel
theorem dX8_total_48 : decode cX8_total 48 = .ok (.invokevirtual 290, 3) := by decide +kernel
theorem dX8_total_51 : decode cX8_total 51 = .ok (.invokestatic 294, 3) := by decide +kernel
theorem dX8_total_54 : decode cX8_total 54 = .ok (.ireturn, 1) := by decide +kernel
theorem dX8_firstFit_0 : decode cX8_firstFit 0 = .ok (.aload_n 0, 1) := by decide +kernel
theorem dX8_firstFit_1 : decode cX8_firstFit 1 = .ok (.getfield 39, 3) := by decide +kernel
theorem dX8_firstFit_4 : decode cX8_firstFit 4 = .ok (.getfield 233, 3) := by decide +kernel
theorem dX8_firstFit_7 : decode cX8_firstFit 7 = .ok (.aload_n 0, 1) := by decide +kernel
theorem dX8_firstFit_8 : decode cX8_firstFit 8 = .ok (.getfield 10, 3) := by decide +kernel
theorem dX8_firstFit_11 : decode cX8_firstFit 11 = .ok (.iconst 0, 1) := by decide +kernel
theorem dX8_firstFit_12 : decode cX8_firstFit 12 = .ok (.invokevirtual 297, 3) := by decide +kernel
theorem dX8_firstFit_15 : decode cX8_firstFit 15 = .ok (.aload_n 0, 1) := by decide +kernel
theorem dX8_firstFit_16 : decode cX8_firstFit 16 = .ok (.getfield 39, 3) := by decide +kernel
theorem dX8_firstFit_19 : decode cX8_firstFit 19 = .ok (.aload_n 0, 1) := by decide +kernel
theorem dX8_firstFit_20 : decode cX8_firstFit 20 = .ok (.getfield 10, 3) := by decide +kernel
theorem dX8_firstFit_23 : decode cX8_firstFit 23 = .ok (.invokevirtual 301, 3) := by decide +kernel
theorem dX8_firstFit_26 : decode cX8_firstFit 26 = .ok (.ireturn, 1) := by decide +kernel
theorem dX8_with_0 : decode cX8_with 0 = .ok (.iload_n 1, 1) := by decide +kernel
theorem dX8_with_1 : decode cX8_with 1 = .ok (.bipush 10, 2) := by decide +kernel
theorem dX8_with_3 : decode cX8_with 3 = .ok (.bipush 60, 2) := by decide +kernel
theorem dX8_with_5 : decode cX8_with 5 = .ok (.invokestatic 85, 3) := by decide +kernel
theorem dX8_with_8 : decode cX8_with 8 = .ok (.istore_n 2, 1) := by decide +kernel
theorem dX8_with_9 : decode cX8_with 9 = .ok (.iload_n 2, 1) := by decide +kernel
theorem dX8_with_10 : decode cX8_with 10 = .ok (.ifCond .eq 9, 3) := by decide +kernel
theorem dX8_with_13 : decode cX8_with 13 = .ok (.aload_n 0, 1) := by decide +kernel
theorem dX8_with_14 : decode cX8_with 14 = .ok (.iload_n 2, 1) := by decide +kernel
theorem dX8_with_15 : decode cX8_with 15 = .ok (.invokevirtual 50, 3) := by decide +kernel
theorem dX8_with_18 : decode cX8_with 18 = .ok (.ireturn, 1) := by decide +kernel
theorem dX8_with_19 : decode cX8_with 19 = .ok (.aload_n 0, 1) := by decide +kernel
theorem dX8_with_20 : decode cX8_with 20 = .ok (.invokevirtual 304, 3) := by decide +kernel
theorem dX8_with_23 : decode cX8_with 23 = .ok (.aload_n 0, 1) := by decide +kernel
theorem dX8_with_24 : decode cX8_with 24 = .ok (.iload_n 1, 1) := by decide +kernel
theorem dX8_with_25 : decode cX8_with 25 = .ok (.invokevirtual 307, 3) := by decide +kernel
theorem dX8_with_28 : decode cX8_with 28 = .ok (.ireturn, 1) := by decide +kernel
theorem dX8_narrowest_0 : decode cX8_narrowest 0 = .ok (.iload_n 1, 1) := by decide +kernel
theorem dX8_narrowest_1 : decode cX8_narrowest 1 = .ok (.iconst 1, 1) := by decide +kernel
theorem dX8_narrowest_2 : decode cX8_narrowest 2 = .ok (.bipush 20, 2) := by decide +kernel
theorem dX8_narrowest_4 : decode cX8_narrowest 4 = .ok (.invokestatic 85, 3) := by decide +kernel
theorem dX8_narrowest_7 : decode cX8_narrowest 7 = .ok (.istore_n 2, 1) := by decide +kernel
theorem dX8_narrowest_8 : decode cX8_narrowest 8 = .ok (.iload_n 2, 1) := by decide +kernel
theorem dX8_narrowest_9 : decode cX8_narrowest 9 = .ok (.ifCond .eq 9, 3) := by decide +kernel
theorem dX8_narrowest_12 : decode cX8_narrowest 12 = .ok (.aload_n 0, 1) := by decide +kernel
theorem dX8_narrowest_13 : decode cX8_narrowest 13 = .ok (.iload_n 2, 1) := by decide +kernel
theorem dX8_narrowest_14 : decode cX8_narrowest 14 = .ok (.invokevirtual 50, 3) := by decide +kernel
theorem dX8_narrowest_17 : decode cX8_narrowest 17 = .ok (.ireturn, 1) := by decide +kernel
theorem dX8_narrowest_18 : decode cX8_narrowest 18 = .ok (.aload_n 0, 1) := by decide +kernel
theorem dX8_narrowest_19 : decode cX8_narrowest 19 = .ok (.invokevirtual 304, 3) := by decide +kernel
theorem dX8_narrowest_22 : decode cX8_narrowest 22 = .ok (.bipush 10, 2) := by decide +kernel
theorem dX8_narrowest_24 : decode cX8_narrowest 24 = .ok (.istore_n 3, 1) := by decide +kernel
theorem dX8_narrowest_25 : decode cX8_narrowest 25 = .ok (.iload_n 3, 1) := by decide +kernel
theorem dX8_narrowest_26 : decode cX8_narrowest 26 = .ok (.bipush 60, 2) := by decide +kernel
theorem dX8_narrowest_28 : decode cX8_narrowest 28 = .ok (.if_icmp .gt 31, 3) := by decide +kernel
theorem dX8_narrowest_31 : decode cX8_narrowest 31 = .ok (.aload_n 0, 1) := by decide +kernel
theorem dX8_narrowest_32 : decode cX8_narrowest 32 = .ok (.iload_n 3, 1) := by decide +kernel
theorem dX8_narrowest_33 : decode cX8_narrowest 33 = .ok (.invokevirtual 307, 3) := by decide +kernel
theorem dX8_narrowest_36 : decode cX8_narrowest 36 = .ok (.istore 4, 2) := by decide +kernel
theorem dX8_narrowest_38 : decode cX8_narrowest 38 = .ok (.iload 4, 2) := by decide +kernel
theorem dX8_narrowest_40 : decode cX8_narrowest 40 = .ok (.bipush (-9), 2) := by decide +kernel
theorem dX8_narrowest_42 : decode cX8_narrowest 42 = .ok (.if_icmp .eq 11, 3) := by decide +kernel
theorem dX8_narrowest_45 : decode cX8_narrowest 45 = .ok (.iload 4, 2) := by decide +kernel
theorem dX8_narrowest_47 : decode cX8_narrowest 47 = .ok (.iload_n 1, 1) := by decide +kernel
theorem dX8_narrowest_48 : decode cX8_narrowest 48 = .ok (.if_icmp .gt 5, 3) := by decide +kernel
theorem dX8_narrowest_51 : decode cX8_narrowest 51 = .ok (.iload_n 3, 1) := by decide +kernel
theorem dX8_narrowest_52 : decode cX8_narrowest 52 = .ok (.ireturn, 1) := by decide +kernel
theorem dX8_narrowest_53 : decode cX8_narrowest 53 = .ok (.iinc 3 1, 3) := by decide +kernel
theorem dX8_narrowest_56 : decode cX8_narrowest 56 = .ok (.goto (-31), 3) := by decide +kernel
theorem dX8_narrowest_59 : decode cX8_narrowest 59 = .ok (.bipush (-9), 2) := by decide +kernel
theorem dX8_narrowest_61 : decode cX8_narrowest 61 = .ok (.ireturn, 1) := by decide +kernel
theorem dX8_without_0 : decode cX8_without 0 = .ok (.aload_n 0, 1) := by decide +kernel
theorem dX8_without_1 : decode cX8_without 1 = .ok (.getfield 10, 3) := by decide +kernel
theorem dX8_without_4 : decode cX8_without 4 = .ok (.getfield 106, 3) := by decide +kernel
theorem dX8_without_7 : decode cX8_without 7 = .ok (.iload_n 1, 1) := by decide +kernel
theorem dX8_without_8 : decode cX8_without 8 = .ok (.invokevirtual 121, 3) := by decide +kernel
theorem dX8_without_11 : decode cX8_without 11 = .ok (.ifCond .ne 9, 3) := by decide +kernel
theorem dX8_without_14 : decode cX8_without 14 = .ok (.aload_n 0, 1) := by decide +kernel
theorem dX8_without_15 : decode cX8_without 15 = .ok (.iconst (-1), 1) := by decide +kernel
theorem dX8_without_16 : decode cX8_without 16 = .ok (.invokevirtual 50, 3) := by decide +kernel
theorem dX8_without_19 : decode cX8_without 19 = .ok (.ireturn, 1) := by decide +kernel
theorem dX8_without_20 : decode cX8_without 20 = .ok (.iload_n 2, 1) := by decide +kernel
theorem dX8_without_21 : decode cX8_without 21 = .ok (.iconst 2, 1) := by decide +kernel
theorem dX8_without_22 : decode cX8_without 22 = .ok (.invokestatic 171, 3) := by decide +kernel
theorem dX8_without_25 : decode cX8_without 25 = .ok (.ifCond .eq 10, 3) := by decide +kernel
theorem dX8_without_28 : decode cX8_without 28 = .ok (.aload_n 0, 1) := by decide +kernel
theorem dX8_without_29 : decode cX8_without 29 = .ok (.bipush (-2), 2) := by decide +kernel
theorem dX8_without_31 : decode cX8_without 31 = .ok (.invokevirtual 50, 3) := by decide +kernel
theorem dX8_without_34 : decode cX8_without 34 = .ok (.ireturn, 1) := by decide +kernel
theorem dX8_without_35 : decode cX8_without 35 = .ok (.aload_n 0, 1) := by decide +kernel
theorem dX8_without_36 : decode cX8_without 36 = .ok (.getfield 39, 3) := by decide +kernel
theorem dX8_without_39 : decode cX8_without 39 = .ok (.aload_n 0, 1) := by decide +kernel
theorem dX8_without_40 : decode cX8_without 40 = .ok (.getfield 10, 3) := by decide +kernel
theorem dX8_without_43 : decode cX8_without 43 = .ok (.iconst 1, 1) := by decide +kernel
theorem dX8_without_44 : decode cX8_without 44 = .ok (.iload_n 1, 1) := by decide +kernel
theorem dX8_without_45 : decode cX8_without 45 = .ok (.ishl, 1) := by decide +kernel
theorem dX8_without_46 : decode cX8_without 46 = .ok (.invokevirtual 229, 3) := by decide +kernel
theorem dX8_without_49 : decode cX8_without 49 = .ok (.istore_n 3, 1) := by decide +kernel
theorem dX8_without_50 : decode cX8_without 50 = .ok (.iload_n 2, 1) := by decide +kernel
theorem dX8_without_51 : decode cX8_without 51 = .ok (.ifCond .ne 7, 3) := by decide +kernel
theorem dX8_without_54 : decode cX8_without 54 = .ok (.iload_n 3, 1) := by decide +kernel
theorem dX8_without_55 : decode cX8_without 55 = .ok (.goto 13, 3) := by decide +kernel
theorem dX8_without_58 : decode cX8_without 58 = .ok (.aload_n 0, 1) := by decide +kernel
theorem dX8_without_59 : decode cX8_without 59 = .ok (.getfield 39, 3) := by decide +kernel
theorem dX8_without_62 : decode cX8_without 62 = .ok (.invokevirtual 287, 3) := by decide +kernel
theorem dX8_without_65 : decode cX8_without 65 = .ok (.invokestatic 294, 3) := by decide +kernel
theorem dX8_without_68 : decode cX8_without 68 = .ok (.ireturn, 1) := by decide +kernel
theorem dX8_worst_0 : decode cX8_worst 0 = .ok (.aload_n 0, 1) := by decide +kernel
theorem dX8_worst_1 : decode cX8_worst 1 = .ok (.getfield 39, 3) := by decide +kernel
theorem dX8_worst_4 : decode cX8_worst 4 = .ok (.aload_n 0, 1) := by decide +kernel
theorem dX8_worst_5 : decode cX8_worst 5 = .ok (.getfield 10, 3) := by decide +kernel
theorem dX8_worst_8 : decode cX8_worst 8 = .ok (.iconst 0, 1) := by decide +kernel
theorem dX8_worst_9 : decode cX8_worst 9 = .ok (.invokevirtual 229, 3) := by decide +kernel
theorem dX8_worst_12 : decode cX8_worst 12 = .ok (.pop, 1) := by decide +kernel
theorem dX8_worst_13 : decode cX8_worst 13 = .ok (.aload_n 0, 1) := by decide +kernel
theorem dX8_worst_14 : decode cX8_worst 14 = .ok (.getfield 39, 3) := by decide +kernel
theorem dX8_worst_17 : decode cX8_worst 17 = .ok (.invokevirtual 287, 3) := by decide +kernel
theorem dX8_worst_20 : decode cX8_worst 20 = .ok (.fstore_n 1, 1) := by decide +kernel
theorem dX8_worst_21 : decode cX8_worst 21 = .ok (.bipush (-9), 2) := by decide +kernel
theorem dX8_worst_23 : decode cX8_worst 23 = .ok (.istore_n 2, 1) := by decide +kernel
theorem dX8_worst_24 : decode cX8_worst 24 = .ok (.iconst 0, 1) := by decide +kernel
theorem dX8_worst_25 : decode cX8_worst 25 = .ok (.istore_n 3, 1) := by decide +kernel
theorem dX8_worst_26 : decode cX8_worst 26 = .ok (.iload_n 3, 1) := by decide +kernel
theorem dX8_worst_27 : decode cX8_worst 27 = .ok (.aload_n 0, 1) := by decide +kernel
theorem dX8_worst_28 : decode cX8_worst 28 = .ok (.getfield 10, 3) := by decide +kernel
theorem dX8_worst_31 : decode cX8_worst 31 = .ok (.getfield 106, 3) := by decide +kernel
theorem dX8_worst_34 : decode cX8_worst 34 = .ok (.getfield 310, 3) := by decide +kernel
theorem dX8_worst_37 : decode cX8_worst 37 = .ok (.if_icmp .ge 47, 3) := by decide +kernel
theorem dX8_worst_40 : decode cX8_worst 40 = .ok (.aload_n 0, 1) := by decide +kernel
theorem dX8_worst_41 : decode cX8_worst 41 = .ok (.getfield 39, 3) := by decide +kernel
theorem dX8_worst_44 : decode cX8_worst 44 = .ok (.aload_n 0, 1) := by decide +kernel
theorem dX8_worst_45 : decode cX8_worst 45 = .ok (.getfield 10, 3) := by decide +kernel
theorem dX8_worst_48 : decode cX8_worst 48 = .ok (.iconst 1, 1) := by decide +kernel
theorem dX8_worst_49 : decode cX8_worst 49 = .ok (.iload_n 3, 1) := by decide +kernel
theorem dX8_worst_50 : decode cX8_worst 50 = .ok (.ishl, 1) := by decide +kernel
theorem dX8_worst_51 : decode cX8_worst 51 = .ok (.invokevirtual 229, 3) := by decide +kernel
theorem dX8_worst_54 : decode cX8_worst 54 = .ok (.pop, 1) := by decide +kernel
theorem dX8_worst_55 : decode cX8_worst 55 = .ok (.aload_n 0, 1) := by decide +kernel
theorem dX8_worst_56 : decode cX8_worst 56 = .ok (.getfield 39, 3) := by decide +kernel
theorem dX8_worst_59 : decode cX8_worst 59 = .ok (.invokevirtual 287, 3) := by decide +kernel
theorem dX8_worst_62 : decode cX8_worst 62 = .ok (.fstore 4, 2) := by decide +kernel
theorem dX8_worst_64 : decode cX8_worst 64 = .ok (.fload 4, 2) := by decide +kernel
theorem dX8_worst_66 : decode cX8_worst 66 = .ok (.fload_n 1, 1) := by decide +kernel
theorem dX8_worst_67 : decode cX8_worst 67 = .ok (.invokestatic 311, 3) := by decide +kernel
theorem dX8_worst_70 : decode cX8_worst 70 = .ok (.ifCond .eq 8, 3) := by decide +kernel
theorem dX8_worst_73 : decode cX8_worst 73 = .ok (.fload 4, 2) := by decide +kernel
theorem dX8_worst_75 : decode cX8_worst 75 = .ok (.fstore_n 1, 1) := by decide +kernel
theorem dX8_worst_76 : decode cX8_worst 76 = .ok (.iload_n 3, 1) := by decide +kernel
theorem dX8_worst_77 : decode cX8_worst 77 = .ok (.istore_n 2, 1) := by decide +kernel
theorem dX8_worst_78 : decode cX8_worst 78 = .ok (.iinc 3 1, 3) := by decide +kernel
theorem dX8_worst_81 : decode cX8_worst 81 = .ok (.goto (-55), 3) := by decide +kernel
theorem dX8_worst_84 : decode cX8_worst 84 = .ok (.iload_n 2, 1) := by decide +kernel
theorem dX8_worst_85 : decode cX8_worst 85 = .ok (.ireturn, 1) := by decide +kernel
theorem dX8_manners_0 : decode cX8_manners 0 = .ok (.aload_n 0, 1) := by decide +kernel
theorem dX8_manners_1 : decode cX8_manners 1 = .ok (.invokevirtual 304, 3) := by decide +kernel
theorem dX8_manners_4 : decode cX8_manners 4 = .ok (.bipush (-9), 2) := by decide +kernel
theorem dX8_manners_6 : decode cX8_manners 6 = .ok (.istore_n 1, 1) := by decide +kernel
theorem dX8_manners_7 : decode cX8_manners 7 = .ok (.bipush (-9), 2) := by decide +kernel
theorem dX8_manners_9 : decode cX8_manners 9 = .ok (.istore_n 2, 1) := by decide +kernel
theorem dX8_manners_10 : decode cX8_manners 10 = .ok (.iconst 0, 1) := by decide +kernel
theorem dX8_manners_11 : decode cX8_manners 11 = .ok (.istore_n 3, 1) := by decide +kernel
theorem dX8_manners_12 : decode cX8_manners 12 = .ok (.iload_n 3, 1) := by decide +kernel
theorem dX8_manners_13 : decode cX8_manners 13 = .ok (.iconst 3, 1) := by decide +kernel
theorem dX8_manners_14 : decode cX8_manners 14 = .ok (.if_icmp .ge 54, 3) := by decide +kernel
theorem dX8_manners_17 : decode cX8_manners 17 = .ok (.aload_n 0, 1) := by decide +kernel
theorem dX8_manners_18 : decode cX8_manners 18 = .ok (.getfield 16, 3) := by decide +kernel
theorem dX8_manners_21 : decode cX8_manners 21 = .ok (.iload_n 3, 1) := by decide +kernel
theorem dX8_manners_22 : decode cX8_manners 22 = .ok (.putfield 175, 3) := by decide +kernel
theorem dX8_manners_25 : decode cX8_manners 25 = .ok (.aload_n 0, 1) := by decide +kernel
theorem dX8_manners_26 : decode cX8_manners 26 = .ok (.getfield 39, 3) := by decide +kernel
theorem dX8_manners_29 : decode cX8_manners 29 = .ok (.aload_n 0, 1) := by decide +kernel
theorem dX8_manners_30 : decode cX8_manners 30 = .ok (.getfield 16, 3) := by decide +kernel
theorem dX8_manners_33 : decode cX8_manners 33 = .ok (.invokevirtual 315, 3) := by decide +kernel
theorem dX8_manners_36 : decode cX8_manners 36 = .ok (.istore 4, 2) := by decide +kernel
theorem dX8_manners_38 : decode cX8_manners 38 = .ok (.iload 4, 2) := by decide +kernel
theorem dX8_manners_40 : decode cX8_manners 40 = .ok (.bipush (-9), 2) := by decide +kernel
theorem dX8_manners_42 : decode cX8_manners 42 = .ok (.if_icmp .eq 20, 3) := by decide +kernel
theorem dX8_manners_45 : decode cX8_manners 45 = .ok (.iload_n 1, 1) := by decide +kernel
theorem dX8_manners_46 : decode cX8_manners 46 = .ok (.bipush (-9), 2) := by decide +kernel
theorem dX8_manners_48 : decode cX8_manners 48 = .ok (.if_icmp .eq 9, 3) := by decide +kernel
theorem dX8_manners_51 : decode cX8_manners 51 = .ok (.iload 4, 2) := by decide +kernel
theorem dX8_manners_53 : decode cX8_manners 53 = .ok (.iload_n 1, 1) := by decide +kernel
theorem dX8_manners_54 : decode cX8_manners 54 = .ok (.if_icmp .ge 8, 3) := by decide +kernel
theorem dX8_manners_57 : decode cX8_manners 57 = .ok (.iload 4, 2) := by decide +kernel
theorem dX8_manners_59 : decode cX8_manners 59 = .ok (.istore_n 1, 1) := by decide +kernel
theorem dX8_manners_60 : decode cX8_manners 60 = .ok (.iload_n 3, 1) := by decide +kernel
theorem dX8_manners_61 : decode cX8_manners 61 = .ok (.istore_n 2, 1) := by decide +kernel
theorem dX8_manners_62 : decode cX8_manners 62 = .ok (.iinc 3 1, 3) := by decide +kernel
theorem dX8_manners_65 : decode cX8_manners 65 = .ok (.goto (-53), 3) := by decide +kernel
theorem dX8_manners_68 : decode cX8_manners 68 = .ok (.iload_n 2, 1) := by decide +kernel
theorem dX8_manners_69 : decode cX8_manners 69 = .ok (.ireturn, 1) := by decide +kernel
theorem dX8_two_0 : decode cX8_two 0 = .ok (.iload_n 1, 1) := by decide +kernel
theorem dX8_two_1 : decode cX8_two 1 = .ok (.bipush 10, 2) := by decide +kernel
theorem dX8_two_3 : decode cX8_two 3 = .ok (.if_icmp .lt 9, 3) := by decide +kernel
theorem dX8_two_6 : decode cX8_two 6 = .ok (.iload_n 2, 1) := by decide +kernel
theorem dX8_two_7 : decode cX8_two 7 = .ok (.bipush 10, 2) := by decide +kernel
theorem dX8_two_9 : decode cX8_two 9 = .ok (.if_icmp .ge 10, 3) := by decide +kernel
theorem dX8_two_12 : decode cX8_two 12 = .ok (.aload_n 0, 1) := by decide +kernel
theorem dX8_two_13 : decode cX8_two 13 = .ok (.bipush (-4), 2) := by decide +kernel
theorem dX8_two_15 : decode cX8_two 15 = .ok (.invokevirtual 50, 3) := by decide +kernel
theorem dX8_two_18 : decode cX8_two 18 = .ok (.ireturn, 1) := by decide +kernel
theorem dX8_two_19 : decode cX8_two 19 = .ok (.iload_n 1, 1) := by decide +kernel
theorem dX8_two_20 : decode cX8_two 20 = .ok (.bipush 60, 2) := by decide +kernel
theorem dX8_two_22 : decode cX8_two 22 = .ok (.if_icmp .gt 9, 3) := by decide +kernel
theorem dX8_two_25 : decode cX8_two 25 = .ok (.iload_n 2, 1) := by decide +kernel
theorem dX8_two_26 : decode cX8_two 26 = .ok (.bipush 60, 2) := by decide +kernel
theorem dX8_two_28 : decode cX8_two 28 = .ok (.if_icmp .le 10, 3) := by decide +kernel
theorem dX8_two_31 : decode cX8_two 31 = .ok (.aload_n 0, 1) := by decide +kernel
theorem dX8_two_32 : decode cX8_two 32 = .ok (.bipush (-6), 2) := by decide +kernel
theorem dX8_two_34 : decode cX8_two 34 = .ok (.invokevirtual 50, 3) := by decide +kernel
theorem dX8_two_37 : decode cX8_two 37 = .ok (.ireturn, 1) := by decide +kernel
theorem dX8_two_38 : decode cX8_two 38 = .ok (.aload_n 0, 1) := by decide +kernel
theorem dX8_two_39 : decode cX8_two 39 = .ok (.invokevirtual 304, 3) := by decide +kernel
theorem dX8_two_42 : decode cX8_two 42 = .ok (.aload_n 0, 1) := by decide +kernel
theorem dX8_two_43 : decode cX8_two 43 = .ok (.iload_n 1, 1) := by decide +kernel
theorem dX8_two_44 : decode cX8_two 44 = .ok (.invokevirtual 307, 3) := by decide +kernel
theorem dX8_two_47 : decode cX8_two 47 = .ok (.pop, 1) := by decide +kernel
theorem dX8_two_48 : decode cX8_two 48 = .ok (.aload_n 0, 1) := by decide +kernel
theorem dX8_two_49 : decode cX8_two 49 = .ok (.getfield 39, 3) := by decide +kernel
theorem dX8_two_52 : decode cX8_two 52 = .ok (.invokevirtual 287, 3) := by decide +kernel
theorem dX8_two_55 : decode cX8_two 55 = .ok (.fstore_n 3, 1) := by decide +kernel
theorem dX8_two_56 : decode cX8_two 56 = .ok (.aload_n 0, 1) := by decide +kernel
theorem dX8_two_57 : decode cX8_two 57 = .ok (.iload_n 2, 1) := by decide +kernel
theorem dX8_two_58 : decode cX8_two 58 = .ok (.invokevirtual 307, 3) := by decide +kernel
theorem dX8_two_61 : decode cX8_two 61 = .ok (.pop, 1) := by decide +kernel
theorem dX8_two_62 : decode cX8_two 62 = .ok (.aload_n 0, 1) := by decide +kernel
theorem dX8_two_63 : decode cX8_two 63 = .ok (.getfield 39, 3) := by decide +kernel
theorem dX8_two_66 : decode cX8_two 66 = .ok (.invokevirtual 287, 3) := by decide +kernel
theorem dX8_two_69 : decode cX8_two 69 = .ok (.fstore 4, 2) := by decide +kernel
theorem dX8_two_71 : decode cX8_two 71 = .ok (.fload_n 3, 1) := by decide +kernel
theorem dX8_two_72 : decode cX8_two 72 = .ok (.fload 4, 2) := by decide +kernel
theorem dX8_two_74 : decode cX8_two 74 = .ok (.invokestatic 311, 3) := by decide +kernel
theorem dX8_two_77 : decode cX8_two 77 = .ok (.ifCond .eq 5, 3) := by decide +kernel
theorem dX8_two_80 : decode cX8_two 80 = .ok (.iconst 0, 1) := by decide +kernel
theorem dX8_two_81 : decode cX8_two 81 = .ok (.ireturn, 1) := by decide +kernel
theorem dX8_two_82 : decode cX8_two 82 = .ok (.fload 4, 2) := by decide +kernel
theorem dX8_two_84 : decode cX8_two 84 = .ok (.fload_n 3, 1) := by decide +kernel
theorem dX8_two_85 : decode cX8_two 85 = .ok (.invokestatic 311, 3) := by decide +kernel
theorem dX8_two_88 : decode cX8_two 88 = .ok (.ifCond .eq 7, 3) := by decide +kernel
theorem dX8_two_91 : decode cX8_two 91 = .ok (.iconst 1, 1) := by decide +kernel
theorem dX8_two_92 : decode cX8_two 92 = .ok (.goto 5, 3) := by decide +kernel
theorem dX8_two_95 : decode cX8_two 95 = .ok (.bipush (-9), 2) := by decide +kernel
theorem dX8_two_97 : decode cX8_two 97 = .ok (.ireturn, 1) := by decide +kernel
theorem dX8_lost_0 : decode cX8_lost 0 = .ok (.iload_n 1, 1) := by decide +kernel
theorem dX8_lost_1 : decode cX8_lost 1 = .ok (.ifCond .lt 8, 3) := by decide +kernel
theorem dX8_lost_4 : decode cX8_lost 4 = .ok (.iload_n 2, 1) := by decide +kernel
theorem dX8_lost_5 : decode cX8_lost 5 = .ok (.iconst 2, 1) := by decide +kernel
theorem dX8_lost_6 : decode cX8_lost 6 = .ok (.if_icmp .ge 10, 3) := by decide +kernel
theorem dX8_lost_9 : decode cX8_lost 9 = .ok (.aload_n 0, 1) := by decide +kernel
theorem dX8_lost_10 : decode cX8_lost 10 = .ok (.bipush (-4), 2) := by decide +kernel
theorem dX8_lost_12 : decode cX8_lost 12 = .ok (.invokevirtual 318, 3) := by decide +kernel
theorem dX8_lost_15 : decode cX8_lost 15 = .ok (.lreturn, 1) := by decide +kernel
theorem dX8_lost_16 : decode cX8_lost 16 = .ok (.iload_n 1, 1) := by decide +kernel
theorem dX8_lost_17 : decode cX8_lost 17 = .ok (.bipush 20, 2) := by decide +kernel
theorem dX8_lost_19 : decode cX8_lost 19 = .ok (.if_icmp .gt 9, 3) := by decide +kernel
theorem dX8_lost_22 : decode cX8_lost 22 = .ok (.iload_n 2, 1) := by decide +kernel
theorem dX8_lost_23 : decode cX8_lost 23 = .ok (.bipush 20, 2) := by decide +kernel
theorem dX8_lost_25 : decode cX8_lost 25 = .ok (.if_icmp .le 10, 3) := by decide +kernel
theorem dX8_lost_28 : decode cX8_lost 28 = .ok (.aload_n 0, 1) := by decide +kernel
theorem dX8_lost_29 : decode cX8_lost 29 = .ok (.bipush (-6), 2) := by decide +kernel
theorem dX8_lost_31 : decode cX8_lost 31 = .ok (.invokevirtual 318, 3) := by decide +kernel
theorem dX8_lost_34 : decode cX8_lost 34 = .ok (.lreturn, 1) := by decide +kernel
theorem dX8_lost_35 : decode cX8_lost 35 = .ok (.iload_n 3, 1) := by decide +kernel
theorem dX8_lost_36 : decode cX8_lost 36 = .ok (.iconst 2, 1) := by decide +kernel
theorem dX8_lost_37 : decode cX8_lost 37 = .ok (.invokestatic 171, 3) := by decide +kernel
theorem dX8_lost_40 : decode cX8_lost 40 = .ok (.ifCond .eq 10, 3) := by decide +kernel
theorem dX8_lost_43 : decode cX8_lost 43 = .ok (.aload_n 0, 1) := by decide +kernel
theorem dX8_lost_44 : decode cX8_lost 44 = .ok (.bipush (-2), 2) := by decide +kernel
theorem dX8_lost_46 : decode cX8_lost 46 = .ok (.invokevirtual 318, 3) := by decide +kernel
theorem dX8_lost_49 : decode cX8_lost 49 = .ok (.lreturn, 1) := by decide +kernel
theorem dX8_lost_50 : decode cX8_lost 50 = .ok (.bipush 6, 2) := by decide +kernel
theorem dX8_lost_52 : decode cX8_lost 52 = .ok (.aload_n 0, 1) := by decide +kernel
theorem dX8_lost_53 : decode cX8_lost 53 = .ok (.getfield 10, 3) := by decide +kernel
theorem dX8_lost_56 : decode cX8_lost 56 = .ok (.getfield 106, 3) := by decide +kernel
theorem dX8_lost_59 : decode cX8_lost 59 = .ok (.getfield 310, 3) := by decide +kernel
theorem dX8_lost_62 : decode cX8_lost 62 = .ok (.invokestatic 321, 3) := by decide +kernel
theorem dX8_lost_65 : decode cX8_lost 65 = .ok (.istore 4, 2) := by decide +kernel
theorem dX8_lost_67 : decode cX8_lost 67 = .ok (.lconst 0, 1) := by decide +kernel
theorem dX8_lost_68 : decode cX8_lost 68 = .ok (.lstore 5, 2) := by decide +kernel
theorem dX8_lost_70 : decode cX8_lost 70 = .ok (.iconst 0, 1) := by decide +kernel
theorem dX8_lost_71 : decode cX8_lost 71 = .ok (.istore 7, 2) := by decide +kernel
theorem dX8_lost_73 : decode cX8_lost 73 = .ok (.iload 7, 2) := by decide +kernel
theorem dX8_lost_75 : decode cX8_lost 75 = .ok (.iconst 1, 1) := by decide +kernel
theorem dX8_lost_76 : decode cX8_lost 76 = .ok (.iload 4, 2) := by decide +kernel
theorem dX8_lost_78 : decode cX8_lost 78 = .ok (.ishl, 1) := by decide +kernel
theorem dX8_lost_79 : decode cX8_lost 79 = .ok (.if_icmp .ge 57, 3) := by decide +kernel
theorem dX8_lost_82 : decode cX8_lost 82 = .ok (.aload_n 0, 1) := by decide +kernel
theorem dX8_lost_83 : decode cX8_lost 83 = .ok (.getfield 39, 3) := by decide +kernel
theorem dX8_lost_86 : decode cX8_lost 86 = .ok (.aload_n 0, 1) := by decide +kernel
theorem dX8_lost_87 : decode cX8_lost 87 = .ok (.getfield 10, 3) := by decide +kernel
theorem dX8_lost_90 : decode cX8_lost 90 = .ok (.iload 7, 2) := by decide +kernel
theorem dX8_lost_92 : decode cX8_lost 92 = .ok (.invokevirtual 229, 3) := by decide +kernel
theorem dX8_lost_95 : decode cX8_lost 95 = .ok (.istore 8, 2) := by decide +kernel
theorem dX8_lost_97 : decode cX8_lost 97 = .ok (.iload 8, 2) := by decide +kernel
theorem dX8_lost_99 : decode cX8_lost 99 = .ok (.bipush (-9), 2) := by decide +kernel
theorem dX8_lost_101 : decode cX8_lost 101 = .ok (.if_icmp .eq 29, 3) := by decide +kernel
theorem dX8_lost_104 : decode cX8_lost 104 = .ok (.iload 8, 2) := by decide +kernel
theorem dX8_lost_106 : decode cX8_lost 106 = .ok (.iload_n 1, 1) := by decide +kernel
theorem dX8_lost_107 : decode cX8_lost 107 = .ok (.if_icmp .gt 23, 3) := by decide +kernel
theorem dX8_lost_110 : decode cX8_lost 110 = .ok (.lload 5, 2) := by decide +kernel
theorem dX8_lost_112 : decode cX8_lost 112 = .ok (.iload_n 2, 1) := by decide +kernel
theorem dX8_lost_113 : decode cX8_lost 113 = .ok (.iconst 1, 1) := by decide +kernel
theorem dX8_lost_114 : decode cX8_lost 114 = .ok (.isub, 1) := by decide +kernel
theorem dX8_lost_115 : decode cX8_lost 115 = .ok (.i2l, 1) := by decide +kernel
theorem dX8_lost_116 : decode cX8_lost 116 = .ok (.iload 4, 2) := by decide +kernel
theorem dX8_lost_118 : decode cX8_lost 118 = .ok (.iload 7, 2) := by decide +kernel
theorem dX8_lost_120 : decode cX8_lost 120 = .ok (.invokestatic 202, 3) := by decide +kernel
theorem dX8_lost_123 : decode cX8_lost 123 = .ok (.isub, 1) := by decide +kernel
theorem dX8_lost_124 : decode cX8_lost 124 = .ok (.invokestatic 327, 3) := by decide +kernel
theorem dX8_lost_127 : decode cX8_lost 127 = .ok (.ladd, 1) := by decide +kernel
theorem dX8_lost_128 : decode cX8_lost 128 = .ok (.lstore 5, 2) := by decide +kernel
theorem dX8_lost_130 : decode cX8_lost 130 = .ok (.iinc 7 1, 3) := by decide +kernel
theorem dX8_lost_133 : decode cX8_lost 133 = .ok (.goto (-60), 3) := by decide +kernel
theorem dX8_lost_136 : decode cX8_lost 136 = .ok (.lload 5, 2) := by decide +kernel
theorem dX8_lost_138 : decode cX8_lost 138 = .ok (.iload_n 2, 1) := by decide +kernel
theorem dX8_lost_139 : decode cX8_lost 139 = .ok (.i2l, 1) := by decide +kernel
theorem dX8_lost_140 : decode cX8_lost 140 = .ok (.iload 4, 2) := by decide +kernel
theorem dX8_lost_142 : decode cX8_lost 142 = .ok (.invokestatic 327, 3) := by decide +kernel
theorem dX8_lost_145 : decode cX8_lost 145 = .ok (.iload_n 3, 1) := by decide +kernel
theorem dX8_lost_146 : decode cX8_lost 146 = .ok (.invokestatic 331, 3) := by decide +kernel
theorem dX8_lost_149 : decode cX8_lost 149 = .ok (.lreturn, 1) := by decide +kernel
theorem dX8_mean_0 : decode cX8_mean 0 = .ok (.iload_n 1, 1) := by decide +kernel
theorem dX8_mean_1 : decode cX8_mean 1 = .ok (.iconst 2, 1) := by decide +kernel
theorem dX8_mean_2 : decode cX8_mean 2 = .ok (.invokestatic 171, 3) := by decide +kernel
theorem dX8_mean_5 : decode cX8_mean 5 = .ok (.ifCond .eq 10, 3) := by decide +kernel
theorem dX8_mean_8 : decode cX8_mean 8 = .ok (.aload_n 0, 1) := by decide +kernel
theorem dX8_mean_9 : decode cX8_mean 9 = .ok (.bipush (-2), 2) := by decide +kernel
theorem dX8_mean_11 : decode cX8_mean 11 = .ok (.invokevirtual 318, 3) := by decide +kernel
theorem dX8_mean_14 : decode cX8_mean 14 = .ok (.lreturn, 1) := by decide +kernel
theorem dX8_mean_15 : decode cX8_mean 15 = .ok (.aload_n 0, 1) := by decide +kernel
theorem dX8_mean_16 : decode cX8_mean 16 = .ok (.getfield 39, 3) := by decide +kernel
theorem dX8_mean_19 : decode cX8_mean 19 = .ok (.aload_n 0, 1) := by decide +kernel
theorem dX8_mean_20 : decode cX8_mean 20 = .ok (.getfield 10, 3) := by decide +kernel
theorem dX8_mean_23 : decode cX8_mean 23 = .ok (.iconst 0, 1) := by decide +kernel
theorem dX8_mean_24 : decode cX8_mean 24 = .ok (.invokevirtual 229, 3) := by decide +kernel
theorem dX8_mean_27 : decode cX8_mean 27 = .ok (.pop, 1) := by decide +kernel
theorem dX8_mean_28 : decode cX8_mean 28 = .ok (.aload_n 0, 1) := by decide +kernel
theorem dX8_mean_29 : decode cX8_mean 29 = .ok (.getfield 39, 3) := by decide +kernel
theorem dX8_mean_32 : decode cX8_mean 32 = .ok (.invokevirtual 335, 3) := by decide +kernel
theorem dX8_mean_35 : decode cX8_mean 35 = .ok (.i2l, 1) := by decide +kernel
theorem dX8_mean_36 : decode cX8_mean 36 = .ok (.aload_n 0, 1) := by decide +kernel
theorem dX8_mean_37 : decode cX8_mean 37 = .ok (.getfield 39, 3) := by decide +kernel
theorem dX8_mean_40 : decode cX8_mean 40 = .ok (.getfield 338, 3) := by decide +kernel
theorem dX8_mean_43 : decode cX8_mean 43 = .ok (.i2l, 1) := by decide +kernel
theorem dX8_mean_44 : decode cX8_mean 44 = .ok (.iload_n 1, 1) := by decide +kernel
theorem dX8_mean_45 : decode cX8_mean 45 = .ok (.invokestatic 331, 3) := by decide +kernel
theorem dX8_mean_48 : decode cX8_mean 48 = .ok (.lreturn, 1) := by decide +kernel
theorem dX8_whatIs_0 : decode cX8_whatIs 0 = .ok (.iload_n 1, 1) := by decide +kernel
theorem dX8_whatIs_1 : decode cX8_whatIs 1 = .ok (.iconst 2, 1) := by decide +kernel
theorem dX8_whatIs_2 : decode cX8_whatIs 2 = .ok (.invokestatic 171, 3) := by decide +kernel
theorem dX8_whatIs_5 : decode cX8_whatIs 5 = .ok (.ifCond .eq 10, 3) := by decide +kernel
theorem dX8_whatIs_8 : decode cX8_whatIs 8 = .ok (.aload_n 0, 1) := by decide +kernel
theorem dX8_whatIs_9 : decode cX8_whatIs 9 = .ok (.bipush (-2), 2) := by decide +kernel
theorem dX8_whatIs_11 : decode cX8_whatIs 11 = .ok (.invokevirtual 50, 3) := by decide +kernel
theorem dX8_whatIs_14 : decode cX8_whatIs 14 = .ok (.ireturn, 1) := by decide +kernel
theorem dX8_whatIs_15 : decode cX8_whatIs 15 = .ok (.aload_n 0, 1) := by decide +kernel
theorem dX8_whatIs_16 : decode cX8_whatIs 16 = .ok (.getfield 16, 3) := by decide +kernel
theorem dX8_whatIs_19 : decode cX8_whatIs 19 = .ok (.aload_n 0, 1) := by decide +kernel
theorem dX8_whatIs_20 : decode cX8_whatIs 20 = .ok (.getfield 10, 3) := by decide +kernel
theorem dX8_whatIs_23 : decode cX8_whatIs 23 = .ok (.invokevirtual 65, 3) := by decide +kernel
theorem dX8_whatIs_26 : decode cX8_whatIs 26 = .ok (.iconst 0, 1) := by decide +kernel
theorem dX8_whatIs_27 : decode cX8_whatIs 27 = .ok (.istore_n 2, 1) := by decide +kernel
theorem dX8_whatIs_28 : decode cX8_whatIs 28 = .ok (.iload_n 1, 1) := by decide +kernel
theorem dX8_whatIs_29 : decode cX8_whatIs 29 = .ok (.ifCond .ne 8, 3) := by decide +kernel
theorem dX8_whatIs_32 : decode cX8_whatIs 32 = .ok (.bipush 6, 2) := by decide +kernel
theorem dX8_whatIs_34 : decode cX8_whatIs 34 = .ok (.goto 5, 3) := by decide +kernel
theorem dX8_whatIs_37 : decode cX8_whatIs 37 = .ok (.bipush 10, 2) := by decide +kernel
theorem dX8_whatIs_39 : decode cX8_whatIs 39 = .ok (.istore_n 3, 1) := by decide +kernel
theorem dX8_whatIs_40 : decode cX8_whatIs 40 = .ok (.iconst 0, 1) := by decide +kernel
theorem dX8_whatIs_41 : decode cX8_whatIs 41 = .ok (.istore 4, 2) := by decide +kernel
theorem dX8_whatIs_43 : decode cX8_whatIs 43 = .ok (.iload 4, 2) := by decide +kernel
theorem dX8_whatIs_45 : decode cX8_whatIs 45 = .ok (.iload_n 3, 1) := by decide +kernel
theorem dX8_whatIs_46 : decode cX8_whatIs 46 = .ok (.if_icmp .ge 48, 3) := by decide +kernel
theorem dX8_whatIs_49 : decode cX8_whatIs 49 = .ok (.iload_n 1, 1) := by decide +kernel
theorem dX8_whatIs_50 : decode cX8_whatIs 50 = .ok (.ifCond .ne 15, 3) := by decide +kernel
theorem dX8_whatIs_53 : decode cX8_whatIs 53 = .ok (.aload_n 0, 1) := by decide +kernel
theorem dX8_whatIs_54 : decode cX8_whatIs 54 = .ok (.getfield 16, 3) := by decide +kernel
theorem dX8_whatIs_57 : decode cX8_whatIs 57 = .ok (.iload 4, 2) := by decide +kernel
theorem dX8_whatIs_59 : decode cX8_whatIs 59 = .ok (.putfield 178, 3) := by decide +kernel
theorem dX8_whatIs_62 : decode cX8_whatIs 62 = .ok (.goto 12, 3) := by decide +kernel
theorem dX8_whatIs_65 : decode cX8_whatIs 65 = .ok (.aload_n 0, 1) := by decide +kernel
theorem dX8_whatIs_66 : decode cX8_whatIs 66 = .ok (.getfield 16, 3) := by decide +kernel
theorem dX8_whatIs_69 : decode cX8_whatIs 69 = .ok (.iload 4, 2) := by decide +kernel
theorem dX8_whatIs_71 : decode cX8_whatIs 71 = .ok (.putfield 181, 3) := by decide +kernel
theorem dX8_whatIs_74 : decode cX8_whatIs 74 = .ok (.aload_n 0, 1) := by decide +kernel
theorem dX8_whatIs_75 : decode cX8_whatIs 75 = .ok (.invokevirtual 339, 3) := by decide +kernel
theorem dX8_whatIs_78 : decode cX8_whatIs 78 = .ok (.ifCond .eq 10, 3) := by decide +kernel
theorem dX8_whatIs_81 : decode cX8_whatIs 81 = .ok (.iload_n 2, 1) := by decide +kernel
theorem dX8_whatIs_82 : decode cX8_whatIs 82 = .ok (.iconst 1, 1) := by decide +kernel
theorem dX8_whatIs_83 : decode cX8_whatIs 83 = .ok (.iload 4, 2) := by decide +kernel
theorem dX8_whatIs_85 : decode cX8_whatIs 85 = .ok (.ishl, 1) := by decide +kernel
theorem dX8_whatIs_86 : decode cX8_whatIs 86 = .ok (.ior, 1) := by decide +kernel
theorem dX8_whatIs_87 : decode cX8_whatIs 87 = .ok (.istore_n 2, 1) := by decide +kernel
theorem dX8_whatIs_88 : decode cX8_whatIs 88 = .ok (.iinc 4 1, 3) := by decide +kernel
theorem dX8_whatIs_91 : decode cX8_whatIs 91 = .ok (.goto (-48), 3) := by decide +kernel
theorem dX8_whatIs_94 : decode cX8_whatIs 94 = .ok (.iload_n 2, 1) := by decide +kernel
theorem dX8_whatIs_95 : decode cX8_whatIs 95 = .ok (.ireturn, 1) := by decide +kernel
theorem dX8_row_0 : decode cX8_row 0 = .ok (.iload_n 1, 1) := by decide +kernel
theorem dX8_row_1 : decode cX8_row 1 = .ok (.ifCond .ge 10, 3) := by decide +kernel
theorem dX8_row_4 : decode cX8_row 4 = .ok (.aload_n 0, 1) := by decide +kernel
theorem dX8_row_5 : decode cX8_row 5 = .ok (.bipush (-4), 2) := by decide +kernel
theorem dX8_row_7 : decode cX8_row 7 = .ok (.invokevirtual 50, 3) := by decide +kernel
theorem dX8_row_10 : decode cX8_row 10 = .ok (.ireturn, 1) := by decide +kernel
theorem dX8_row_11 : decode cX8_row 11 = .ok (.iload_n 1, 1) := by decide +kernel
theorem dX8_row_12 : decode cX8_row 12 = .ok (.bipush 99, 2) := by decide +kernel
theorem dX8_row_14 : decode cX8_row 14 = .ok (.if_icmp .gt 15, 3) := by decide +kernel
theorem dX8_row_17 : decode cX8_row 17 = .ok (.aload_n 0, 1) := by decide +kernel
theorem dX8_row_18 : decode cX8_row 18 = .ok (.getfield 342, 3) := by decide +kernel
theorem dX8_row_21 : decode cX8_row 21 = .ok (.aload_n 0, 1) := by decide +kernel
theorem dX8_row_22 : decode cX8_row 22 = .ok (.getfield 43, 3) := by decide +kernel
theorem dX8_row_25 : decode cX8_row 25 = .ok (.arraylength, 1) := by decide +kernel
theorem dX8_row_26 : decode cX8_row 26 = .ok (.if_icmp .lt 10, 3) := by decide +kernel
theorem dX8_row_29 : decode cX8_row 29 = .ok (.aload_n 0, 1) := by decide +kernel
theorem dX8_row_30 : decode cX8_row 30 = .ok (.bipush (-6), 2) := by decide +kernel
theorem dX8_row_32 : decode cX8_row 32 = .ok (.invokevirtual 50, 3) := by decide +kernel
theorem dX8_row_35 : decode cX8_row 35 = .ok (.ireturn, 1) := by decide +kernel
theorem dX8_row_36 : decode cX8_row 36 = .ok (.aload_n 0, 1) := by decide +kernel
theorem dX8_row_37 : decode cX8_row 37 = .ok (.getfield 43, 3) := by decide +kernel
theorem dX8_row_40 : decode cX8_row 40 = .ok (.aload_n 0, 1) := by decide +kernel
theorem dX8_row_41 : decode cX8_row 41 = .ok (.getfield 342, 3) := by decide +kernel
theorem dX8_row_44 : decode cX8_row 44 = .ok (.iload_n 1, 1) := by decide +kernel
theorem dX8_row_45 : decode cX8_row 45 = .ok (.invokestatic 99, 3) := by decide +kernel
theorem dX8_row_48 : decode cX8_row 48 = .ok (.aload_n 0, 1) := by decide +kernel
theorem dX8_row_49 : decode cX8_row 49 = .ok (.dup, 1) := by decide +kernel
theorem dX8_row_50 : decode cX8_row 50 = .ok (.getfield 342, 3) := by decide +kernel
theorem dX8_row_53 : decode cX8_row 53 = .ok (.iconst 1, 1) := by decide +kernel
theorem dX8_row_54 : decode cX8_row 54 = .ok (.iadd, 1) := by decide +kernel
theorem dX8_row_55 : decode cX8_row 55 = .ok (.putfield 342, 3) := by decide +kernel
theorem dX8_row_58 : decode cX8_row 58 = .ok (.aload_n 0, 1) := by decide +kernel
theorem dX8_row_59 : decode cX8_row 59 = .ok (.getfield 342, 3) := by decide +kernel
theorem dX8_row_62 : decode cX8_row 62 = .ok (.ireturn, 1) := by decide +kernel
theorem dX8_judge_0 : decode cX8_judge 0 = .ok (.aload_n 0, 1) := by decide +kernel
theorem dX8_judge_1 : decode cX8_judge 1 = .ok (.getfield 39, 3) := by decide +kernel
theorem dX8_judge_4 : decode cX8_judge 4 = .ok (.aload_n 0, 1) := by decide +kernel
theorem dX8_judge_5 : decode cX8_judge 5 = .ok (.getfield 10, 3) := by decide +kernel
theorem dX8_judge_8 : decode cX8_judge 8 = .ok (.iconst 0, 1) := by decide +kernel
theorem dX8_judge_9 : decode cX8_judge 9 = .ok (.invokevirtual 229, 3) := by decide +kernel
theorem dX8_judge_12 : decode cX8_judge 12 = .ok (.pop, 1) := by decide +kernel
theorem dX8_judge_13 : decode cX8_judge 13 = .ok (.aload_n 0, 1) := by decide +kernel
theorem dX8_judge_14 : decode cX8_judge 14 = .ok (.invokevirtual 345, 3) := by decide +kernel
theorem dX8_judge_17 : decode cX8_judge 17 = .ok (.istore_n 1, 1) := by decide +kernel
theorem dX8_judge_18 : decode cX8_judge 18 = .ok (.aload_n 0, 1) := by decide +kernel
theorem dX8_judge_19 : decode cX8_judge 19 = .ok (.iconst 0, 1) := by decide +kernel
theorem dX8_judge_20 : decode cX8_judge 20 = .ok (.putfield 342, 3) := by decide +kernel
theorem dX8_judge_23 : decode cX8_judge 23 = .ok (.iload_n 1, 1) := by decide +kernel
theorem dX8_judge_24 : decode cX8_judge 24 = .ok (.ireturn, 1) := by decide +kernel
theorem dX8_clear_0 : decode cX8_clear 0 = .ok (.aload_n 0, 1) := by decide +kernel
theorem dX8_clear_1 : decode cX8_clear 1 = .ok (.getfield 342, 3) := by decide +kernel
theorem dX8_clear_4 : decode cX8_clear 4 = .ok (.istore_n 1, 1) := by decide +kernel
theorem dX8_clear_5 : decode cX8_clear 5 = .ok (.aload_n 0, 1) := by decide +kernel
theorem dX8_clear_6 : decode cX8_clear 6 = .ok (.iconst 0, 1) := by decide +kernel
theorem dX8_clear_7 : decode cX8_clear 7 = .ok (.putfield 342, 3) := by decide +kernel
theorem dX8_clear_10 : decode cX8_clear 10 = .ok (.iload_n 1, 1) := by decide +kernel
theorem dX8_clear_11 : decode cX8_clear 11 = .ok (.ireturn, 1) := by decide +kernel
theorem dX8_lots_0 : decode cX8_lots 0 = .ok (.iload_n 1, 1) := by decide +kernel
theorem dX8_lots_1 : decode cX8_lots 1 = .ok (.iconst 1, 1) := by decide +kernel
theorem dX8_lots_2 : decode cX8_lots 2 = .ok (.bipush 20, 2) := by decide +kernel
theorem dX8_lots_4 : decode cX8_lots 4 = .ok (.invokestatic 85, 3) := by decide +kernel
theorem dX8_lots_7 : decode cX8_lots 7 = .ok (.istore 4, 2) := by decide +kernel
theorem dX8_lots_9 : decode cX8_lots 9 = .ok (.iload 4, 2) := by decide +kernel
theorem dX8_lots_11 : decode cX8_lots 11 = .ok (.ifCond .eq 10, 3) := by decide +kernel
theorem dX8_lots_14 : decode cX8_lots 14 = .ok (.aload_n 0, 1) := by decide +kernel
theorem dX8_lots_15 : decode cX8_lots 15 = .ok (.iload 4, 2) := by decide +kernel
theorem dX8_lots_17 : decode cX8_lots 17 = .ok (.invokevirtual 50, 3) := by decide +kernel
theorem dX8_lots_20 : decode cX8_lots 20 = .ok (.ireturn, 1) := by decide +kernel
theorem dX8_lots_21 : decode cX8_lots 21 = .ok (.iload_n 3, 1) := by decide +kernel
theorem dX8_lots_22 : decode cX8_lots 22 = .ok (.iconst 2, 1) := by decide +kernel
theorem dX8_lots_23 : decode cX8_lots 23 = .ok (.invokestatic 171, 3) := by decide +kernel
theorem dX8_lots_26 : decode cX8_lots 26 = .ok (.ifCond .eq 10, 3) := by decide +kernel
theorem dX8_lots_29 : decode cX8_lots 29 = .ok (.aload_n 0, 1) := by decide +kernel
theorem dX8_lots_30 : decode cX8_lots 30 = .ok (.bipush (-2), 2) := by decide +kernel
theorem dX8_lots_32 : decode cX8_lots 32 = .ok (.invokevirtual 50, 3) := by decide +kernel
theorem dX8_lots_35 : decode cX8_lots 35 = .ok (.ireturn, 1) := by decide +kernel
theorem dX8_lots_36 : decode cX8_lots 36 = .ok (.aload_n 0, 1) := by decide +kernel
theorem dX8_lots_37 : decode cX8_lots 37 = .ok (.invokevirtual 304, 3) := by decide +kernel
theorem dX8_lots_40 : decode cX8_lots 40 = .ok (.aload_n 0, 1) := by decide +kernel
theorem dX8_lots_41 : decode cX8_lots 41 = .ok (.iload_n 2, 1) := by decide +kernel
theorem dX8_lots_42 : decode cX8_lots 42 = .ok (.putfield 348, 3) := by decide +kernel
theorem dX8_lots_45 : decode cX8_lots 45 = .ok (.iconst 0, 1) := by decide +kernel
theorem dX8_lots_46 : decode cX8_lots 46 = .ok (.istore 5, 2) := by decide +kernel
theorem dX8_lots_48 : decode cX8_lots 48 = .ok (.iconst 0, 1) := by decide +kernel
theorem dX8_lots_49 : decode cX8_lots 49 = .ok (.istore 6, 2) := by decide +kernel
theorem dX8_lots_51 : decode cX8_lots 51 = .ok (.iconst 0, 1) := by decide +kernel
theorem dX8_lots_52 : decode cX8_lots 52 = .ok (.istore 7, 2) := by decide +kernel
theorem dX8_lots_54 : decode cX8_lots 54 = .ok (.iload 7, 2) := by decide +kernel
theorem dX8_lots_56 : decode cX8_lots 56 = .ok (.iload_n 1, 1) := by decide +kernel
theorem dX8_lots_57 : decode cX8_lots 57 = .ok (.if_icmp .ge 57, 3) := by decide +kernel
theorem dX8_lots_60 : decode cX8_lots 60 = .ok (.bipush 10, 2) := by decide +kernel
theorem dX8_lots_62 : decode cX8_lots 62 = .ok (.aload_n 0, 1) := by decide +kernel
theorem dX8_lots_63 : decode cX8_lots 63 = .ok (.invokevirtual 351, 3) := by decide +kernel
theorem dX8_lots_66 : decode cX8_lots 66 = .ok (.iadd, 1) := by decide +kernel
theorem dX8_lots_67 : decode cX8_lots 67 = .ok (.istore 8, 2) := by decide +kernel
theorem dX8_lots_69 : decode cX8_lots 69 = .ok (.aload_n 0, 1) := by decide +kernel
theorem dX8_lots_70 : decode cX8_lots 70 = .ok (.getfield 16, 3) := by decide +kernel
theorem dX8_lots_73 : decode cX8_lots 73 = .ok (.aload_n 0, 1) := by decide +kernel
theorem dX8_lots_74 : decode cX8_lots 74 = .ok (.invokevirtual 351, 3) := by decide +kernel
theorem dX8_lots_77 : decode cX8_lots 77 = .ok (.putfield 162, 3) := by decide +kernel
theorem dX8_lots_80 : decode cX8_lots 80 = .ok (.aload_n 0, 1) := by decide +kernel
theorem dX8_lots_81 : decode cX8_lots 81 = .ok (.iload 8, 2) := by decide +kernel
theorem dX8_lots_83 : decode cX8_lots 83 = .ok (.invokevirtual 307, 3) := by decide +kernel
theorem dX8_lots_86 : decode cX8_lots 86 = .ok (.istore 9, 2) := by decide +kernel
theorem dX8_lots_88 : decode cX8_lots 88 = .ok (.iload 9, 2) := by decide +kernel
theorem dX8_lots_90 : decode cX8_lots 90 = .ok (.bipush (-9), 2) := by decide +kernel
theorem dX8_lots_92 : decode cX8_lots 92 = .ok (.if_icmp .ne 9, 3) := by decide +kernel
theorem dX8_lots_95 : decode cX8_lots 95 = .ok (.iinc 6 1, 3) := by decide +kernel
theorem dX8_lots_98 : decode cX8_lots 98 = .ok (.goto 10, 3) := by decide +kernel
theorem dX8_lots_101 : decode cX8_lots 101 = .ok (.iload 5, 2) := by decide +kernel
theorem dX8_lots_103 : decode cX8_lots 103 = .ok (.iload 9, 2) := by decide +kernel
theorem dX8_lots_105 : decode cX8_lots 105 = .ok (.iadd, 1) := by decide +kernel
theorem dX8_lots_106 : decode cX8_lots 106 = .ok (.istore 5, 2) := by decide +kernel
theorem dX8_lots_108 : decode cX8_lots 108 = .ok (.iinc 7 1, 3) := by decide +kernel
theorem dX8_lots_111 : decode cX8_lots 111 = .ok (.goto (-57), 3) := by decide +kernel
theorem dX8_lots_114 : decode cX8_lots 114 = .ok (.iload_n 3, 1) := by decide +kernel
theorem dX8_lots_115 : decode cX8_lots 115 = .ok (.ifCond .ne 8, 3) := by decide +kernel
theorem dX8_lots_118 : decode cX8_lots 118 = .ok (.iload 5, 2) := by decide +kernel
theorem dX8_lots_120 : decode cX8_lots 120 = .ok (.goto 5, 3) := by decide +kernel
theorem dX8_lots_123 : decode cX8_lots 123 = .ok (.iload 6, 2) := by decide +kernel
theorem dX8_lots_125 : decode cX8_lots 125 = .ok (.ireturn, 1) := by decide +kernel
theorem dX8_image_0 : decode cX8_image 0 = .ok (.aload_n 0, 1) := by decide +kernel
theorem dX8_image_1 : decode cX8_image 1 = .ok (.getfield 19, 3) := by decide +kernel
theorem dX8_image_4 : decode cX8_image 4 = .ok (.aload_n 0, 1) := by decide +kernel
theorem dX8_image_5 : decode cX8_image 5 = .ok (.getfield 10, 3) := by decide +kernel
theorem dX8_image_8 : decode cX8_image 8 = .ok (.invokevirtual 65, 3) := by decide +kernel
theorem dX8_image_11 : decode cX8_image 11 = .ok (.aload_n 0, 1) := by decide +kernel
theorem dX8_image_12 : decode cX8_image 12 = .ok (.iconst 1, 1) := by decide +kernel
theorem dX8_image_13 : decode cX8_image 13 = .ok (.putfield 354, 3) := by decide +kernel
theorem dX8_image_16 : decode cX8_image 16 = .ok (.aload_n 0, 1) := by decide +kernel
theorem dX8_image_17 : decode cX8_image 17 = .ok (.getfield 10, 3) := by decide +kernel
theorem dX8_image_20 : decode cX8_image 20 = .ok (.getfield 106, 3) := by decide +kernel
theorem dX8_image_23 : decode cX8_image 23 = .ok (.getfield 310, 3) := by decide +kernel
theorem dX8_image_26 : decode cX8_image 26 = .ok (.ireturn, 1) := by decide +kernel
theorem dX8_on_0 : decode cX8_on 0 = .ok (.aload_n 0, 1) := by decide +kernel
theorem dX8_on_1 : decode cX8_on 1 = .ok (.getfield 354, 3) := by decide +kernel
theorem dX8_on_4 : decode cX8_on 4 = .ok (.ifCond .ne 10, 3) := by decide +kernel
theorem dX8_on_7 : decode cX8_on 7 = .ok (.aload_n 0, 1) := by decide +kernel
theorem dX8_on_8 : decode cX8_on 8 = .ok (.bipush (-3), 2) := by decide +kernel
theorem dX8_on_10 : decode cX8_on 10 = .ok (.invokevirtual 50, 3) := by decide +kernel
theorem dX8_on_13 : decode cX8_on 13 = .ok (.ireturn, 1) := by decide +kernel
theorem dX8_on_14 : decode cX8_on 14 = .ok (.aload_n 0, 1) := by decide +kernel
theorem dX8_on_15 : decode cX8_on 15 = .ok (.getfield 10, 3) := by decide +kernel
theorem dX8_on_18 : decode cX8_on 18 = .ok (.aload_n 0, 1) := by decide +kernel
theorem dX8_on_19 : decode cX8_on 19 = .ok (.getfield 19, 3) := by decide +kernel
theorem dX8_on_22 : decode cX8_on 22 = .ok (.invokevirtual 65, 3) := by decide +kernel
theorem dX8_on_25 : decode cX8_on 25 = .ok (.aload_n 0, 1) := by decide +kernel
theorem dX8_on_26 : decode cX8_on 26 = .ok (.getfield 25, 3) := by decide +kernel
theorem dX8_on_29 : decode cX8_on 29 = .ok (.invokevirtual 76, 3) := by decide +kernel
theorem dX8_on_32 : decode cX8_on 32 = .ok (.aload_n 0, 1) := by decide +kernel
theorem dX8_on_33 : decode cX8_on 33 = .ok (.getfield 10, 3) := by decide +kernel
theorem dX8_on_36 : decode cX8_on 36 = .ok (.getfield 106, 3) := by decide +kernel
theorem dX8_on_39 : decode cX8_on 39 = .ok (.getfield 310, 3) := by decide +kernel
theorem dX8_on_42 : decode cX8_on 42 = .ok (.ireturn, 1) := by decide +kernel
theorem dX8_count_0 : decode cX8_count 0 = .ok (.iload_n 1, 1) := by decide +kernel
theorem dX8_count_1 : decode cX8_count 1 = .ok (.bipush 11, 2) := by decide +kernel
theorem dX8_count_3 : decode cX8_count 3 = .ok (.if_icmp .lt 21, 3) := by decide +kernel
theorem dX8_count_6 : decode cX8_count 6 = .ok (.iload_n 1, 1) := by decide +kernel
theorem dX8_count_7 : decode cX8_count 7 = .ok (.bipush 16, 2) := by decide +kernel
theorem dX8_count_9 : decode cX8_count 9 = .ok (.if_icmp .gt 15, 3) := by decide +kernel
theorem dX8_count_12 : decode cX8_count 12 = .ok (.aload_n 0, 1) := by decide +kernel
theorem dX8_count_13 : decode cX8_count 13 = .ok (.getfield 47, 3) := by decide +kernel
theorem dX8_count_16 : decode cX8_count 16 = .ok (.iload_n 1, 1) := by decide +kernel
theorem dX8_count_17 : decode cX8_count 17 = .ok (.bipush 10, 2) := by decide +kernel
theorem dX8_count_19 : decode cX8_count 19 = .ok (.isub, 1) := by decide +kernel
theorem dX8_count_20 : decode cX8_count 20 = .ok (.invokestatic 95, 3) := by decide +kernel
theorem dX8_count_23 : decode cX8_count 23 = .ok (.ireturn, 1) := by decide +kernel
theorem dX8_count_24 : decode cX8_count 24 = .ok (.iload_n 1, 1) := by decide +kernel
theorem dX8_count_25 : decode cX8_count 25 = .ok (.tableswitch 117 0 7 #[47, 58, 69, 80, 88, 96, 104, 109], 47) := by decide +kernel
theorem dX8_count_72 : decode cX8_count 72 = .ok (.aload_n 0, 1) := by decide +kernel
theorem dX8_count_73 : decode cX8_count 73 = .ok (.getfield 10, 3) := by decide +kernel
theorem dX8_count_76 : decode cX8_count 76 = .ok (.getfield 106, 3) := by decide +kernel
theorem dX8_count_79 : decode cX8_count 79 = .ok (.getfield 310, 3) := by decide +kernel
theorem dX8_count_82 : decode cX8_count 82 = .ok (.ireturn, 1) := by decide +kernel
theorem dX8_count_83 : decode cX8_count 83 = .ok (.aload_n 0, 1) := by decide +kernel
theorem dX8_count_84 : decode cX8_count 84 = .ok (.getfield 10, 3) := by decide +kernel
theorem dX8_count_87 : decode cX8_count 87 = .ok (.getfield 130, 3) := by decide +kernel
theorem dX8_count_90 : decode cX8_count 90 = .ok (.getfield 358, 3) := by decide +kernel
theorem dX8_count_93 : decode cX8_count 93 = .ok (.ireturn, 1) := by decide +kernel
theorem dX8_count_94 : decode cX8_count 94 = .ok (.aload_n 0, 1) := by decide +kernel
theorem dX8_count_95 : decode cX8_count 95 = .ok (.getfield 10, 3) := by decide +kernel
theorem dX8_count_98 : decode cX8_count 98 = .ok (.getfield 106, 3) := by decide +kernel
theorem dX8_count_101 : decode cX8_count 101 = .ok (.invokevirtual 359, 3) := by decide +kernel
theorem dX8_count_104 : decode cX8_count 104 = .ok (.ireturn, 1) := by decide +kernel
theorem dX8_count_105 : decode cX8_count 105 = .ok (.aload_n 0, 1) := by decide +kernel
theorem dX8_count_106 : decode cX8_count 106 = .ok (.getfield 10, 3) := by decide +kernel
theorem dX8_count_109 : decode cX8_count 109 = .ok (.getfield 143, 3) := by decide +kernel
theorem dX8_count_112 : decode cX8_count 112 = .ok (.ireturn, 1) := by decide +kernel
theorem dX8_count_113 : decode cX8_count 113 = .ok (.aload_n 0, 1) := by decide +kernel
theorem dX8_count_114 : decode cX8_count 114 = .ok (.getfield 10, 3) := by decide +kernel
theorem dX8_count_117 : decode cX8_count 117 = .ok (.getfield 178, 3) := by decide +kernel
theorem dX8_count_120 : decode cX8_count 120 = .ok (.ireturn, 1) := by decide +kernel
theorem dX8_count_121 : decode cX8_count 121 = .ok (.aload_n 0, 1) := by decide +kernel
theorem dX8_count_122 : decode cX8_count 122 = .ok (.getfield 25, 3) := by decide +kernel
theorem dX8_count_125 : decode cX8_count 125 = .ok (.getfield 184, 3) := by decide +kernel
theorem dX8_count_128 : decode cX8_count 128 = .ok (.ireturn, 1) := by decide +kernel
theorem dX8_count_129 : decode cX8_count 129 = .ok (.aload_n 0, 1) := by decide +kernel
theorem dX8_count_130 : decode cX8_count 130 = .ok (.getfield 342, 3) := by decide +kernel
theorem dX8_count_133 : decode cX8_count 133 = .ok (.ireturn, 1) := by decide +kernel
theorem dX8_count_134 : decode cX8_count 134 = .ok (.aload_n 0, 1) := by decide +kernel
theorem dX8_count_135 : decode cX8_count 135 = .ok (.getfield 32, 3) := by decide +kernel
theorem dX8_count_138 : decode cX8_count 138 = .ok (.getfield 362, 3) := by decide +kernel
theorem dX8_count_141 : decode cX8_count 141 = .ok (.ireturn, 1) := by decide +kernel
theorem dX8_count_142 : decode cX8_count 142 = .ok (.bipush (-9), 2) := by decide +kernel
theorem dX8_count_144 : decode cX8_count 144 = .ok (.ireturn, 1) := by decide +kernel
theorem dX8_refuse_0 : decode cX8_refuse 0 = .ok (.aload_n 0, 1) := by decide +kernel
theorem dX8_refuse_1 : decode cX8_refuse 1 = .ok (.getfield 47, 3) := by decide +kernel
theorem dX8_refuse_4 : decode cX8_refuse 4 = .ok (.iload_n 1, 1) := by decide +kernel
theorem dX8_refuse_5 : decode cX8_refuse 5 = .ok (.ineg, 1) := by decide +kernel
theorem dX8_refuse_6 : decode cX8_refuse 6 = .ok (.aload_n 0, 1) := by decide +kernel
theorem dX8_refuse_7 : decode cX8_refuse 7 = .ok (.getfield 47, 3) := by decide +kernel
theorem dX8_refuse_10 : decode cX8_refuse 10 = .ok (.iload_n 1, 1) := by decide +kernel
theorem dX8_refuse_11 : decode cX8_refuse 11 = .ok (.ineg, 1) := by decide +kernel
theorem dX8_refuse_12 : decode cX8_refuse 12 = .ok (.invokestatic 95, 3) := by decide +kernel
theorem dX8_refuse_15 : decode cX8_refuse 15 = .ok (.iconst 1, 1) := by decide +kernel
theorem dX8_refuse_16 : decode cX8_refuse 16 = .ok (.iadd, 1) := by decide +kernel
theorem dX8_refuse_17 : decode cX8_refuse 17 = .ok (.invokestatic 99, 3) := by decide +kernel
theorem dX8_refuse_20 : decode cX8_refuse 20 = .ok (.iload_n 1, 1) := by decide +kernel
theorem dX8_refuse_21 : decode cX8_refuse 21 = .ok (.ireturn, 1) := by decide +kernel
theorem dX8_refuseLong_0 : decode cX8_refuseLong 0 = .ok (.ldc2_w 363, 3) := by decide +kernel
theorem dX8_refuseLong_3 : decode cX8_refuseLong 3 = .ok (.aload_n 0, 1) := by decide +kernel
theorem dX8_refuseLong_4 : decode cX8_refuseLong 4 = .ok (.iload_n 1, 1) := by decide +kernel
theorem dX8_refuseLong_5 : decode cX8_refuseLong 5 = .ok (.invokevirtual 50, 3) := by decide +kernel
theorem dX8_refuseLong_8 : decode cX8_refuseLong 8 = .ok (.i2l, 1) := by decide +kernel
theorem dX8_refuseLong_9 : decode cX8_refuseLong 9 = .ok (.lsub, 1) := by decide +kernel
theorem dX8_refuseLong_10 : decode cX8_refuseLong 10 = .ok (.lreturn, 1) := by decide +kernel
theorem dX8_showLine_0 : decode cX8_showLine 0 = .ok (.aload_n 0, 1) := by decide +kernel
theorem dX8_showLine_1 : decode cX8_showLine 1 = .ok (.getfield 39, 3) := by decide +kernel
theorem dX8_showLine_4 : decode cX8_showLine 4 = .ok (.getfield 233, 3) := by decide +kernel
theorem dX8_showLine_7 : decode cX8_showLine 7 = .ok (.aload_n 0, 1) := by decide +kernel
theorem dX8_showLine_8 : decode cX8_showLine 8 = .ok (.getfield 10, 3) := by decide +kernel
theorem dX8_showLine_11 : decode cX8_showLine 11 = .ok (.iconst 0, 1) := by decide +kernel
theorem dX8_showLine_12 : decode cX8_showLine 12 = .ok (.invokevirtual 297, 3) := by decide +kernel
theorem dX8_showLine_15 : decode cX8_showLine 15 = .ok (.aload_n 0, 1) := by decide +kernel
theorem dX8_showLine_16 : decode cX8_showLine 16 = .ok (.getfield 39, 3) := by decide +kernel
theorem dX8_showLine_19 : decode cX8_showLine 19 = .ok (.aload_n 0, 1) := by decide +kernel
theorem dX8_showLine_20 : decode cX8_showLine 20 = .ok (.getfield 10, 3) := by decide +kernel
theorem dX8_showLine_23 : decode cX8_showLine 23 = .ok (.invokevirtual 315, 3) := by decide +kernel
theorem dX8_showLine_26 : decode cX8_showLine 26 = .ok (.pop, 1) := by decide +kernel
theorem dX8_showLine_27 : decode cX8_showLine 27 = .ok (.iload_n 1, 1) := by decide +kernel
theorem dX8_showLine_28 : decode cX8_showLine 28 = .ok (.ifCond .lt 14, 3) := by decide +kernel
theorem dX8_showLine_31 : decode cX8_showLine 31 = .ok (.iload_n 1, 1) := by decide +kernel
theorem dX8_showLine_32 : decode cX8_showLine 32 = .ok (.aload_n 0, 1) := by decide +kernel
theorem dX8_showLine_33 : decode cX8_showLine 33 = .ok (.getfield 39, 3) := by decide +kernel
theorem dX8_showLine_36 : decode cX8_showLine 36 = .ok (.getfield 338, 3) := by decide +kernel
theorem dX8_showLine_39 : decode cX8_showLine 39 = .ok (.if_icmp .lt 5, 3) := by decide +kernel
theorem dX8_showLine_42 : decode cX8_showLine 42 = .ok (.iconst 0, 1) := by decide +kernel
theorem dX8_showLine_43 : decode cX8_showLine 43 = .ok (.ireturn, 1) := by decide +kernel
theorem dX8_showLine_44 : decode cX8_showLine 44 = .ok (.aload_n 0, 1) := by decide +kernel
theorem dX8_showLine_45 : decode cX8_showLine 45 = .ok (.getfield 39, 3) := by decide +kernel
theorem dX8_showLine_48 : decode cX8_showLine 48 = .ok (.iload_n 1, 1) := by decide +kernel
theorem dX8_showLine_49 : decode cX8_showLine 49 = .ok (.invokevirtual 365, 3) := by decide +kernel
theorem dX8_showLine_52 : decode cX8_showLine 52 = .ok (.iconst 1, 1) := by decide +kernel
theorem dX8_showLine_53 : decode cX8_showLine 53 = .ok (.ireturn, 1) := by decide +kernel
theorem dX8_beginTrial_0 : decode cX8_beginTrial 0 = .ok (.aload_n 0, 1) := by decide +kernel
theorem dX8_beginTrial_1 : decode cX8_beginTrial 1 = .ok (.getfield 16, 3) := by decide +kernel
theorem dX8_beginTrial_4 : decode cX8_beginTrial 4 = .ok (.aload_n 0, 1) := by decide +kernel
theorem dX8_beginTrial_5 : decode cX8_beginTrial 5 = .ok (.getfield 10, 3) := by decide +kernel
theorem dX8_beginTrial_8 : decode cX8_beginTrial 8 = .ok (.invokevirtual 65, 3) := by decide +kernel
theorem dX8_beginTrial_11 : decode cX8_beginTrial 11 = .ok (.aload_n 0, 1) := by decide +kernel
theorem dX8_beginTrial_12 : decode cX8_beginTrial 12 = .ok (.getfield 39, 3) := by decide +kernel
theorem dX8_beginTrial_15 : decode cX8_beginTrial 15 = .ok (.getfield 233, 3) := by decide +kernel
theorem dX8_beginTrial_18 : decode cX8_beginTrial 18 = .ok (.aload_n 0, 1) := by decide +kernel
theorem dX8_beginTrial_19 : decode cX8_beginTrial 19 = .ok (.getfield 16, 3) := by decide +kernel
theorem dX8_beginTrial_22 : decode cX8_beginTrial 22 = .ok (.iconst 0, 1) := by decide +kernel
theorem dX8_beginTrial_23 : decode cX8_beginTrial 23 = .ok (.invokevirtual 297, 3) := by decide +kernel
theorem dX8_beginTrial_26 : decode cX8_beginTrial 26 = .ok (.return_, 1) := by decide +kernel
theorem dX8_linesWith_0 : decode cX8_linesWith 0 = .ok (.aload_n 0, 1) := by decide +kernel
theorem dX8_linesWith_1 : decode cX8_linesWith 1 = .ok (.getfield 16, 3) := by decide +kernel
theorem dX8_linesWith_4 : decode cX8_linesWith 4 = .ok (.iload_n 1, 1) := by decide +kernel
theorem dX8_linesWith_5 : decode cX8_linesWith 5 = .ok (.putfield 143, 3) := by decide +kernel
theorem dX8_linesWith_8 : decode cX8_linesWith 8 = .ok (.aload_n 0, 1) := by decide +kernel
theorem dX8_linesWith_9 : decode cX8_linesWith 9 = .ok (.getfield 39, 3) := by decide +kernel
theorem dX8_linesWith_12 : decode cX8_linesWith 12 = .ok (.aload_n 0, 1) := by decide +kernel
theorem dX8_linesWith_13 : decode cX8_linesWith 13 = .ok (.getfield 16, 3) := by decide +kernel
theorem dX8_linesWith_16 : decode cX8_linesWith 16 = .ok (.invokevirtual 315, 3) := by decide +kernel
theorem dX8_linesWith_19 : decode cX8_linesWith 19 = .ok (.ireturn, 1) := by decide +kernel
theorem dX8_isAsTold_0 : decode cX8_isAsTold 0 = .ok (.aload_n 0, 1) := by decide +kernel
theorem dX8_isAsTold_1 : decode cX8_isAsTold 1 = .ok (.getfield 39, 3) := by decide +kernel
theorem dX8_isAsTold_4 : decode cX8_isAsTold 4 = .ok (.getfield 233, 3) := by decide +kernel
theorem dX8_isAsTold_7 : decode cX8_isAsTold 7 = .ok (.aload_n 0, 1) := by decide +kernel
theorem dX8_isAsTold_8 : decode cX8_isAsTold 8 = .ok (.getfield 16, 3) := by decide +kernel
theorem dX8_isAsTold_11 : decode cX8_isAsTold 11 = .ok (.iconst 0, 1) := by decide +kernel
theorem dX8_isAsTold_12 : decode cX8_isAsTold 12 = .ok (.invokevirtual 297, 3) := by decide +kernel
theorem dX8_isAsTold_15 : decode cX8_isAsTold 15 = .ok (.iconst 0, 1) := by decide +kernel
theorem dX8_isAsTold_16 : decode cX8_isAsTold 16 = .ok (.istore_n 1, 1) := by decide +kernel
theorem dX8_isAsTold_17 : decode cX8_isAsTold 17 = .ok (.iload_n 1, 1) := by decide +kernel
theorem dX8_isAsTold_18 : decode cX8_isAsTold 18 = .ok (.aload_n 0, 1) := by decide +kernel
theorem dX8_isAsTold_19 : decode cX8_isAsTold 19 = .ok (.getfield 342, 3) := by decide +kernel
theorem dX8_isAsTold_22 : decode cX8_isAsTold 22 = .ok (.if_icmp .ge 44, 3) := by decide +kernel
theorem dX8_isAsTold_25 : decode cX8_isAsTold 25 = .ok (.aload_n 0, 1) := by decide +kernel
theorem dX8_isAsTold_26 : decode cX8_isAsTold 26 = .ok (.bipush 20, 2) := by decide +kernel
theorem dX8_isAsTold_28 : decode cX8_isAsTold 28 = .ok (.iconst 4, 1) := by decide +kernel
theorem dX8_isAsTold_29 : decode cX8_isAsTold 29 = .ok (.iload_n 1, 1) := by decide +kernel
theorem dX8_isAsTold_30 : decode cX8_isAsTold 30 = .ok (.imul, 1) := by decide +kernel
theorem dX8_isAsTold_31 : decode cX8_isAsTold 31 = .ok (.iadd, 1) := by decide +kernel
theorem dX8_isAsTold_32 : decode cX8_isAsTold 32 = .ok (.invokevirtual 307, 3) := by decide +kernel
theorem dX8_isAsTold_35 : decode cX8_isAsTold 35 = .ok (.istore_n 2, 1) := by decide +kernel
theorem dX8_isAsTold_36 : decode cX8_isAsTold 36 = .ok (.aload_n 0, 1) := by decide +kernel
theorem dX8_isAsTold_37 : decode cX8_isAsTold 37 = .ok (.getfield 43, 3) := by decide +kernel
theorem dX8_isAsTold_40 : decode cX8_isAsTold 40 = .ok (.iload_n 1, 1) := by decide +kernel
theorem dX8_isAsTold_41 : decode cX8_isAsTold 41 = .ok (.invokestatic 95, 3) := by decide +kernel
theorem dX8_isAsTold_44 : decode cX8_isAsTold 44 = .ok (.iload_n 2, 1) := by decide +kernel
theorem dX8_isAsTold_45 : decode cX8_isAsTold 45 = .ok (.bipush (-9), 2) := by decide +kernel
theorem dX8_isAsTold_47 : decode cX8_isAsTold 47 = .ok (.if_icmp .ne 7, 3) := by decide +kernel
theorem dX8_isAsTold_50 : decode cX8_isAsTold 50 = .ok (.iconst 0, 1) := by decide +kernel
theorem dX8_isAsTold_51 : decode cX8_isAsTold 51 = .ok (.goto 4, 3) := by decide +kernel
theorem dX8_isAsTold_54 : decode cX8_isAsTold 54 = .ok (.iload_n 2, 1) := by decide +kernel
theorem dX8_isAsTold_55 : decode cX8_isAsTold 55 = .ok (.if_icmp .eq 5, 3) := by decide +kernel
theorem dX8_isAsTold_58 : decode cX8_isAsTold 58 = .ok (.iconst 0, 1) := by decide +kernel
theorem dX8_isAsTold_59 : decode cX8_isAsTold 59 = .ok (.ireturn, 1) := by decide +kernel
theorem dX8_isAsTold_60 : decode cX8_isAsTold 60 = .ok (.iinc 1 1, 3) := by decide +kernel
theorem dX8_isAsTold_63 : decode cX8_isAsTold 63 = .ok (.goto (-46), 3) := by decide +kernel
theorem dX8_isAsTold_66 : decode cX8_isAsTold 66 = .ok (.iconst 1, 1) := by decide +kernel
theorem dX8_isAsTold_67 : decode cX8_isAsTold 67 = .ok (.ireturn, 1) := by decide +kernel
theorem dX8_firstNotSo_0 : decode cX8_firstNotSo 0 = .ok (.iconst 0, 1) := by decide +kernel
theorem dX8_firstNotSo_1 : decode cX8_firstNotSo 1 = .ok (.istore_n 1, 1) := by decide +kernel
theorem dX8_firstNotSo_2 : decode cX8_firstNotSo 2 = .ok (.iload_n 1, 1) := by decide +kernel
theorem dX8_firstNotSo_3 : decode cX8_firstNotSo 3 = .ok (.aload_n 0, 1) := by decide +kernel
theorem dX8_firstNotSo_4 : decode cX8_firstNotSo 4 = .ok (.getfield 342, 3) := by decide +kernel
theorem dX8_firstNotSo_7 : decode cX8_firstNotSo 7 = .ok (.if_icmp .ge 44, 3) := by decide +kernel
theorem dX8_firstNotSo_10 : decode cX8_firstNotSo 10 = .ok (.iload_n 1, 1) := by decide +kernel
theorem dX8_firstNotSo_11 : decode cX8_firstNotSo 11 = .ok (.aload_n 0, 1) := by decide +kernel
theorem dX8_firstNotSo_12 : decode cX8_firstNotSo 12 = .ok (.getfield 39, 3) := by decide +kernel
theorem dX8_firstNotSo_15 : decode cX8_firstNotSo 15 = .ok (.getfield 338, 3) := by decide +kernel
theorem dX8_firstNotSo_18 : decode cX8_firstNotSo 18 = .ok (.if_icmp .ge 25, 3) := by decide +kernel
theorem dX8_firstNotSo_21 : decode cX8_firstNotSo 21 = .ok (.aload_n 0, 1) := by decide +kernel
theorem dX8_firstNotSo_22 : decode cX8_firstNotSo 22 = .ok (.getfield 43, 3) := by decide +kernel
theorem dX8_firstNotSo_25 : decode cX8_firstNotSo 25 = .ok (.iload_n 1, 1) := by decide +kernel
theorem dX8_firstNotSo_26 : decode cX8_firstNotSo 26 = .ok (.invokestatic 95, 3) := by decide +kernel
theorem dX8_firstNotSo_29 : decode cX8_firstNotSo 29 = .ok (.aload_n 0, 1) := by decide +kernel
theorem dX8_firstNotSo_30 : decode cX8_firstNotSo 30 = .ok (.getfield 39, 3) := by decide +kernel
theorem dX8_firstNotSo_33 : decode cX8_firstNotSo 33 = .ok (.getfield 369, 3) := by decide +kernel
theorem dX8_firstNotSo_36 : decode cX8_firstNotSo 36 = .ok (.iload_n 1, 1) := by decide +kernel
theorem dX8_firstNotSo_37 : decode cX8_firstNotSo 37 = .ok (.invokestatic 95, 3) := by decide +kernel
theorem dX8_firstNotSo_40 : decode cX8_firstNotSo 40 = .ok (.if_icmp .eq 5, 3) := by decide +kernel
theorem dX8_firstNotSo_43 : decode cX8_firstNotSo 43 = .ok (.iload_n 1, 1) := by decide +kernel
theorem dX8_firstNotSo_44 : decode cX8_firstNotSo 44 = .ok (.ireturn, 1) := by decide +kernel
theorem dX8_firstNotSo_45 : decode cX8_firstNotSo 45 = .ok (.iinc 1 1, 3) := by decide +kernel
theorem dX8_firstNotSo_48 : decode cX8_firstNotSo 48 = .ok (.goto (-46), 3) := by decide +kernel
theorem dX8_firstNotSo_51 : decode cX8_firstNotSo 51 = .ok (.aload_n 0, 1) := by decide +kernel
theorem dX8_firstNotSo_52 : decode cX8_firstNotSo 52 = .ok (.getfield 342, 3) := by decide +kernel
theorem dX8_firstNotSo_55 : decode cX8_firstNotSo 55 = .ok (.aload_n 0, 1) := by decide +kernel
theorem dX8_firstNotSo_56 : decode cX8_firstNotSo 56 = .ok (.getfield 39, 3) := by decide +kernel
theorem dX8_firstNotSo_59 : decode cX8_firstNotSo 59 = .ok (.getfield 338, 3) := by decide +kernel
theorem dX8_firstNotSo_62 : decode cX8_firstNotSo 62 = .ok (.if_icmp .ge 10, 3) := by decide +kernel
theorem dX8_firstNotSo_65 : decode cX8_firstNotSo 65 = .ok (.aload_n 0, 1) := by decide +kernel
theorem dX8_firstNotSo_66 : decode cX8_firstNotSo 66 = .ok (.getfield 342, 3) := by decide +kernel
theorem dX8_firstNotSo_69 : decode cX8_firstNotSo 69 = .ok (.goto 5, 3) := by decide +kernel
theorem dX8_firstNotSo_72 : decode cX8_firstNotSo 72 = .ok (.bipush (-9), 2) := by decide +kernel
theorem dX8_firstNotSo_74 : decode cX8_firstNotSo 74 = .ok (.ireturn, 1) := by decide +kernel
theorem dX8_drawBelow41_0 : decode cX8_drawBelow41 0 = .ok (.aload_n 0, 1) := by decide +kernel
theorem dX8_drawBelow41_1 : decode cX8_drawBelow41 1 = .ok (.aload_n 0, 1) := by decide +kernel
theorem dX8_drawBelow41_2 : decode cX8_drawBelow41 2 = .ok (.getfield 348, 3) := by decide +kernel
theorem dX8_drawBelow41_5 : decode cX8_drawBelow41 5 = .ok (.ldc_w 372, 3) := by decide +kernel
theorem dX8_drawBelow41_8 : decode cX8_drawBelow41 8 = .ok (.imul, 1) := by decide +kernel
theorem dX8_drawBelow41_9 : decode cX8_drawBelow41 9 = .ok (.ldc_w 373, 3) := by decide +kernel
theorem dX8_drawBelow41_12 : decode cX8_drawBelow41 12 = .ok (.iadd, 1) := by decide +kernel
theorem dX8_drawBelow41_13 : decode cX8_drawBelow41 13 = .ok (.putfield 348, 3) := by decide +kernel
theorem dX8_drawBelow41_16 : decode cX8_drawBelow41 16 = .ok (.aload_n 0, 1) := by decide +kernel
theorem dX8_drawBelow41_17 : decode cX8_drawBelow41 17 = .ok (.getfield 348, 3) := by decide +kernel
theorem dX8_drawBelow41_20 : decode cX8_drawBelow41 20 = .ok (.ldc_w 374, 3) := by decide +kernel
theorem dX8_drawBelow41_23 : decode cX8_drawBelow41 23 = .ok (.iand, 1) := by decide +kernel
theorem dX8_drawBelow41_24 : decode cX8_drawBelow41 24 = .ok (.sipush 256, 3) := by decide +kernel
theorem dX8_drawBelow41_27 : decode cX8_drawBelow41 27 = .ok (.idiv, 1) := by decide +kernel
theorem dX8_drawBelow41_28 : decode cX8_drawBelow41 28 = .ok (.bipush 41, 2) := by decide +kernel
theorem dX8_drawBelow41_30 : decode cX8_drawBelow41 30 = .ok (.irem, 1) := by decide +kernel
theorem dX8_drawBelow41_31 : decode cX8_drawBelow41 31 = .ok (.ireturn, 1) := by decide +kernel
theorem dX8_at_0 : decode cX8_at 0 = .ok (.iload_n 1, 1) := by decide +kernel
theorem dX8_at_1 : decode cX8_at 1 = .ok (.ifCond .lt 15, 3) := by decide +kernel
theorem dX8_at_4 : decode cX8_at 4 = .ok (.iload_n 1, 1) := by decide +kernel
theorem dX8_at_5 : decode cX8_at 5 = .ok (.aload_n 0, 1) := by decide +kernel
theorem dX8_at_6 : decode cX8_at 6 = .ok (.arraylength, 1) := by decide +kernel
theorem dX8_at_7 : decode cX8_at 7 = .ok (.if_icmp .ge 9, 3) := by decide +kernel
theorem dX8_at_10 : decode cX8_at 10 = .ok (.aload_n 0, 1) := by decide +kernel
theorem dX8_at_11 : decode cX8_at 11 = .ok (.iload_n 1, 1) := by decide +kernel
theorem dX8_at_12 : decode cX8_at 12 = .ok (.iaload, 1) := by decide +kernel
theorem dX8_at_13 : decode cX8_at 13 = .ok (.goto 4, 3) := by decide +kernel
theorem dX8_at_16 : decode cX8_at 16 = .ok (.iconst 0, 1) := by decide +kernel
theorem dX8_at_17 : decode cX8_at 17 = .ok (.ireturn, 1) := by decide +kernel
theorem dX8_put_0 : decode cX8_put 0 = .ok (.iload_n 1, 1) := by decide +kernel
theorem dX8_put_1 : decode cX8_put 1 = .ok (.ifCond .lt 13, 3) := by decide +kernel
theorem dX8_put_4 : decode cX8_put 4 = .ok (.iload_n 1, 1) := by decide +kernel
theorem dX8_put_5 : decode cX8_put 5 = .ok (.aload_n 0, 1) := by decide +kernel
theorem dX8_put_6 : decode cX8_put 6 = .ok (.arraylength, 1) := by decide +kernel
theorem dX8_put_7 : decode cX8_put 7 = .ok (.if_icmp .ge 7, 3) := by decide +kernel
theorem dX8_put_10 : decode cX8_put 10 = .ok (.aload_n 0, 1) := by decide +kernel
theorem dX8_put_11 : decode cX8_put 11 = .ok (.iload_n 1, 1) := by decide +kernel
theorem dX8_put_12 : decode cX8_put 12 = .ok (.iload_n 2, 1) := by decide +kernel
theorem dX8_put_13 : decode cX8_put 13 = .ok (.iastore, 1) := by decide +kernel
theorem dX8_put_14 : decode cX8_put 14 = .ok (.return_, 1) := by decide +kernel
theorem dX8_copyInts_0 : decode cX8_copyInts 0 = .ok (.aload_n 0, 1) := by decide +kernel
theorem dX8_copyInts_1 : decode cX8_copyInts 1 = .ok (.iconst 0, 1) := by decide +kernel
theorem dX8_copyInts_2 : decode cX8_copyInts 2 = .ok (.aload_n 1, 1) := by decide +kernel
theorem dX8_copyInts_3 : decode cX8_copyInts 3 = .ok (.iconst 0, 1) := by decide +kernel
theorem dX8_copyInts_4 : decode cX8_copyInts 4 = .ok (.aload_n 0, 1) := by decide +kernel
theorem dX8_copyInts_5 : decode cX8_copyInts 5 = .ok (.arraylength, 1) := by decide +kernel
theorem dX8_copyInts_6 : decode cX8_copyInts 6 = .ok (.aload_n 1, 1) := by decide +kernel
theorem dX8_copyInts_7 : decode cX8_copyInts 7 = .ok (.arraylength, 1) := by decide +kernel
theorem dX8_copyInts_8 : decode cX8_copyInts 8 = .ok (.invokestatic 321, 3) := by decide +kernel
theorem dX8_copyInts_11 : decode cX8_copyInts 11 = .ok (.invokestatic 375, 3) := by decide +kernel
theorem dX8_copyInts_14 : decode cX8_copyInts 14 = .ok (.return_, 1) := by decide +kernel
theorem dX8_copyLongs_0 : decode cX8_copyLongs 0 = .ok (.aload_n 0, 1) := by decide +kernel
theorem dX8_copyLongs_1 : decode cX8_copyLongs 1 = .ok (.iconst 0, 1) := by decide +kernel
theorem dX8_copyLongs_2 : decode cX8_copyLongs 2 = .ok (.aload_n 1, 1) := by decide +kernel
theorem dX8_copyLongs_3 : decode cX8_copyLongs 3 = .ok (.iconst 0, 1) := by decide +kernel
theorem dX8_copyLongs_4 : decode cX8_copyLongs 4 = .ok (.aload_n 0, 1) := by decide +kernel
theorem dX8_copyLongs_5 : decode cX8_copyLongs 5 = .ok (.arraylength, 1) := by decide +kernel
theorem dX8_copyLongs_6 : decode cX8_copyLongs 6 = .ok (.aload_n 1, 1) := by decide +kernel
theorem dX8_copyLongs_7 : decode cX8_copyLongs 7 = .ok (.arraylength, 1) := by decide +kernel
theorem dX8_copyLongs_8 : decode cX8_copyLongs 8 = .ok (.invokestatic 321, 3) := by decide +kernel
theorem dX8_copyLongs_11 : decode cX8_copyLongs 11 = .ok (.invokestatic 375, 3) := by decide +kernel
theorem dX8_copyLongs_14 : decode cX8_copyLongs 14 = .ok (.return_, 1) := by decide +kernel
theorem dX8_outside_0 : decode cX8_outside 0 = .ok (.iload_n 0, 1) := by decide +kernel
theorem dX8_outside_1 : decode cX8_outside 1 = .ok (.iload_n 1, 1) := by decide +kernel
theorem dX8_outside_2 : decode cX8_outside 2 = .ok (.if_icmp .ge 6, 3) := by decide +kernel
theorem dX8_outside_5 : decode cX8_outside 5 = .ok (.bipush (-4), 2) := by decide +kernel
theorem dX8_outside_7 : decode cX8_outside 7 = .ok (.ireturn, 1) := by decide +kernel
theorem dX8_outside_8 : decode cX8_outside 8 = .ok (.iload_n 0, 1) := by decide +kernel
theorem dX8_outside_9 : decode cX8_outside 9 = .ok (.iload_n 2, 1) := by decide +kernel
theorem dX8_outside_10 : decode cX8_outside 10 = .ok (.if_icmp .le 8, 3) := by decide +kernel
theorem dX8_outside_13 : decode cX8_outside 13 = .ok (.bipush (-6), 2) := by decide +kernel
theorem dX8_outside_15 : decode cX8_outside 15 = .ok (.goto 4, 3) := by decide +kernel
theorem dX8_outside_18 : decode cX8_outside 18 = .ok (.iconst 0, 1) := by decide +kernel
theorem dX8_outside_19 : decode cX8_outside 19 = .ok (.ireturn, 1) := by decide +kernel
theorem dX8_glueFault_0 : decode cX8_glueFault 0 = .ok (.iload_n 0, 1) := by decide +kernel
theorem dX8_glueFault_1 : decode cX8_glueFault 1 = .ok (.iconst 2, 1) := by decide +kernel
theorem dX8_glueFault_2 : decode cX8_glueFault 2 = .ok (.if_icmp .lt 11, 3) := by decide +kernel
theorem dX8_glueFault_5 : decode cX8_glueFault 5 = .ok (.iload_n 1, 1) := by decide +kernel
theorem dX8_glueFault_6 : decode cX8_glueFault 6 = .ok (.ifCond .lt 7, 3) := by decide +kernel
theorem dX8_glueFault_9 : decode cX8_glueFault 9 = .ok (.iload_n 2, 1) := by decide +kernel
theorem dX8_glueFault_10 : decode cX8_glueFault 10 = .ok (.ifCond .ge 6, 3) := by decide +kernel
theorem dX8_glueFault_13 : decode cX8_glueFault 13 = .ok (.bipush (-4), 2) := by decide +kernel
theorem dX8_glueFault_15 : decode cX8_glueFault 15 = .ok (.ireturn, 1) := by decide +kernel
theorem dX8_glueFault_16 : decode cX8_glueFault 16 = .ok (.iload_n 0, 1) := by decide +kernel
theorem dX8_glueFault_17 : decode cX8_glueFault 17 = .ok (.bipush 9, 2) := by decide +kernel
theorem dX8_glueFault_19 : decode cX8_glueFault 19 = .ok (.if_icmp .gt 14, 3) := by decide +kernel
theorem dX8_glueFault_22 : decode cX8_glueFault 22 = .ok (.iload_n 1, 1) := by decide +kernel
theorem dX8_glueFault_23 : decode cX8_glueFault 23 = .ok (.bipush 9, 2) := by decide +kernel
theorem dX8_glueFault_25 : decode cX8_glueFault 25 = .ok (.if_icmp .gt 8, 3) := by decide +kernel
theorem dX8_glueFault_28 : decode cX8_glueFault 28 = .ok (.iload_n 2, 1) := by decide +kernel
theorem dX8_glueFault_29 : decode cX8_glueFault 29 = .ok (.iload_n 0, 1) := by decide +kernel
theorem dX8_glueFault_30 : decode cX8_glueFault 30 = .ok (.if_icmp .le 8, 3) := by decide +kernel
theorem dX8_glueFault_33 : decode cX8_glueFault 33 = .ok (.bipush (-6), 2) := by decide +kernel
theorem dX8_glueFault_35 : decode cX8_glueFault 35 = .ok (.goto 4, 3) := by decide +kernel
theorem dX8_glueFault_38 : decode cX8_glueFault 38 = .ok (.iconst 0, 1) := by decide +kernel
theorem dX8_glueFault_39 : decode cX8_glueFault 39 = .ok (.ireturn, 1) := by decide +kernel
theorem dX8_isOther_0 : decode cX8_isOther 0 = .ok (.iload_n 0, 1) := by decide +kernel
theorem dX8_isOther_1 : decode cX8_isOther 1 = .ok (.ifCond .lt 8, 3) := by decide +kernel
theorem dX8_isOther_4 : decode cX8_isOther 4 = .ok (.iload_n 0, 1) := by decide +kernel
theorem dX8_isOther_5 : decode cX8_isOther 5 = .ok (.iload_n 1, 1) := by decide +kernel
theorem dX8_isOther_6 : decode cX8_isOther 6 = .ok (.if_icmp .lt 7, 3) := by decide +kernel
theorem dX8_isOther_9 : decode cX8_isOther 9 = .ok (.iconst 1, 1) := by decide +kernel
theorem dX8_isOther_10 : decode cX8_isOther 10 = .ok (.goto 4, 3) := by decide +kernel
theorem dX8_isOther_13 : decode cX8_isOther 13 = .ok (.iconst 0, 1) := by decide +kernel
theorem dX8_isOther_14 : decode cX8_isOther 14 = .ok (.ireturn, 1) := by decide +kernel
theorem dX8_isLetter_0 : decode cX8_isLetter 0 = .ok (.iload_n 0, 1) := by decide +kernel
theorem dX8_isLetter_1 : decode cX8_isLetter 1 = .ok (.ifCond .lt 15, 3) := by decide +kernel
theorem dX8_isLetter_4 : decode cX8_isLetter 4 = .ok (.iload_n 0, 1) := by decide +kernel
theorem dX8_isLetter_5 : decode cX8_isLetter 5 = .ok (.getstatic 381, 3) := by decide +kernel
theorem dX8_isLetter_8 : decode cX8_isLetter 8 = .ok (.arraylength, 1) := by decide +kernel
theorem dX8_isLetter_9 : decode cX8_isLetter 9 = .ok (.if_icmp .ge 7, 3) := by decide +kernel
theorem dX8_isLetter_12 : decode cX8_isLetter 12 = .ok (.iconst 1, 1) := by decide +kernel
theorem dX8_isLetter_13 : decode cX8_isLetter 13 = .ok (.goto 4, 3) := by decide +kernel
theorem dX8_isLetter_16 : decode cX8_isLetter 16 = .ok (.iconst 0, 1) := by decide +kernel
theorem dX8_isLetter_17 : decode cX8_isLetter 17 = .ok (.ireturn, 1) := by decide +kernel
theorem dX8_isLetterOrNone_0 : decode cX8_isLetterOrNone 0 = .ok (.iload_n 0, 1) := by decide +kernel
theorem dX8_isLetterOrNone_1 : decode cX8_isLetterOrNone 1 = .ok (.iconst (-1), 1) := by decide +kernel
theorem dX8_isLetterOrNone_2 : decode cX8_isLetterOrNone 2 = .ok (.if_icmp .eq 10, 3) := by decide +kernel
theorem dX8_isLetterOrNone_5 : decode cX8_isLetterOrNone 5 = .ok (.iload_n 0, 1) := by decide +kernel
theorem dX8_isLetterOrNone_6 : decode cX8_isLetterOrNone 6 = .ok (.invokestatic 81, 3) := by decide +kernel
theorem dX8_isLetterOrNone_9 : decode cX8_isLetterOrNone 9 = .ok (.ifCond .eq 7, 3) := by decide +kernel
theorem dX8_isLetterOrNone_12 : decode cX8_isLetterOrNone 12 = .ok (.iconst 1, 1) := by decide +kernel
theorem dX8_isLetterOrNone_13 : decode cX8_isLetterOrNone 13 = .ok (.goto 4, 3) := by decide +kernel
theorem dX8_isLetterOrNone_16 : decode cX8_isLetterOrNone 16 = .ok (.iconst 0, 1) := by decide +kernel
theorem dX8_isLetterOrNone_17 : decode cX8_isLetterOrNone 17 = .ok (.ireturn, 1) := by decide +kernel
theorem dX8_spelledOn_0 : decode cX8_spelledOn 0 = .ok (.lload_n 0, 1) := by decide +kernel
theorem dX8_spelledOn_1 : decode cX8_spelledOn 1 = .ok (.iload_n 3, 1) := by decide +kernel
theorem dX8_spelledOn_2 : decode cX8_spelledOn 2 = .ok (.iconst 1, 1) := by decide +kernel
theorem dX8_spelledOn_3 : decode cX8_spelledOn 3 = .ok (.iadd, 1) := by decide +kernel
theorem dX8_spelledOn_4 : decode cX8_spelledOn 4 = .ok (.i2l, 1) := by decide +kernel
theorem dX8_spelledOn_5 : decode cX8_spelledOn 5 = .ok (.iconst 4, 1) := by decide +kernel
theorem dX8_spelledOn_6 : decode cX8_spelledOn 6 = .ok (.iload_n 2, 1) := by decide +kernel
theorem dX8_spelledOn_7 : decode cX8_spelledOn 7 = .ok (.imul, 1) := by decide +kernel
theorem dX8_spelledOn_8 : decode cX8_spelledOn 8 = .ok (.lshl, 1) := by decide +kernel
theorem dX8_spelledOn_9 : decode cX8_spelledOn 9 = .ok (.lor, 1) := by decide +kernel
theorem dX8_spelledOn_10 : decode cX8_spelledOn 10 = .ok (.lreturn, 1) := by decide +kernel
theorem dX8_spellingOf_0 : decode cX8_spellingOf 0 = .ok (.lconst 0, 1) := by decide +kernel
theorem dX8_spellingOf_1 : decode cX8_spellingOf 1 = .ok (.iconst 0, 1) := by decide +kernel
theorem dX8_spellingOf_2 : decode cX8_spellingOf 2 = .ok (.iload_n 0, 1) := by decide +kernel
theorem dX8_spellingOf_3 : decode cX8_spellingOf 3 = .ok (.invokestatic 384, 3) := by decide +kernel
theorem dX8_spellingOf_6 : decode cX8_spellingOf 6 = .ok (.iconst 1, 1) := by decide +kernel
theorem dX8_spellingOf_7 : decode cX8_spellingOf 7 = .ok (.iload_n 1, 1) := by decide +kernel
theorem dX8_spellingOf_8 : decode cX8_spellingOf 8 = .ok (.invokestatic 384, 3) := by decide +kernel
theorem dX8_spellingOf_11 : decode cX8_spellingOf 11 = .ok (.iconst 2, 1) := by decide +kernel
theorem dX8_spellingOf_12 : decode cX8_spellingOf 12 = .ok (.iload_n 2, 1) := by decide +kernel
theorem dX8_spellingOf_13 : decode cX8_spellingOf 13 = .ok (.invokestatic 384, 3) := by decide +kernel
theorem dX8_spellingOf_16 : decode cX8_spellingOf 16 = .ok (.lreturn, 1) := by decide +kernel
theorem dX8_letterIn_0 : decode cX8_letterIn 0 = .ok (.lload_n 0, 1) := by decide +kernel
theorem dX8_letterIn_1 : decode cX8_letterIn 1 = .ok (.iconst 4, 1) := by decide +kernel
theorem dX8_letterIn_2 : decode cX8_letterIn 2 = .ok (.iload_n 2, 1) := by decide +kernel
theorem dX8_letterIn_3 : decode cX8_letterIn 3 = .ok (.imul, 1) := by decide +kernel
theorem dX8_letterIn_4 : decode cX8_letterIn 4 = .ok (.lushr, 1) := by decide +kernel
theorem dX8_letterIn_5 : decode cX8_letterIn 5 = .ok (.ldc2_w 388, 3) := by decide +kernel
theorem dX8_letterIn_8 : decode cX8_letterIn 8 = .ok (.land, 1) := by decide +kernel
theorem dX8_letterIn_9 : decode cX8_letterIn 9 = .ok (.l2i, 1) := by decide +kernel
theorem dX8_letterIn_10 : decode cX8_letterIn 10 = .ok (.iconst 1, 1) := by decide +kernel
theorem dX8_letterIn_11 : decode cX8_letterIn 11 = .ok (.isub, 1) := by decide +kernel
theorem dX8_letterIn_12 : decode cX8_letterIn 12 = .ok (.ireturn, 1) := by decide +kernel
theorem dX8_isLess_0 : decode cX8_isLess 0 = .ok (.fload_n 0, 1) := by decide +kernel
theorem dX8_isLess_1 : decode cX8_isLess 1 = .ok (.fconst 0, 1) := by decide +kernel
theorem dX8_isLess_2 : decode cX8_isLess 2 = .ok (.fcmp .l, 1) := by decide +kernel
theorem dX8_isLess_3 : decode cX8_isLess 3 = .ok (.ifCond .lt 19, 3) := by decide +kernel
theorem dX8_isLess_6 : decode cX8_isLess 6 = .ok (.fload_n 1, 1) := by decide +kernel
theorem dX8_isLess_7 : decode cX8_isLess 7 = .ok (.fconst 0, 1) := by decide +kernel
theorem dX8_isLess_8 : decode cX8_isLess 8 = .ok (.fcmp .g, 1) := by decide +kernel
theorem dX8_isLess_9 : decode cX8_isLess 9 = .ok (.ifCond .lt 9, 3) := by decide +kernel
theorem dX8_isLess_12 : decode cX8_isLess 12 = .ok (.fload_n 0, 1) := by decide +kernel
theorem dX8_isLess_13 : decode cX8_isLess 13 = .ok (.fload_n 1, 1) := by decide +kernel
theorem dX8_isLess_14 : decode cX8_isLess 14 = .ok (.fcmp .g, 1) := by decide +kernel
theorem dX8_isLess_15 : decode cX8_isLess 15 = .ok (.ifCond .ge 7, 3) := by decide +kernel
theorem dX8_isLess_18 : decode cX8_isLess 18 = .ok (.iconst 1, 1) := by decide +kernel
theorem dX8_isLess_19 : decode cX8_isLess 19 = .ok (.goto 4, 3) := by decide +kernel
theorem dX8_isLess_22 : decode cX8_isLess 22 = .ok (.iconst 0, 1) := by decide +kernel
theorem dX8_isLess_23 : decode cX8_isLess 23 = .ok (.ireturn, 1) := by decide +kernel
theorem dX8_bitsOfTotal_0 : decode cX8_bitsOfTotal 0 = .ok (.fload_n 0, 1) := by decide +kernel
theorem dX8_bitsOfTotal_1 : decode cX8_bitsOfTotal 1 = .ok (.fconst 0, 1) := by decide +kernel
theorem dX8_bitsOfTotal_2 : decode cX8_bitsOfTotal 2 = .ok (.fcmp .g, 1) := by decide +kernel
theorem dX8_bitsOfTotal_3 : decode cX8_bitsOfTotal 3 = .ok (.ifCond .ge 7, 3) := by decide +kernel
theorem dX8_bitsOfTotal_6 : decode cX8_bitsOfTotal 6 = .ok (.iconst 0, 1) := by decide +kernel
theorem dX8_bitsOfTotal_7 : decode cX8_bitsOfTotal 7 = .ok (.goto 7, 3) := by decide +kernel
theorem dX8_bitsOfTotal_10 : decode cX8_bitsOfTotal 10 = .ok (.fload_n 0, 1) := by decide +kernel
theorem dX8_bitsOfTotal_11 : decode cX8_bitsOfTotal 11 = .ok (.invokestatic 276, 3) := by decide +kernel
theorem dX8_bitsOfTotal_14 : decode cX8_bitsOfTotal 14 = .ok (.ireturn, 1) := by decide +kernel
theorem dX8_bitsOf_0 : decode cX8_bitsOf 0 = .ok (.fload_n 0, 1) := by decide +kernel
theorem dX8_bitsOf_1 : decode cX8_bitsOf 1 = .ok (.fconst 0, 1) := by decide +kernel
theorem dX8_bitsOf_2 : decode cX8_bitsOf 2 = .ok (.fcmp .l, 1) := by decide +kernel
theorem dX8_bitsOf_3 : decode cX8_bitsOf 3 = .ok (.ifCond .ne 5, 3) := by decide +kernel
theorem dX8_bitsOf_6 : decode cX8_bitsOf 6 = .ok (.iconst 0, 1) := by decide +kernel
theorem dX8_bitsOf_7 : decode cX8_bitsOf 7 = .ok (.ireturn, 1) := by decide +kernel
theorem dX8_bitsOf_8 : decode cX8_bitsOf 8 = .ok (.fload_n 0, 1) := by decide +kernel
theorem dX8_bitsOf_9 : decode cX8_bitsOf 9 = .ok (.fconst 0, 1) := by decide +kernel
theorem dX8_bitsOf_10 : decode cX8_bitsOf 10 = .ok (.fcmp .g, 1) := by decide +kernel
theorem dX8_bitsOf_11 : decode cX8_bitsOf 11 = .ok (.ifCond .ge 8, 3) := by decide +kernel
theorem dX8_bitsOf_14 : decode cX8_bitsOf 14 = .ok (.fload_n 0, 1) := by decide +kernel
theorem dX8_bitsOf_15 : decode cX8_bitsOf 15 = .ok (.fneg, 1) := by decide +kernel
theorem dX8_bitsOf_16 : decode cX8_bitsOf 16 = .ok (.goto 4, 3) := by decide +kernel
theorem dX8_bitsOf_19 : decode cX8_bitsOf 19 = .ok (.fload_n 0, 1) := by decide +kernel
theorem dX8_bitsOf_20 : decode cX8_bitsOf 20 = .ok (.fstore_n 1, 1) := by decide +kernel
theorem dX8_bitsOf_21 : decode cX8_bitsOf 21 = .ok (.bipush 127, 2) := by decide +kernel
theorem dX8_bitsOf_23 : decode cX8_bitsOf 23 = .ok (.istore_n 2, 1) := by decide +kernel
theorem dX8_bitsOf_24 : decode cX8_bitsOf 24 = .ok (.iconst 0, 1) := by decide +kernel
theorem dX8_bitsOf_25 : decode cX8_bitsOf 25 = .ok (.istore_n 3, 1) := by decide +kernel
theorem dX8_bitsOf_26 : decode cX8_bitsOf 26 = .ok (.iload_n 3, 1) := by decide +kernel
theorem dX8_bitsOf_27 : decode cX8_bitsOf 27 = .ok (.sipush 128, 3) := by decide +kernel
theorem dX8_bitsOf_30 : decode cX8_bitsOf 30 = .ok (.if_icmp .ge 22, 3) := by decide +kernel
theorem dX8_bitsOf_33 : decode cX8_bitsOf 33 = .ok (.fload_n 1, 1) := by decide +kernel
theorem dX8_bitsOf_34 : decode cX8_bitsOf 34 = .ok (.fconst 2, 1) := by decide +kernel
theorem dX8_bitsOf_35 : decode cX8_bitsOf 35 = .ok (.fcmp .l, 1) := by decide +kernel
theorem dX8_bitsOf_36 : decode cX8_bitsOf 36 = .ok (.ifCond .lt 16, 3) := by decide +kernel
theorem dX8_bitsOf_39 : decode cX8_bitsOf 39 = .ok (.fload_n 1, 1) := by decide +kernel
theorem dX8_bitsOf_40 : decode cX8_bitsOf 40 = .ok (.fconst 2, 1) := by decide +kernel
theorem dX8_bitsOf_41 : decode cX8_bitsOf 41 = .ok (.fdiv, 1) := by decide +kernel
theorem dX8_bitsOf_42 : decode cX8_bitsOf 42 = .ok (.fstore_n 1, 1) := by decide +kernel
theorem dX8_bitsOf_43 : decode cX8_bitsOf 43 = .ok (.iinc 2 1, 3) := by decide +kernel
theorem dX8_bitsOf_46 : decode cX8_bitsOf 46 = .ok (.iinc 3 1, 3) := by decide +kernel
theorem dX8_bitsOf_49 : decode cX8_bitsOf 49 = .ok (.goto (-23), 3) := by decide +kernel
theorem dX8_bitsOf_52 : decode cX8_bitsOf 52 = .ok (.iconst 0, 1) := by decide +kernel
theorem dX8_bitsOf_53 : decode cX8_bitsOf 53 = .ok (.istore_n 3, 1) := by decide +kernel
theorem dX8_bitsOf_54 : decode cX8_bitsOf 54 = .ok (.iload_n 3, 1) := by decide +kernel
theorem dX8_bitsOf_55 : decode cX8_bitsOf 55 = .ok (.sipush 128, 3) := by decide +kernel
theorem dX8_bitsOf_58 : decode cX8_bitsOf 58 = .ok (.if_icmp .ge 22, 3) := by decide +kernel
theorem dX8_bitsOf_61 : decode cX8_bitsOf 61 = .ok (.fload_n 1, 1) := by decide +kernel
theorem dX8_bitsOf_62 : decode cX8_bitsOf 62 = .ok (.fconst 1, 1) := by decide +kernel
theorem dX8_bitsOf_63 : decode cX8_bitsOf 63 = .ok (.fcmp .g, 1) := by decide +kernel
theorem dX8_bitsOf_64 : decode cX8_bitsOf 64 = .ok (.ifCond .ge 16, 3) := by decide +kernel
theorem dX8_bitsOf_67 : decode cX8_bitsOf 67 = .ok (.fload_n 1, 1) := by decide +kernel
theorem dX8_bitsOf_68 : decode cX8_bitsOf 68 = .ok (.fconst 2, 1) := by decide +kernel
theorem dX8_bitsOf_69 : decode cX8_bitsOf 69 = .ok (.fmul, 1) := by decide +kernel
theorem dX8_bitsOf_70 : decode cX8_bitsOf 70 = .ok (.fstore_n 1, 1) := by decide +kernel
theorem dX8_bitsOf_71 : decode cX8_bitsOf 71 = .ok (.iinc 2 (-1), 3) := by decide +kernel
theorem dX8_bitsOf_74 : decode cX8_bitsOf 74 = .ok (.iinc 3 1, 3) := by decide +kernel
theorem dX8_bitsOf_77 : decode cX8_bitsOf 77 = .ok (.goto (-23), 3) := by decide +kernel
theorem dX8_bitsOf_80 : decode cX8_bitsOf 80 = .ok (.fload_n 1, 1) := by decide +kernel
theorem dX8_bitsOf_81 : decode cX8_bitsOf 81 = .ok (.ldc_w 390, 3) := by decide +kernel
theorem dX8_bitsOf_84 : decode cX8_bitsOf 84 = .ok (.fmul, 1) := by decide +kernel
theorem dX8_bitsOf_85 : decode cX8_bitsOf 85 = .ok (.f2i, 1) := by decide +kernel
theorem dX8_bitsOf_86 : decode cX8_bitsOf 86 = .ok (.ldc_w 391, 3) := by decide +kernel
theorem dX8_bitsOf_89 : decode cX8_bitsOf 89 = .ok (.isub, 1) := by decide +kernel
theorem dX8_bitsOf_90 : decode cX8_bitsOf 90 = .ok (.istore_n 3, 1) := by decide +kernel
theorem dX8_bitsOf_91 : decode cX8_bitsOf 91 = .ok (.fload_n 0, 1) := by decide +kernel
theorem dX8_bitsOf_92 : decode cX8_bitsOf 92 = .ok (.fconst 0, 1) := by decide +kernel
theorem dX8_bitsOf_93 : decode cX8_bitsOf 93 = .ok (.fcmp .g, 1) := by decide +kernel
theorem dX8_bitsOf_94 : decode cX8_bitsOf 94 = .ok (.ifCond .ge 9, 3) := by decide +kernel
theorem dX8_bitsOf_97 : decode cX8_bitsOf 97 = .ok (.ldc_w 392, 3) := by decide +kernel
theorem dX8_bitsOf_100 : decode cX8_bitsOf 100 = .ok (.goto 4, 3) := by decide +kernel
theorem dX8_bitsOf_103 : decode cX8_bitsOf 103 = .ok (.iconst 0, 1) := by decide +kernel
theorem dX8_bitsOf_104 : decode cX8_bitsOf 104 = .ok (.iload_n 2, 1) := by decide +kernel
theorem dX8_bitsOf_105 : decode cX8_bitsOf 105 = .ok (.bipush 23, 2) := by decide +kernel
theorem dX8_bitsOf_107 : decode cX8_bitsOf 107 = .ok (.ishl, 1) := by decide +kernel
theorem dX8_bitsOf_108 : decode cX8_bitsOf 108 = .ok (.ior, 1) := by decide +kernel
theorem dX8_bitsOf_109 : decode cX8_bitsOf 109 = .ok (.iload_n 3, 1) := by decide +kernel
theorem dX8_bitsOf_110 : decode cX8_bitsOf 110 = .ok (.ior, 1) := by decide +kernel
theorem dX8_bitsOf_111 : decode cX8_bitsOf 111 = .ok (.ireturn, 1) := by decide +kernel
theorem dX8_power_0 : decode cX8_power 0 = .ok (.lconst 1, 1) := by decide +kernel
theorem dX8_power_1 : decode cX8_power 1 = .ok (.lstore_n 3, 1) := by decide +kernel
theorem dX8_power_2 : decode cX8_power 2 = .ok (.iconst 0, 1) := by decide +kernel
theorem dX8_power_3 : decode cX8_power 3 = .ok (.istore 5, 2) := by decide +kernel
theorem dX8_power_5 : decode cX8_power 5 = .ok (.iload 5, 2) := by decide +kernel
theorem dX8_power_7 : decode cX8_power 7 = .ok (.iload_n 2, 1) := by decide +kernel
theorem dX8_power_8 : decode cX8_power 8 = .ok (.if_icmp .ge 13, 3) := by decide +kernel
theorem dX8_power_11 : decode cX8_power 11 = .ok (.lload_n 3, 1) := by decide +kernel
theorem dX8_power_12 : decode cX8_power 12 = .ok (.lload_n 0, 1) := by decide +kernel
theorem dX8_power_13 : decode cX8_power 13 = .ok (.lmul, 1) := by decide +kernel
theorem dX8_power_14 : decode cX8_power 14 = .ok (.lstore_n 3, 1) := by decide +kernel
theorem dX8_power_15 : decode cX8_power 15 = .ok (.iinc 5 1, 3) := by decide +kernel
theorem dX8_power_18 : decode cX8_power 18 = .ok (.goto (-13), 3) := by decide +kernel
theorem dX8_power_21 : decode cX8_power 21 = .ok (.lload_n 3, 1) := by decide +kernel
theorem dX8_power_22 : decode cX8_power 22 = .ok (.lreturn, 1) := by decide +kernel
theorem dX8_partOfFraction_0 : decode cX8_partOfFraction 0 = .ok (.lload_n 0, 1) := by decide +kernel
theorem dX8_partOfFraction_1 : decode cX8_partOfFraction 1 = .ok (.lconst 0, 1) := by decide +kernel
theorem dX8_partOfFraction_2 : decode cX8_partOfFraction 2 = .ok (.lcmp, 1) := by decide +kernel
theorem dX8_partOfFraction_3 : decode cX8_partOfFraction 3 = .ok (.ifCond .le 9, 3) := by decide +kernel
theorem dX8_partOfFraction_6 : decode cX8_partOfFraction 6 = .ok (.lload_n 2, 1) := by decide +kernel
theorem dX8_partOfFraction_7 : decode cX8_partOfFraction 7 = .ok (.lconst 0, 1) := by decide +kernel
theorem dX8_partOfFraction_8 : decode cX8_partOfFraction 8 = .ok (.lcmp, 1) := by decide +kernel
theorem dX8_partOfFraction_9 : decode cX8_partOfFraction 9 = .ok (.ifCond .gt 14, 3) := by decide +kernel
theorem dX8_partOfFraction_12 : decode cX8_partOfFraction 12 = .ok (.iload 4, 2) := by decide +kernel
theorem dX8_partOfFraction_14 : decode cX8_partOfFraction 14 = .ok (.ifCond .ne 7, 3) := by decide +kernel
theorem dX8_partOfFraction_17 : decode cX8_partOfFraction 17 = .ok (.lconst 0, 1) := by decide +kernel
theorem dX8_partOfFraction_18 : decode cX8_partOfFraction 18 = .ok (.goto 4, 3) := by decide +kernel
theorem dX8_partOfFraction_21 : decode cX8_partOfFraction 21 = .ok (.lconst 1, 1) := by decide +kernel
theorem dX8_partOfFraction_22 : decode cX8_partOfFraction 22 = .ok (.lreturn, 1) := by decide +kernel
theorem dX8_partOfFraction_23 : decode cX8_partOfFraction 23 = .ok (.lload_n 0, 1) := by decide +kernel
theorem dX8_partOfFraction_24 : decode cX8_partOfFraction 24 = .ok (.lload_n 2, 1) := by decide +kernel
theorem dX8_partOfFraction_25 : decode cX8_partOfFraction 25 = .ok (.invokestatic 393, 3) := by decide +kernel
theorem dX8_partOfFraction_28 : decode cX8_partOfFraction 28 = .ok (.lstore 5, 2) := by decide +kernel
theorem dX8_partOfFraction_30 : decode cX8_partOfFraction 30 = .ok (.iload 4, 2) := by decide +kernel
theorem dX8_partOfFraction_32 : decode cX8_partOfFraction 32 = .ok (.ifCond .ne 7, 3) := by decide +kernel
theorem dX8_partOfFraction_35 : decode cX8_partOfFraction 35 = .ok (.lload_n 0, 1) := by decide +kernel
theorem dX8_partOfFraction_36 : decode cX8_partOfFraction 36 = .ok (.goto 4, 3) := by decide +kernel
theorem dX8_partOfFraction_39 : decode cX8_partOfFraction 39 = .ok (.lload_n 2, 1) := by decide +kernel
theorem dX8_partOfFraction_40 : decode cX8_partOfFraction 40 = .ok (.lstore 7, 2) := by decide +kernel
theorem dX8_partOfFraction_42 : decode cX8_partOfFraction 42 = .ok (.lload 5, 2) := by decide +kernel
theorem dX8_partOfFraction_44 : decode cX8_partOfFraction 44 = .ok (.lconst 0, 1) := by decide +kernel
theorem dX8_partOfFraction_45 : decode cX8_partOfFraction 45 = .ok (.lcmp, 1) := by decide +kernel
theorem dX8_partOfFraction_46 : decode cX8_partOfFraction 46 = .ok (.ifCond .le 11, 3) := by decide +kernel
theorem dX8_partOfFraction_49 : decode cX8_partOfFraction 49 = .ok (.lload 7, 2) := by decide +kernel
theorem dX8_partOfFraction_51 : decode cX8_partOfFraction 51 = .ok (.lload 5, 2) := by decide +kernel
theorem dX8_partOfFraction_53 : decode cX8_partOfFraction 53 = .ok (.ldiv, 1) := by decide +kernel
theorem dX8_partOfFraction_54 : decode cX8_partOfFraction 54 = .ok (.goto 5, 3) := by decide +kernel
theorem dX8_partOfFraction_57 : decode cX8_partOfFraction 57 = .ok (.lload 7, 2) := by decide +kernel
theorem dX8_partOfFraction_59 : decode cX8_partOfFraction 59 = .ok (.lreturn, 1) := by decide +kernel
theorem dX8_commonDivisor_0 : decode cX8_commonDivisor 0 = .ok (.lload_n 0, 1) := by decide +kernel
theorem dX8_commonDivisor_1 : decode cX8_commonDivisor 1 = .ok (.lstore 4, 2) := by decide +kernel
theorem dX8_commonDivisor_3 : decode cX8_commonDivisor 3 = .ok (.lload_n 2, 1) := by decide +kernel
theorem dX8_commonDivisor_4 : decode cX8_commonDivisor 4 = .ok (.lstore 6, 2) := by decide +kernel
theorem dX8_commonDivisor_6 : decode cX8_commonDivisor 6 = .ok (.iconst 0, 1) := by decide +kernel
theorem dX8_commonDivisor_7 : decode cX8_commonDivisor 7 = .ok (.istore 8, 2) := by decide +kernel
theorem dX8_commonDivisor_9 : decode cX8_commonDivisor 9 = .ok (.iload 8, 2) := by decide +kernel
theorem dX8_commonDivisor_11 : decode cX8_commonDivisor 11 = .ok (.sipush 200, 3) := by decide +kernel
theorem dX8_commonDivisor_14 : decode cX8_commonDivisor 14 = .ok (.if_icmp .ge 31, 3) := by decide +kernel
theorem dX8_commonDivisor_17 : decode cX8_commonDivisor 17 = .ok (.lload 6, 2) := by decide +kernel
theorem dX8_commonDivisor_19 : decode cX8_commonDivisor 19 = .ok (.lconst 0, 1) := by decide +kernel
theorem dX8_commonDivisor_20 : decode cX8_commonDivisor 20 = .ok (.lcmp, 1) := by decide +kernel
theorem dX8_commonDivisor_21 : decode cX8_commonDivisor 21 = .ok (.ifCond .le 24, 3) := by decide +kernel
theorem dX8_commonDivisor_24 : decode cX8_commonDivisor 24 = .ok (.lload 4, 2) := by decide +kernel
theorem dX8_commonDivisor_26 : decode cX8_commonDivisor 26 = .ok (.lload 6, 2) := by decide +kernel
theorem dX8_commonDivisor_28 : decode cX8_commonDivisor 28 = .ok (.lrem, 1) := by decide +kernel
theorem dX8_commonDivisor_29 : decode cX8_commonDivisor 29 = .ok (.lstore 9, 2) := by decide +kernel
theorem dX8_commonDivisor_31 : decode cX8_commonDivisor 31 = .ok (.lload 6, 2) := by decide +kernel
theorem dX8_commonDivisor_33 : decode cX8_commonDivisor 33 = .ok (.lstore 4, 2) := by decide +kernel
theorem dX8_commonDivisor_35 : decode cX8_commonDivisor 35 = .ok (.lload 9, 2) := by decide +kernel
theorem dX8_commonDivisor_37 : decode cX8_commonDivisor 37 = .ok (.lstore 6, 2) := by decide +kernel
theorem dX8_commonDivisor_39 : decode cX8_commonDivisor 39 = .ok (.iinc 8 1, 3) := by decide +kernel
theorem dX8_commonDivisor_42 : decode cX8_commonDivisor 42 = .ok (.goto (-33), 3) := by decide +kernel
theorem dX8_commonDivisor_45 : decode cX8_commonDivisor 45 = .ok (.lload 4, 2) := by decide +kernel
theorem dX8_commonDivisor_47 : decode cX8_commonDivisor 47 = .ok (.lreturn, 1) := by decide +kernel
theorem dX9_init_0 : decode cX9_init 0 = .ok (.aload_n 0, 1) := by decide +kernel
theorem dX9_init_1 : decode cX9_init 1 = .ok (.invokespecial 1, 3) := by decide +kernel
theorem dX9_init_4 : decode cX9_init 4 = .ok (.aload_n 0, 1) := by decide +kernel
theorem dX9_init_5 : decode cX9_init 5 = .ok (.bipush 7, 2) := by decide +kernel
theorem dX9_init_7 : decode cX9_init 7 = .ok (.newarray .int, 2) := by decide +kernel
theorem dX9_init_9 : decode cX9_init 9 = .ok (.putfield 7, 3) := by decide +kernel
theorem dX9_init_12 : decode cX9_init 12 = .ok (.aload_n 0, 1) := by decide +kernel
theorem dX9_init_13 : decode cX9_init 13 = .ok (.bipush 8, 2) := by decide +kernel
theorem dX9_init_15 : decode cX9_init 15 = .ok (.newarray .int, 2) := by decide +kernel
theorem dX9_init_17 : decode cX9_init 17 = .ok (.putfield 13, 3) := by decide +kernel
theorem dX9_init_20 : decode cX9_init 20 = .ok (.aload_n 0, 1) := by decide +kernel
theorem dX9_init_21 : decode cX9_init 21 = .ok (.bipush 16, 2) := by decide +kernel
theorem dX9_init_23 : decode cX9_init 23 = .ok (.newarray .int, 2) := by decide +kernel
theorem dX9_init_25 : decode cX9_init 25 = .ok (.putfield 16, 3) := by decide +kernel
theorem dX9_init_28 : decode cX9_init 28 = .ok (.aload_n 0, 1) := by decide +kernel
theorem dX9_init_29 : decode cX9_init 29 = .ok (.sipush 192, 3) := by decide +kernel
theorem dX9_init_32 : decode cX9_init 32 = .ok (.newarray .int, 2) := by decide +kernel
theorem dX9_init_34 : decode cX9_init 34 = .ok (.putfield 19, 3) := by decide +kernel
theorem dX9_init_37 : decode cX9_init 37 = .ok (.aload_n 0, 1) := by decide +kernel
theorem dX9_init_38 : decode cX9_init 38 = .ok (.bipush 16, 2) := by decide +kernel
theorem dX9_init_40 : decode cX9_init 40 = .ok (.newarray .int, 2) := by decide +kernel
theorem dX9_init_42 : decode cX9_init 42 = .ok (.putfield 22, 3) := by decide +kernel
theorem dX9_init_45 : decode cX9_init 45 = .ok (.aload_n 0, 1) := by decide +kernel
theorem dX9_init_46 : decode cX9_init 46 = .ok (.bipush 8, 2) := by decide +kernel
theorem dX9_init_48 : decode cX9_init 48 = .ok (.newarray .int, 2) := by decide +kernel
theorem dX9_init_50 : decode cX9_init 50 = .ok (.putfield 25, 3) := by decide +kernel
theorem dX9_init_53 : decode cX9_init 53 = .ok (.aload_n 0, 1) := by decide +kernel
theorem dX9_init_54 : decode cX9_init 54 = .ok (.bipush 24, 2) := by decide +kernel
theorem dX9_init_56 : decode cX9_init 56 = .ok (.newarray .int, 2) := by decide +kernel
theorem dX9_init_58 : decode cX9_init 58 = .ok (.putfield 28, 3) := by decide +kernel
theorem dX9_init_61 : decode cX9_init 61 = .ok (.aload_n 0, 1) := by decide +kernel
theorem dX9_init_62 : decode cX9_init 62 = .ok (.bipush 8, 2) := by decide +kernel
theorem dX9_init_64 : decode cX9_init 64 = .ok (.newarray .int, 2) := by decide +kernel
theorem dX9_init_66 : decode cX9_init 66 = .ok (.putfield 31, 3) := by decide +kernel
theorem dX9_init_69 : decode cX9_init 69 = .ok (.aload_n 0, 1) := by decide +kernel
theorem dX9_init_70 : decode cX9_init 70 = .ok (.bipush 8, 2) := by decide +kernel
theorem dX9_init_72 : decode cX9_init 72 = .ok (.newarray .int, 2) := by decide +kernel
theorem dX9_init_74 : decode cX9_init 74 = .ok (.putfield 34, 3) := by decide +kernel
theorem dX9_init_77 : decode cX9_init 77 = .ok (.aload_n 0, 1) := by decide +kernel
theorem dX9_init_78 : decode cX9_init 78 = .ok (.sipush 162, 3) := by decide +kernel
theorem dX9_init_81 : decode cX9_init 81 = .ok (.newarray .int, 2) := by decide +kernel
theorem dX9_init_83 : decode cX9_init 83 = .ok (.putfield 37, 3) := by decide +kernel
theorem dX9_init_86 : decode cX9_init 86 = .ok (.aload_n 0, 1) := by decide +kernel
theorem dX9_init_87 : decode cX9_init 87 = .ok (.sipush 162, 3) := by decide +kernel
theorem dX9_init_90 : decode cX9_init 90 = .ok (.newarray .int, 2) := by decide +kernel
theorem dX9_init_92 : decode cX9_init 92 = .ok (.putfield 40, 3) := by decide +kernel
theorem dX9_init_95 : decode cX9_init 95 = .ok (.aload_n 0, 1) := by decide +kernel
theorem dX9_init_96 : decode cX9_init 96 = .ok (.sipush 161, 3) := by decide +kernel
theorem dX9_init_99 : decode cX9_init 99 = .ok (.newarray .int, 2) := by decide +kernel
theorem dX9_init_101 : decode cX9_init 101 = .ok (.putfield 43, 3) := by decide +kernel
theorem dX9_init_104 : decode cX9_init 104 = .ok (.aload_n 0, 1) := by decide +kernel
theorem dX9_init_105 : decode cX9_init 105 = .ok (.sipush 161, 3) := by decide +kernel
theorem dX9_init_108 : decode cX9_init 108 = .ok (.newarray .int, 2) := by decide +kernel
theorem dX9_init_110 : decode cX9_init 110 = .ok (.putfield 46, 3) := by decide +kernel
theorem dX9_init_113 : decode cX9_init 113 = .ok (.aload_n 0, 1) := by decide +kernel
theorem dX9_init_114 : decode cX9_init 114 = .ok (.sipush 161, 3) := by decide +kernel
theorem dX9_init_117 : decode cX9_init 117 = .ok (.newarray .float, 2) := by decide +kernel
theorem dX9_init_119 : decode cX9_init 119 = .ok (.putfield 49, 3) := by decide +kernel
theorem dX9_init_122 : decode cX9_init 122 = .ok (.aload_n 0, 1) := by decide +kernel
theorem dX9_init_123 : decode cX9_init 123 = .ok (.sipush 161, 3) := by decide +kernel
theorem dX9_init_126 : decode cX9_init 126 = .ok (.newarray .int, 2) := by decide +kernel
theorem dX9_init_128 : decode cX9_init 128 = .ok (.putfield 53, 3) := by decide +kernel
theorem dX9_init_131 : decode cX9_init 131 = .ok (.aload_n 0, 1) := by decide +kernel
theorem dX9_init_132 : decode cX9_init 132 = .ok (.sipush 162, 3) := by decide +kernel
theorem dX9_init_135 : decode cX9_init 135 = .ok (.newarray .int, 2) := by decide +kernel
theorem dX9_init_137 : decode cX9_init 137 = .ok (.putfield 56, 3) := by decide +kernel
theorem dX9_init_140 : decode cX9_init 140 = .ok (.aload_n 0, 1) := by decide +kernel
theorem dX9_init_141 : decode cX9_init 141 = .ok (.bipush 96, 2) := by decide +kernel
theorem dX9_init_143 : decode cX9_init 143 = .ok (.newarray .int, 2) := by decide +kernel
theorem dX9_init_145 : decode cX9_init 145 = .ok (.putfield 59, 3) := by decide +kernel
theorem dX9_init_148 : decode cX9_init 148 = .ok (.aload_n 0, 1) := by decide +kernel
theorem dX9_init_149 : decode cX9_init 149 = .ok (.bipush 49, 2) := by decide +kernel
theorem dX9_init_151 : decode cX9_init 151 = .ok (.newarray .int, 2) := by decide +kernel
theorem dX9_init_153 : decode cX9_init 153 = .ok (.putfield 62, 3) := by decide +kernel
theorem dX9_init_156 : decode cX9_init 156 = .ok (.aload_n 0, 1) := by decide +kernel
theorem dX9_init_157 : decode cX9_init 157 = .ok (.bipush 49, 2) := by decide +kernel
theorem dX9_init_159 : decode cX9_init 159 = .ok (.newarray .int, 2) := by decide +kernel
theorem dX9_init_161 : decode cX9_init 161 = .ok (.putfield 65, 3) := by decide +kernel
theorem dX9_init_164 : decode cX9_init 164 = .ok (.aload_n 0, 1) := by decide +kernel
theorem dX9_init_165 : decode cX9_init 165 = .ok (.sipush 147, 3) := by decide +kernel
theorem dX9_init_168 : decode cX9_init 168 = .ok (.newarray .int, 2) := by decide +kernel
theorem dX9_init_170 : decode cX9_init 170 = .ok (.putfield 68, 3) := by decide +kernel
theorem dX9_init_173 : decode cX9_init 173 = .ok (.aload_n 0, 1) := by decide +kernel
theorem dX9_init_174 : decode cX9_init 174 = .ok (.bipush 49, 2) := by decide +kernel
theorem dX9_init_176 : decode cX9_init 176 = .ok (.newarray .int, 2) := by decide +kernel
theorem dX9_init_178 : decode cX9_init 178 = .ok (.putfield 71, 3) := by decide +kernel
theorem dX9_init_181 : decode cX9_init 181 = .ok (.aload_n 0, 1) := by decide +kernel
theorem dX9_init_182 : decode cX9_init 182 = .ok (.bipush 49, 2) := by decide +kernel
theorem dX9_init_184 : decode cX9_init 184 = .ok (.newarray .int, 2) := by decide +kernel
theorem dX9_init_186 : decode cX9_init 186 = .ok (.putfield 74, 3) := by decide +kernel
theorem dX9_init_189 : decode cX9_init 189 = .ok (.aload_n 0, 1) := by decide +kernel
theorem dX9_init_190 : decode cX9_init 190 = .ok (.iconst 3, 1) := by decide +kernel
theorem dX9_init_191 : decode cX9_init 191 = .ok (.newarray .int, 2) := by decide +kernel
theorem dX9_init_193 : decode cX9_init 193 = .ok (.putfield 77, 3) := by decide +kernel
theorem dX9_init_196 : decode cX9_init 196 = .ok (.aload_n 0, 1) := by decide +kernel
theorem dX9_init_197 : decode cX9_init 197 = .ok (.sipush 3250, 3) := by decide +kernel
theorem dX9_init_200 : decode cX9_init 200 = .ok (.newarray .int, 2) := by decide +kernel
theorem dX9_init_202 : decode cX9_init 202 = .ok (.putfield 80, 3) := by decide +kernel
theorem dX9_init_205 : decode cX9_init 205 = .ok (.aload_n 0, 1) := by decide +kernel
theorem dX9_init_206 : decode cX9_init 206 = .ok (.sipush 161, 3) := by decide +kernel
theorem dX9_init_209 : decode cX9_init 209 = .ok (.newarray .float, 2) := by decide +kernel
theorem dX9_init_211 : decode cX9_init 211 = .ok (.putfield 83, 3) := by decide +kernel
theorem dX9_init_214 : decode cX9_init 214 = .ok (.aload_n 0, 1) := by decide +kernel
theorem dX9_init_215 : decode cX9_init 215 = .ok (.sipush 161, 3) := by decide +kernel
theorem dX9_init_218 : decode cX9_init 218 = .ok (.newarray .float, 2) := by decide +kernel
theorem dX9_init_220 : decode cX9_init 220 = .ok (.putfield 86, 3) := by decide +kernel
theorem dX9_init_223 : decode cX9_init 223 = .ok (.aload_n 0, 1) := by decide +kernel
theorem dX9_init_224 : decode cX9_init 224 = .ok (.sipush 161, 3) := by decide +kernel
theorem dX9_init_227 : decode cX9_init 227 = .ok (.newarray .int, 2) := by decide +kernel
theorem dX9_init_229 : decode cX9_init 229 = .ok (.putfield 89, 3) := by decide +kernel
theorem dX9_init_232 : decode cX9_init 232 = .ok (.aload_n 0, 1) := by decide +kernel
theorem dX9_init_233 : decode cX9_init 233 = .ok (.sipush 161, 3) := by decide +kernel
theorem dX9_init_236 : decode cX9_init 236 = .ok (.newarray .int, 2) := by decide +kernel
theorem dX9_init_238 : decode cX9_init 238 = .ok (.putfield 92, 3) := by decide +kernel
theorem dX9_init_241 : decode cX9_init 241 = .ok (.aload_n 0, 1) := by decide +kernel
theorem dX9_init_242 : decode cX9_init 242 = .ok (.bipush 16, 2) := by decide +kernel
theorem dX9_init_244 : decode cX9_init 244 = .ok (.newarray .int, 2) := by decide +kernel
theorem dX9_init_246 : decode cX9_init 246 = .ok (.putfield 95, 3) := by decide +kernel
theorem dX9_init_249 : decode cX9_init 249 = .ok (.aload_n 0, 1) := by decide +kernel
theorem dX9_init_250 : decode cX9_init 250 = .ok (.getfield 13, 3) := by decide +kernel
theorem dX9_init_253 : decode cX9_init 253 = .ok (.iconst 0, 1) := by decide +kernel
theorem dX9_init_254 : decode cX9_init 254 = .ok (.iconst 3, 1) := by decide +kernel
theorem dX9_init_255 : decode cX9_init 255 = .ok (.iastore, 1) := by decide +kernel
theorem dX9_init_256 : decode cX9_init 256 = .ok (.aload_n 0, 1) := by decide +kernel
theorem dX9_init_257 : decode cX9_init 257 = .ok (.getfield 13, 3) := by decide +kernel
theorem dX9_init_260 : decode cX9_init 260 = .ok (.iconst 1, 1) := by decide +kernel
theorem dX9_init_261 : decode cX9_init 261 = .ok (.iconst 4, 1) := by decide +kernel
theorem dX9_init_262 : decode cX9_init 262 = .ok (.iastore, 1) := by decide +kernel
theorem dX9_init_263 : decode cX9_init 263 = .ok (.aload_n 0, 1) := by decide +kernel
theorem dX9_init_264 : decode cX9_init 264 = .ok (.getfield 13, 3) := by decide +kernel
theorem dX9_init_267 : decode cX9_init 267 = .ok (.iconst 2, 1) := by decide +kernel
theorem dX9_init_268 : decode cX9_init 268 = .ok (.iconst 3, 1) := by decide +kernel
theorem dX9_init_269 : decode cX9_init 269 = .ok (.iastore, 1) := by decide +kernel
theorem dX9_init_270 : decode cX9_init 270 = .ok (.aload_n 0, 1) := by decide +kernel
theorem dX9_init_271 : decode cX9_init 271 = .ok (.getfield 13, 3) := by decide +kernel
theorem dX9_init_274 : decode cX9_init 274 = .ok (.iconst 3, 1) := by decide +kernel
theorem dX9_init_275 : decode cX9_init 275 = .ok (.iconst 4, 1) := by decide +kernel
theorem dX9_init_276 : decode cX9_init 276 = .ok (.iastore, 1) := by decide +kernel
theorem dX9_init_277 : decode cX9_init 277 = .ok (.aload_n 0, 1) := by decide +kernel
theorem dX9_init_278 : decode cX9_init 278 = .ok (.getfield 13, 3) := by decide +kernel
theorem dX9_init_281 : decode cX9_init 281 = .ok (.iconst 4, 1) := by decide +kernel
theorem dX9_init_282 : decode cX9_init 282 = .ok (.iconst 3, 1) := by decide +kernel
theorem dX9_init_283 : decode cX9_init 283 = .ok (.iastore, 1) := by decide +kernel
theorem dX9_init_284 : decode cX9_init 284 = .ok (.aload_n 0, 1) := by decide +kernel
theorem dX9_init_285 : decode cX9_init 285 = .ok (.getfield 13, 3) := by decide +kernel
theorem dX9_init_288 : decode cX9_init 288 = .ok (.iconst 5, 1) := by decide +kernel
theorem dX9_init_289 : decode cX9_init 289 = .ok (.iconst 2, 1) := by decide +kernel
theorem dX9_init_290 : decode cX9_init 290 = .ok (.iastore, 1) := by decide +kernel
theorem dX9_init_291 : decode cX9_init 291 = .ok (.aload_n 0, 1) := by decide +kernel
theorem dX9_init_292 : decode cX9_init 292 = .ok (.getfield 13, 3) := by decide +kernel
theorem dX9_init_295 : decode cX9_init 295 = .ok (.bipush 6, 2) := by decide +kernel
theorem dX9_init_297 : decode cX9_init 297 = .ok (.iconst 4, 1) := by decide +kernel
theorem dX9_init_298 : decode cX9_init 298 = .ok (.iastore, 1) := by decide +kernel
theorem dX9_init_299 : decode cX9_init 299 = .ok (.aload_n 0, 1) := by decide +kernel
theorem dX9_init_300 : decode cX9_init 300 = .ok (.getfield 13, 3) := by decide +kernel
theorem dX9_init_303 : decode cX9_init 303 = .ok (.bipush 7, 2) := by decide +kernel
theorem dX9_init_305 : decode cX9_init 305 = .ok (.iconst 4, 1) := by decide +kernel
theorem dX9_init_306 : decode cX9_init 306 = .ok (.iastore, 1) := by decide +kernel
theorem dX9_init_307 : decode cX9_init 307 = .ok (.aload_n 0, 1) := by decide +kernel
theorem dX9_init_308 : decode cX9_init 308 = .ok (.bipush 30, 2) := by decide +kernel
theorem dX9_init_310 : decode cX9_init 310 = .ok (.putfield 98, 3) := by decide +kernel
theorem dX9_init_313 : decode cX9_init 313 = .ok (.aload_n 0, 1) := by decide +kernel
theorem dX9_init_314 : decode cX9_init 314 = .ok (.iconst 3, 1) := by decide +kernel
theorem dX9_init_315 : decode cX9_init 315 = .ok (.putfield 102, 3) := by decide +kernel
theorem dX9_init_318 : decode cX9_init 318 = .ok (.aload_n 0, 1) := by decide +kernel
theorem dX9_init_319 : decode cX9_init 319 = .ok (.iconst 2, 1) := by decide +kernel
theorem dX9_init_320 : decode cX9_init 320 = .ok (.putfield 105, 3) := by decide +kernel
theorem dX9_init_323 : decode cX9_init 323 = .ok (.aload_n 0, 1) := by decide +kernel
theorem dX9_init_324 : decode cX9_init 324 = .ok (.iconst 1, 1) := by decide +kernel
theorem dX9_init_325 : decode cX9_init 325 = .ok (.putfield 108, 3) := by decide +kernel
theorem dX9_init_328 : decode cX9_init 328 = .ok (.aload_n 0, 1) := by decide +kernel
theorem dX9_init_329 : decode cX9_init 329 = .ok (.bipush 12, 2) := by decide +kernel
theorem dX9_init_331 : decode cX9_init 331 = .ok (.putfield 111, 3) := by decide +kernel
theorem dX9_init_334 : decode cX9_init 334 = .ok (.aload_n 0, 1) := by decide +kernel
theorem dX9_init_335 : decode cX9_init 335 = .ok (.bipush 50, 2) := by decide +kernel
theorem dX9_init_337 : decode cX9_init 337 = .ok (.putfield 114, 3) := by decide +kernel
theorem dX9_init_340 : decode cX9_init 340 = .ok (.aload_n 0, 1) := by decide +kernel
theorem dX9_init_341 : decode cX9_init 341 = .ok (.iconst 1, 1) := by decide +kernel
theorem dX9_init_342 : decode cX9_init 342 = .ok (.putfield 117, 3) := by decide +kernel
theorem dX9_init_345 : decode cX9_init 345 = .ok (.return_, 1) := by decide +kernel
theorem dX9_no_0 : decode cX9_no 0 = .ok (.aload_n 0, 1) := by decide +kernel
theorem dX9_no_1 : decode cX9_no 1 = .ok (.getfield 7, 3) := by decide +kernel
theorem dX9_no_4 : decode cX9_no 4 = .ok (.iload_n 1, 1) := by decide +kernel
theorem dX9_no_5 : decode cX9_no 5 = .ok (.ineg, 1) := by decide +kernel
theorem dX9_no_6 : decode cX9_no 6 = .ok (.dup2, 1) := by decide +kernel
theorem dX9_no_7 : decode cX9_no 7 = .ok (.iaload, 1) := by decide +kernel
theorem dX9_no_8 : decode cX9_no 8 = .ok (.iconst 1, 1) := by decide +kernel
theorem dX9_no_9 : decode cX9_no 9 = .ok (.iadd, 1) := by decide +kernel
theorem dX9_no_10 : decode cX9_no 10 = .ok (.iastore, 1) := by decide +kernel
theorem dX9_no_11 : decode cX9_no 11 = .ok (.iload_n 1, 1) := by decide +kernel
theorem dX9_no_12 : decode cX9_no 12 = .ok (.ireturn, 1) := by decide +kernel
theorem dX9_lowestOf_0 : decode cX9_lowestOf 0 = .ok (.aload_n 0, 1) := by decide +kernel
theorem dX9_lowestOf_1 : decode cX9_lowestOf 1 = .ok (.getfield 7, 3) := by decide +kernel
theorem dX9_lowestOf_4 : decode cX9_lowestOf 4 = .ok (.iload_n 1, 1) := by decide +kernel
theorem dX9_lowestOf_5 : decode cX9_lowestOf 5 = .ok (.ineg, 1) := by decide +kernel
theorem dX9_lowestOf_6 : decode cX9_lowestOf 6 = .ok (.dup2, 1) := by decide +kernel
theorem dX9_lowestOf_7 : decode cX9_lowestOf 7 = .ok (.iaload, 1) := by decide +kernel
theorem dX9_lowestOf_8 : decode cX9_lowestOf 8 = .ok (.iconst 1, 1) := by decide +kernel
theorem dX9_lowestOf_9 : decode cX9_lowestOf 9 = .ok (.iadd, 1) := by decide +kernel
theorem dX9_lowestOf_10 : decode cX9_lowestOf 10 = .ok (.iastore, 1) := by decide +kernel
theorem dX9_lowestOf_11 : decode cX9_lowestOf 11 = .ok (.ldc2_w 120, 3) := by decide +kernel
theorem dX9_lowestOf_14 : decode cX9_lowestOf 14 = .ok (.iload_n 1, 1) := by decide +kernel
theorem dX9_lowestOf_15 : decode cX9_lowestOf 15 = .ok (.i2l, 1) := by decide +kernel
theorem dX9_lowestOf_16 : decode cX9_lowestOf 16 = .ok (.lsub, 1) := by decide +kernel
theorem dX9_lowestOf_17 : decode cX9_lowestOf 17 = .ok (.lreturn, 1) := by decide +kernel
theorem dX9_isIn_0 : decode cX9_isIn 0 = .ok (.iload_n 0, 1) := by decide +kernel
theorem dX9_isIn_1 : decode cX9_isIn 1 = .ok (.iload_n 1, 1) := by decide +kernel
theorem dX9_isIn_2 : decode cX9_isIn 2 = .ok (.if_icmp .lt 12, 3) := by decide +kernel
theorem dX9_isIn_5 : decode cX9_isIn 5 = .ok (.iload_n 0, 1) := by decide +kernel
theorem dX9_isIn_6 : decode cX9_isIn 6 = .ok (.iload_n 2, 1) := by decide +kernel
theorem dX9_isIn_7 : decode cX9_isIn 7 = .ok (.if_icmp .gt 7, 3) := by decide +kernel
theorem dX9_isIn_10 : decode cX9_isIn 10 = .ok (.iconst 1, 1) := by decide +kernel
theorem dX9_isIn_11 : decode cX9_isIn 11 = .ok (.goto 4, 3) := by decide +kernel
theorem dX9_isIn_14 : decode cX9_isIn 14 = .ok (.iconst 0, 1) := by decide +kernel
theorem dX9_isIn_15 : decode cX9_isIn 15 = .ok (.ireturn, 1) := by decide +kernel
theorem dX9_bound_0 : decode cX9_bound 0 = .ok (.iload_n 0, 1) := by decide +kernel
theorem dX9_bound_1 : decode cX9_bound 1 = .ok (.iload_n 1, 1) := by decide +kernel
theorem dX9_bound_2 : decode cX9_bound 2 = .ok (.if_icmp .ge 8, 3) := by decide +kernel
theorem dX9_bound_5 : decode cX9_bound 5 = .ok (.bipush (-4), 2) := by decide +kernel
theorem dX9_bound_7 : decode cX9_bound 7 = .ok (.goto 14, 3) := by decide +kernel
theorem dX9_bound_10 : decode cX9_bound 10 = .ok (.iload_n 0, 1) := by decide +kernel
theorem dX9_bound_11 : decode cX9_bound 11 = .ok (.iload_n 2, 1) := by decide +kernel
theorem dX9_bound_12 : decode cX9_bound 12 = .ok (.if_icmp .le 8, 3) := by decide +kernel
theorem dX9_bound_15 : decode cX9_bound 15 = .ok (.bipush (-6), 2) := by decide +kernel
theorem dX9_bound_17 : decode cX9_bound 17 = .ok (.goto 4, 3) := by decide +kernel
theorem dX9_bound_20 : decode cX9_bound 20 = .ok (.iconst 0, 1) := by decide +kernel
theorem dX9_bound_21 : decode cX9_bound 21 = .ok (.ireturn, 1) := by decide +kernel
theorem dX9_isWord_0 : decode cX9_isWord 0 = .ok (.iload_n 1, 1) := by decide +kernel
theorem dX9_isWord_1 : decode cX9_isWord 1 = .ok (.iconst 0, 1) := by decide +kernel
theorem dX9_isWord_2 : decode cX9_isWord 2 = .ok (.aload_n 0, 1) := by decide +kernel
theorem dX9_isWord_3 : decode cX9_isWord 3 = .ok (.getfield 122, 3) := by decide +kernel
theorem dX9_isWord_6 : decode cX9_isWord 6 = .ok (.iconst 1, 1) := by decide +kernel
theorem dX9_isWord_7 : decode cX9_isWord 7 = .ok (.isub, 1) := by decide +kernel
theorem dX9_isWord_8 : decode cX9_isWord 8 = .ok (.invokestatic 125, 3) := by decide +kernel
theorem dX9_isWord_11 : decode cX9_isWord 11 = .ok (.ireturn, 1) := by decide +kernel
theorem dX9_isLetter_0 : decode cX9_isLetter 0 = .ok (.iload_n 0, 1) := by decide +kernel
theorem dX9_isLetter_1 : decode cX9_isLetter 1 = .ok (.iconst 0, 1) := by decide +kernel
theorem dX9_isLetter_2 : decode cX9_isLetter 2 = .ok (.bipush 7, 2) := by decide +kernel
theorem dX9_isLetter_4 : decode cX9_isLetter 4 = .ok (.invokestatic 125, 3) := by decide +kernel
theorem dX9_isLetter_7 : decode cX9_isLetter 7 = .ok (.ireturn, 1) := by decide +kernel
theorem dX9_stretches_0 : decode cX9_stretches 0 = .ok (.aload_n 0, 1) := by decide +kernel
theorem dX9_stretches_1 : decode cX9_stretches 1 = .ok (.getfield 129, 3) := by decide +kernel
theorem dX9_stretches_4 : decode cX9_stretches 4 = .ok (.iconst 1, 1) := by decide +kernel
theorem dX9_stretches_5 : decode cX9_stretches 5 = .ok (.if_icmp .eq 11, 3) := by decide +kernel
theorem dX9_stretches_8 : decode cX9_stretches 8 = .ok (.aload_n 0, 1) := by decide +kernel
theorem dX9_stretches_9 : decode cX9_stretches 9 = .ok (.getfield 129, 3) := by decide +kernel
theorem dX9_stretches_12 : decode cX9_stretches 12 = .ok (.iconst 3, 1) := by decide +kernel
theorem dX9_stretches_13 : decode cX9_stretches 13 = .ok (.if_icmp .ne 13, 3) := by decide +kernel
theorem dX9_stretches_16 : decode cX9_stretches 16 = .ok (.aload_n 0, 1) := by decide +kernel
theorem dX9_stretches_17 : decode cX9_stretches 17 = .ok (.getfield 105, 3) := by decide +kernel
theorem dX9_stretches_20 : decode cX9_stretches 20 = .ok (.aload_n 0, 1) := by decide +kernel
theorem dX9_stretches_21 : decode cX9_stretches 21 = .ok (.getfield 132, 3) := by decide +kernel
theorem dX9_stretches_24 : decode cX9_stretches 24 = .ok (.iadd, 1) := by decide +kernel
theorem dX9_stretches_25 : decode cX9_stretches 25 = .ok (.ireturn, 1) := by decide +kernel
theorem dX9_stretches_26 : decode cX9_stretches 26 = .ok (.aload_n 0, 1) := by decide +kernel
theorem dX9_stretches_27 : decode cX9_stretches 27 = .ok (.getfield 129, 3) := by decide +kernel
theorem dX9_stretches_30 : decode cX9_stretches 30 = .ok (.iconst 5, 1) := by decide +kernel
theorem dX9_stretches_31 : decode cX9_stretches 31 = .ok (.if_icmp .ne 17, 3) := by decide +kernel
theorem dX9_stretches_34 : decode cX9_stretches 34 = .ok (.iconst 2, 1) := by decide +kernel
theorem dX9_stretches_35 : decode cX9_stretches 35 = .ok (.aload_n 0, 1) := by decide +kernel
theorem dX9_stretches_36 : decode cX9_stretches 36 = .ok (.getfield 105, 3) := by decide +kernel
theorem dX9_stretches_39 : decode cX9_stretches 39 = .ok (.aload_n 0, 1) := by decide +kernel
theorem dX9_stretches_40 : decode cX9_stretches 40 = .ok (.getfield 132, 3) := by decide +kernel
theorem dX9_stretches_43 : decode cX9_stretches 43 = .ok (.iadd, 1) := by decide +kernel
theorem dX9_stretches_44 : decode cX9_stretches 44 = .ok (.imul, 1) := by decide +kernel
theorem dX9_stretches_45 : decode cX9_stretches 45 = .ok (.goto 7, 3) := by decide +kernel
theorem dX9_stretches_48 : decode cX9_stretches 48 = .ok (.aload_n 0, 1) := by decide +kernel
theorem dX9_stretches_49 : decode cX9_stretches 49 = .ok (.getfield 105, 3) := by decide +kernel
theorem dX9_stretches_52 : decode cX9_stretches 52 = .ok (.ireturn, 1) := by decide +kernel
theorem dX9_shrinks_0 : decode cX9_shrinks 0 = .ok (.aload_n 0, 1) := by decide +kernel
theorem dX9_shrinks_1 : decode cX9_shrinks 1 = .ok (.getfield 129, 3) := by decide +kernel
theorem dX9_shrinks_4 : decode cX9_shrinks 4 = .ok (.iconst 2, 1) := by decide +kernel
theorem dX9_shrinks_5 : decode cX9_shrinks 5 = .ok (.if_icmp .eq 16, 3) := by decide +kernel
theorem dX9_shrinks_8 : decode cX9_shrinks 8 = .ok (.aload_n 0, 1) := by decide +kernel
theorem dX9_shrinks_9 : decode cX9_shrinks 9 = .ok (.getfield 129, 3) := by decide +kernel
theorem dX9_shrinks_12 : decode cX9_shrinks 12 = .ok (.iconst 4, 1) := by decide +kernel
theorem dX9_shrinks_13 : decode cX9_shrinks 13 = .ok (.if_icmp .eq 8, 3) := by decide +kernel
theorem dX9_shrinks_16 : decode cX9_shrinks 16 = .ok (.aload_n 0, 1) := by decide +kernel
theorem dX9_shrinks_17 : decode cX9_shrinks 17 = .ok (.getfield 108, 3) := by decide +kernel
theorem dX9_shrinks_20 : decode cX9_shrinks 20 = .ok (.ireturn, 1) := by decide +kernel
theorem dX9_shrinks_21 : decode cX9_shrinks 21 = .ok (.aload_n 0, 1) := by decide +kernel
theorem dX9_shrinks_22 : decode cX9_shrinks 22 = .ok (.getfield 108, 3) := by decide +kernel
theorem dX9_shrinks_25 : decode cX9_shrinks 25 = .ok (.aload_n 0, 1) := by decide +kernel
theorem dX9_shrinks_26 : decode cX9_shrinks 26 = .ok (.getfield 102, 3) := by decide +kernel
theorem dX9_shrinks_29 : decode cX9_shrinks 29 = .ok (.if_icmp .ge 12, 3) := by decide +kernel
theorem dX9_shrinks_32 : decode cX9_shrinks 32 = .ok (.aload_n 0, 1) := by decide +kernel
theorem dX9_shrinks_33 : decode cX9_shrinks 33 = .ok (.getfield 108, 3) := by decide +kernel
theorem dX9_shrinks_36 : decode cX9_shrinks 36 = .ok (.iconst 1, 1) := by decide +kernel
theorem dX9_shrinks_37 : decode cX9_shrinks 37 = .ok (.iadd, 1) := by decide +kernel
theorem dX9_shrinks_38 : decode cX9_shrinks 38 = .ok (.goto 7, 3) := by decide +kernel
theorem dX9_shrinks_41 : decode cX9_shrinks 41 = .ok (.aload_n 0, 1) := by decide +kernel
theorem dX9_shrinks_42 : decode cX9_shrinks 42 = .ok (.getfield 102, 3) := by decide +kernel
theorem dX9_shrinks_45 : decode cX9_shrinks 45 = .ok (.ireturn, 1) := by decide +kernel
theorem dX9_penalty_0 : decode cX9_penalty 0 = .ok (.aload_n 0, 1) := by decide +kernel
theorem dX9_penalty_1 : decode cX9_penalty 1 = .ok (.getfield 129, 3) := by decide +kernel
theorem dX9_penalty_4 : decode cX9_penalty 4 = .ok (.iconst 2, 1) := by decide +kernel
theorem dX9_penalty_5 : decode cX9_penalty 5 = .ok (.if_icmp .eq 11, 3) := by decide +kernel
theorem dX9_penalty_8 : decode cX9_penalty 8 = .ok (.aload_n 0, 1) := by decide +kernel
theorem dX9_penalty_9 : decode cX9_penalty 9 = .ok (.getfield 129, 3) := by decide +kernel
theorem dX9_penalty_12 : decode cX9_penalty 12 = .ok (.iconst 4, 1) := by decide +kernel
theorem dX9_penalty_13 : decode cX9_penalty 13 = .ok (.if_icmp .ne 10, 3) := by decide +kernel
theorem dX9_penalty_16 : decode cX9_penalty 16 = .ok (.aload_n 0, 1) := by decide +kernel
theorem dX9_penalty_17 : decode cX9_penalty 17 = .ok (.getfield 114, 3) := by decide +kernel
theorem dX9_penalty_20 : decode cX9_penalty 20 = .ok (.iconst 2, 1) := by decide +kernel
theorem dX9_penalty_21 : decode cX9_penalty 21 = .ok (.idiv, 1) := by decide +kernel
theorem dX9_penalty_22 : decode cX9_penalty 22 = .ok (.ireturn, 1) := by decide +kernel
theorem dX9_penalty_23 : decode cX9_penalty 23 = .ok (.aload_n 0, 1) := by decide +kernel
theorem dX9_penalty_24 : decode cX9_penalty 24 = .ok (.getfield 129, 3) := by decide +kernel
theorem dX9_penalty_27 : decode cX9_penalty 27 = .ok (.iconst 5, 1) := by decide +kernel
theorem dX9_penalty_28 : decode cX9_penalty 28 = .ok (.if_icmp .ne 15, 3) := by decide +kernel
theorem dX9_penalty_31 : decode cX9_penalty 31 = .ok (.aload_n 0, 1) := by decide +kernel
theorem dX9_penalty_32 : decode cX9_penalty 32 = .ok (.getfield 114, 3) := by decide +kernel
theorem dX9_penalty_35 : decode cX9_penalty 35 = .ok (.aload_n 0, 1) := by decide +kernel
theorem dX9_penalty_36 : decode cX9_penalty 36 = .ok (.getfield 132, 3) := by decide +kernel
theorem dX9_penalty_39 : decode cX9_penalty 39 = .ok (.iadd, 1) := by decide +kernel
theorem dX9_penalty_40 : decode cX9_penalty 40 = .ok (.goto 7, 3) := by decide +kernel
theorem dX9_penalty_43 : decode cX9_penalty 43 = .ok (.aload_n 0, 1) := by decide +kernel
theorem dX9_penalty_44 : decode cX9_penalty 44 = .ok (.getfield 114, 3) := by decide +kernel
theorem dX9_penalty_47 : decode cX9_penalty 47 = .ok (.ireturn, 1) := by decide +kernel
theorem dX9_standsAt_0 : decode cX9_standsAt 0 = .ok (.iconst 0, 1) := by decide +kernel
theorem dX9_standsAt_1 : decode cX9_standsAt 1 = .ok (.istore 4, 2) := by decide +kernel
theorem dX9_standsAt_3 : decode cX9_standsAt 3 = .ok (.iload 4, 2) := by decide +kernel
theorem dX9_standsAt_5 : decode cX9_standsAt 5 = .ok (.aload_n 0, 1) := by decide +kernel
theorem dX9_standsAt_6 : decode cX9_standsAt 6 = .ok (.getfield 25, 3) := by decide +kernel
theorem dX9_standsAt_9 : decode cX9_standsAt 9 = .ok (.iload_n 1, 1) := by decide +kernel
theorem dX9_standsAt_10 : decode cX9_standsAt 10 = .ok (.iaload, 1) := by decide +kernel
theorem dX9_standsAt_11 : decode cX9_standsAt 11 = .ok (.if_icmp .ge 39, 3) := by decide +kernel
theorem dX9_standsAt_14 : decode cX9_standsAt 14 = .ok (.aload_n 0, 1) := by decide +kernel
theorem dX9_standsAt_15 : decode cX9_standsAt 15 = .ok (.getfield 19, 3) := by decide +kernel
theorem dX9_standsAt_18 : decode cX9_standsAt 18 = .ok (.bipush 12, 2) := by decide +kernel
theorem dX9_standsAt_20 : decode cX9_standsAt 20 = .ok (.iload_n 2, 1) := by decide +kernel
theorem dX9_standsAt_21 : decode cX9_standsAt 21 = .ok (.imul, 1) := by decide +kernel
theorem dX9_standsAt_22 : decode cX9_standsAt 22 = .ok (.iload_n 3, 1) := by decide +kernel
theorem dX9_standsAt_23 : decode cX9_standsAt 23 = .ok (.iadd, 1) := by decide +kernel
theorem dX9_standsAt_24 : decode cX9_standsAt 24 = .ok (.iload 4, 2) := by decide +kernel
theorem dX9_standsAt_26 : decode cX9_standsAt 26 = .ok (.iadd, 1) := by decide +kernel
theorem dX9_standsAt_27 : decode cX9_standsAt 27 = .ok (.iaload, 1) := by decide +kernel
theorem dX9_standsAt_28 : decode cX9_standsAt 28 = .ok (.aload_n 0, 1) := by decide +kernel
theorem dX9_standsAt_29 : decode cX9_standsAt 29 = .ok (.getfield 28, 3) := by decide +kernel
theorem dX9_standsAt_32 : decode cX9_standsAt 32 = .ok (.iconst 3, 1) := by decide +kernel
theorem dX9_standsAt_33 : decode cX9_standsAt 33 = .ok (.iload_n 1, 1) := by decide +kernel
theorem dX9_standsAt_34 : decode cX9_standsAt 34 = .ok (.imul, 1) := by decide +kernel
theorem dX9_standsAt_35 : decode cX9_standsAt 35 = .ok (.iload 4, 2) := by decide +kernel
theorem dX9_standsAt_37 : decode cX9_standsAt 37 = .ok (.iadd, 1) := by decide +kernel
theorem dX9_standsAt_38 : decode cX9_standsAt 38 = .ok (.iaload, 1) := by decide +kernel
theorem dX9_standsAt_39 : decode cX9_standsAt 39 = .ok (.if_icmp .eq 5, 3) := by decide +kernel
theorem dX9_standsAt_42 : decode cX9_standsAt 42 = .ok (.iconst 0, 1) := by decide +kernel
theorem dX9_standsAt_43 : decode cX9_standsAt 43 = .ok (.ireturn, 1) := by decide +kernel
theorem dX9_standsAt_44 : decode cX9_standsAt 44 = .ok (.iinc 4 1, 3) := by decide +kernel
theorem dX9_standsAt_47 : decode cX9_standsAt 47 = .ok (.goto (-44), 3) := by decide +kernel
theorem dX9_standsAt_50 : decode cX9_standsAt 50 = .ok (.iconst 1, 1) := by decide +kernel
theorem dX9_standsAt_51 : decode cX9_standsAt 51 = .ok (.ireturn, 1) := by decide +kernel
theorem dX9_valueOf_0 : decode cX9_valueOf 0 = .ok (.iconst 0, 1) := by decide +kernel
theorem dX9_valueOf_1 : decode cX9_valueOf 1 = .ok (.istore_n 3, 1) := by decide +kernel
theorem dX9_valueOf_2 : decode cX9_valueOf 2 = .ok (.iconst 0, 1) := by decide +kernel
theorem dX9_valueOf_3 : decode cX9_valueOf 3 = .ok (.istore 4, 2) := by decide +kernel
theorem dX9_valueOf_5 : decode cX9_valueOf 5 = .ok (.iload 4, 2) := by decide +kernel
theorem dX9_valueOf_7 : decode cX9_valueOf 7 = .ok (.aload_n 0, 1) := by decide +kernel
theorem dX9_valueOf_8 : decode cX9_valueOf 8 = .ok (.getfield 135, 3) := by decide +kernel
theorem dX9_valueOf_11 : decode cX9_valueOf 11 = .ok (.if_icmp .ge 91, 3) := by decide +kernel
theorem dX9_valueOf_14 : decode cX9_valueOf 14 = .ok (.iload_n 2, 1) := by decide +kernel
theorem dX9_valueOf_15 : decode cX9_valueOf 15 = .ok (.aload_n 0, 1) := by decide +kernel
theorem dX9_valueOf_16 : decode cX9_valueOf 16 = .ok (.getfield 31, 3) := by decide +kernel
theorem dX9_valueOf_19 : decode cX9_valueOf 19 = .ok (.iload 4, 2) := by decide +kernel
theorem dX9_valueOf_21 : decode cX9_valueOf 21 = .ok (.iaload, 1) := by decide +kernel
theorem dX9_valueOf_22 : decode cX9_valueOf 22 = .ok (.isub, 1) := by decide +kernel
theorem dX9_valueOf_23 : decode cX9_valueOf 23 = .ok (.istore 5, 2) := by decide +kernel
theorem dX9_valueOf_25 : decode cX9_valueOf 25 = .ok (.iload 5, 2) := by decide +kernel
theorem dX9_valueOf_27 : decode cX9_valueOf 27 = .ok (.ifCond .lt 38, 3) := by decide +kernel
theorem dX9_valueOf_30 : decode cX9_valueOf 30 = .ok (.iload 5, 2) := by decide +kernel
theorem dX9_valueOf_32 : decode cX9_valueOf 32 = .ok (.aload_n 0, 1) := by decide +kernel
theorem dX9_valueOf_33 : decode cX9_valueOf 33 = .ok (.getfield 25, 3) := by decide +kernel
theorem dX9_valueOf_36 : decode cX9_valueOf 36 = .ok (.iload 4, 2) := by decide +kernel
theorem dX9_valueOf_38 : decode cX9_valueOf 38 = .ok (.iaload, 1) := by decide +kernel
theorem dX9_valueOf_39 : decode cX9_valueOf 39 = .ok (.iadd, 1) := by decide +kernel
theorem dX9_valueOf_40 : decode cX9_valueOf 40 = .ok (.aload_n 0, 1) := by decide +kernel
theorem dX9_valueOf_41 : decode cX9_valueOf 41 = .ok (.getfield 16, 3) := by decide +kernel
theorem dX9_valueOf_44 : decode cX9_valueOf 44 = .ok (.iload_n 1, 1) := by decide +kernel
theorem dX9_valueOf_45 : decode cX9_valueOf 45 = .ok (.iaload, 1) := by decide +kernel
theorem dX9_valueOf_46 : decode cX9_valueOf 46 = .ok (.if_icmp .gt 19, 3) := by decide +kernel
theorem dX9_valueOf_49 : decode cX9_valueOf 49 = .ok (.aload_n 0, 1) := by decide +kernel
theorem dX9_valueOf_50 : decode cX9_valueOf 50 = .ok (.iload 4, 2) := by decide +kernel
theorem dX9_valueOf_52 : decode cX9_valueOf 52 = .ok (.iload_n 1, 1) := by decide +kernel
theorem dX9_valueOf_53 : decode cX9_valueOf 53 = .ok (.iload 5, 2) := by decide +kernel
theorem dX9_valueOf_55 : decode cX9_valueOf 55 = .ok (.invokevirtual 138, 3) := by decide +kernel
theorem dX9_valueOf_58 : decode cX9_valueOf 58 = .ok (.ifCond .eq 7, 3) := by decide +kernel
theorem dX9_valueOf_61 : decode cX9_valueOf 61 = .ok (.iconst 1, 1) := by decide +kernel
theorem dX9_valueOf_62 : decode cX9_valueOf 62 = .ok (.goto 4, 3) := by decide +kernel
theorem dX9_valueOf_65 : decode cX9_valueOf 65 = .ok (.iconst 0, 1) := by decide +kernel
theorem dX9_valueOf_66 : decode cX9_valueOf 66 = .ok (.istore 6, 2) := by decide +kernel
theorem dX9_valueOf_68 : decode cX9_valueOf 68 = .ok (.iload 6, 2) := by decide +kernel
theorem dX9_valueOf_70 : decode cX9_valueOf 70 = .ok (.ifCond .eq 24, 3) := by decide +kernel
theorem dX9_valueOf_73 : decode cX9_valueOf 73 = .ok (.aload_n 0, 1) := by decide +kernel
theorem dX9_valueOf_74 : decode cX9_valueOf 74 = .ok (.getfield 34, 3) := by decide +kernel
theorem dX9_valueOf_77 : decode cX9_valueOf 77 = .ok (.iload 4, 2) := by decide +kernel
theorem dX9_valueOf_79 : decode cX9_valueOf 79 = .ok (.iaload, 1) := by decide +kernel
theorem dX9_valueOf_80 : decode cX9_valueOf 80 = .ok (.iload_n 3, 1) := by decide +kernel
theorem dX9_valueOf_81 : decode cX9_valueOf 81 = .ok (.if_icmp .le 13, 3) := by decide +kernel
theorem dX9_valueOf_84 : decode cX9_valueOf 84 = .ok (.aload_n 0, 1) := by decide +kernel
theorem dX9_valueOf_85 : decode cX9_valueOf 85 = .ok (.getfield 34, 3) := by decide +kernel
theorem dX9_valueOf_88 : decode cX9_valueOf 88 = .ok (.iload 4, 2) := by decide +kernel
theorem dX9_valueOf_90 : decode cX9_valueOf 90 = .ok (.iaload, 1) := by decide +kernel
theorem dX9_valueOf_91 : decode cX9_valueOf 91 = .ok (.goto 4, 3) := by decide +kernel
theorem dX9_valueOf_94 : decode cX9_valueOf 94 = .ok (.iload_n 3, 1) := by decide +kernel
theorem dX9_valueOf_95 : decode cX9_valueOf 95 = .ok (.istore_n 3, 1) := by decide +kernel
theorem dX9_valueOf_96 : decode cX9_valueOf 96 = .ok (.iinc 4 1, 3) := by decide +kernel
theorem dX9_valueOf_99 : decode cX9_valueOf 99 = .ok (.goto (-94), 3) := by decide +kernel
theorem dX9_valueOf_102 : decode cX9_valueOf 102 = .ok (.iload_n 3, 1) := by decide +kernel
theorem dX9_valueOf_103 : decode cX9_valueOf 103 = .ok (.ireturn, 1) := by decide +kernel
theorem dX9_mayBreak_0 : decode cX9_mayBreak 0 = .ok (.aload_n 0, 1) := by decide +kernel
theorem dX9_mayBreak_1 : decode cX9_mayBreak 1 = .ok (.getfield 129, 3) := by decide +kernel
theorem dX9_mayBreak_4 : decode cX9_mayBreak 4 = .ok (.iconst 3, 1) := by decide +kernel
theorem dX9_mayBreak_5 : decode cX9_mayBreak 5 = .ok (.if_icmp .eq 24, 3) := by decide +kernel
theorem dX9_mayBreak_8 : decode cX9_mayBreak 8 = .ok (.aload_n 0, 1) := by decide +kernel
theorem dX9_mayBreak_9 : decode cX9_mayBreak 9 = .ok (.getfield 129, 3) := by decide +kernel
theorem dX9_mayBreak_12 : decode cX9_mayBreak 12 = .ok (.iconst 4, 1) := by decide +kernel
theorem dX9_mayBreak_13 : decode cX9_mayBreak 13 = .ok (.if_icmp .ne 18, 3) := by decide +kernel
theorem dX9_mayBreak_16 : decode cX9_mayBreak 16 = .ok (.aload_n 0, 1) := by decide +kernel
theorem dX9_mayBreak_17 : decode cX9_mayBreak 17 = .ok (.getfield 16, 3) := by decide +kernel
theorem dX9_mayBreak_20 : decode cX9_mayBreak 20 = .ok (.iload_n 1, 1) := by decide +kernel
theorem dX9_mayBreak_21 : decode cX9_mayBreak 21 = .ok (.iaload, 1) := by decide +kernel
theorem dX9_mayBreak_22 : decode cX9_mayBreak 22 = .ok (.aload_n 0, 1) := by decide +kernel
theorem dX9_mayBreak_23 : decode cX9_mayBreak 23 = .ok (.getfield 132, 3) := by decide +kernel
theorem dX9_mayBreak_26 : decode cX9_mayBreak 26 = .ok (.if_icmp .gt 5, 3) := by decide +kernel
theorem dX9_mayBreak_29 : decode cX9_mayBreak 29 = .ok (.iconst 0, 1) := by decide +kernel
theorem dX9_mayBreak_30 : decode cX9_mayBreak 30 = .ok (.ireturn, 1) := by decide +kernel
theorem dX9_mayBreak_31 : decode cX9_mayBreak 31 = .ok (.iload_n 2, 1) := by decide +kernel
theorem dX9_mayBreak_32 : decode cX9_mayBreak 32 = .ok (.iconst 2, 1) := by decide +kernel
theorem dX9_mayBreak_33 : decode cX9_mayBreak 33 = .ok (.if_icmp .lt 31, 3) := by decide +kernel
theorem dX9_mayBreak_36 : decode cX9_mayBreak 36 = .ok (.iload_n 2, 1) := by decide +kernel
theorem dX9_mayBreak_37 : decode cX9_mayBreak 37 = .ok (.aload_n 0, 1) := by decide +kernel
theorem dX9_mayBreak_38 : decode cX9_mayBreak 38 = .ok (.getfield 16, 3) := by decide +kernel
theorem dX9_mayBreak_41 : decode cX9_mayBreak 41 = .ok (.iload_n 1, 1) := by decide +kernel
theorem dX9_mayBreak_42 : decode cX9_mayBreak 42 = .ok (.iaload, 1) := by decide +kernel
theorem dX9_mayBreak_43 : decode cX9_mayBreak 43 = .ok (.iconst 2, 1) := by decide +kernel
theorem dX9_mayBreak_44 : decode cX9_mayBreak 44 = .ok (.isub, 1) := by decide +kernel
theorem dX9_mayBreak_45 : decode cX9_mayBreak 45 = .ok (.if_icmp .gt 19, 3) := by decide +kernel
theorem dX9_mayBreak_48 : decode cX9_mayBreak 48 = .ok (.aload_n 0, 1) := by decide +kernel
theorem dX9_mayBreak_49 : decode cX9_mayBreak 49 = .ok (.iload_n 1, 1) := by decide +kernel
theorem dX9_mayBreak_50 : decode cX9_mayBreak 50 = .ok (.iload_n 2, 1) := by decide +kernel
theorem dX9_mayBreak_51 : decode cX9_mayBreak 51 = .ok (.invokevirtual 141, 3) := by decide +kernel
theorem dX9_mayBreak_54 : decode cX9_mayBreak 54 = .ok (.iconst 2, 1) := by decide +kernel
theorem dX9_mayBreak_55 : decode cX9_mayBreak 55 = .ok (.irem, 1) := by decide +kernel
theorem dX9_mayBreak_56 : decode cX9_mayBreak 56 = .ok (.iconst 1, 1) := by decide +kernel
theorem dX9_mayBreak_57 : decode cX9_mayBreak 57 = .ok (.if_icmp .ne 7, 3) := by decide +kernel
theorem dX9_mayBreak_60 : decode cX9_mayBreak 60 = .ok (.iconst 1, 1) := by decide +kernel
theorem dX9_mayBreak_61 : decode cX9_mayBreak 61 = .ok (.goto 4, 3) := by decide +kernel
theorem dX9_mayBreak_64 : decode cX9_mayBreak 64 = .ok (.iconst 0, 1) := by decide +kernel
theorem dX9_mayBreak_65 : decode cX9_mayBreak 65 = .ok (.ireturn, 1) := by decide +kernel
theorem dX9_cuts_0 : decode cX9_cuts 0 = .ok (.aload_n 0, 1) := by decide +kernel
theorem dX9_cuts_1 : decode cX9_cuts 1 = .ok (.getfield 43, 3) := by decide +kernel
theorem dX9_cuts_4 : decode cX9_cuts 4 = .ok (.aload_n 0, 1) := by decide +kernel
theorem dX9_cuts_5 : decode cX9_cuts 5 = .ok (.getfield 145, 3) := by decide +kernel
theorem dX9_cuts_8 : decode cX9_cuts 8 = .ok (.iload_n 3, 1) := by decide +kernel
theorem dX9_cuts_9 : decode cX9_cuts 9 = .ok (.iastore, 1) := by decide +kernel
theorem dX9_cuts_10 : decode cX9_cuts 10 = .ok (.aload_n 0, 1) := by decide +kernel
theorem dX9_cuts_11 : decode cX9_cuts 11 = .ok (.getfield 46, 3) := by decide +kernel
theorem dX9_cuts_14 : decode cX9_cuts 14 = .ok (.aload_n 0, 1) := by decide +kernel
theorem dX9_cuts_15 : decode cX9_cuts 15 = .ok (.getfield 145, 3) := by decide +kernel
theorem dX9_cuts_18 : decode cX9_cuts 18 = .ok (.iload_n 1, 1) := by decide +kernel
theorem dX9_cuts_19 : decode cX9_cuts 19 = .ok (.iastore, 1) := by decide +kernel
theorem dX9_cuts_20 : decode cX9_cuts 20 = .ok (.aload_n 0, 1) := by decide +kernel
theorem dX9_cuts_21 : decode cX9_cuts 21 = .ok (.getfield 37, 3) := by decide +kernel
theorem dX9_cuts_24 : decode cX9_cuts 24 = .ok (.aload_n 0, 1) := by decide +kernel
theorem dX9_cuts_25 : decode cX9_cuts 25 = .ok (.getfield 145, 3) := by decide +kernel
theorem dX9_cuts_28 : decode cX9_cuts 28 = .ok (.iconst 1, 1) := by decide +kernel
theorem dX9_cuts_29 : decode cX9_cuts 29 = .ok (.iadd, 1) := by decide +kernel
theorem dX9_cuts_30 : decode cX9_cuts 30 = .ok (.aload_n 0, 1) := by decide +kernel
theorem dX9_cuts_31 : decode cX9_cuts 31 = .ok (.getfield 37, 3) := by decide +kernel
theorem dX9_cuts_34 : decode cX9_cuts 34 = .ok (.aload_n 0, 1) := by decide +kernel
theorem dX9_cuts_35 : decode cX9_cuts 35 = .ok (.getfield 145, 3) := by decide +kernel
theorem dX9_cuts_38 : decode cX9_cuts 38 = .ok (.iaload, 1) := by decide +kernel
theorem dX9_cuts_39 : decode cX9_cuts 39 = .ok (.iload_n 2, 1) := by decide +kernel
theorem dX9_cuts_40 : decode cX9_cuts 40 = .ok (.iadd, 1) := by decide +kernel
theorem dX9_cuts_41 : decode cX9_cuts 41 = .ok (.iastore, 1) := by decide +kernel
theorem dX9_cuts_42 : decode cX9_cuts 42 = .ok (.aload_n 0, 1) := by decide +kernel
theorem dX9_cuts_43 : decode cX9_cuts 43 = .ok (.getfield 40, 3) := by decide +kernel
theorem dX9_cuts_46 : decode cX9_cuts 46 = .ok (.aload_n 0, 1) := by decide +kernel
theorem dX9_cuts_47 : decode cX9_cuts 47 = .ok (.getfield 145, 3) := by decide +kernel
theorem dX9_cuts_50 : decode cX9_cuts 50 = .ok (.iconst 1, 1) := by decide +kernel
theorem dX9_cuts_51 : decode cX9_cuts 51 = .ok (.iadd, 1) := by decide +kernel
theorem dX9_cuts_52 : decode cX9_cuts 52 = .ok (.aload_n 0, 1) := by decide +kernel
theorem dX9_cuts_53 : decode cX9_cuts 53 = .ok (.getfield 40, 3) := by decide +kernel
theorem dX9_cuts_56 : decode cX9_cuts 56 = .ok (.aload_n 0, 1) := by decide +kernel
theorem dX9_cuts_57 : decode cX9_cuts 57 = .ok (.getfield 145, 3) := by decide +kernel
theorem dX9_cuts_60 : decode cX9_cuts 60 = .ok (.iaload, 1) := by decide +kernel
theorem dX9_cuts_61 : decode cX9_cuts 61 = .ok (.iload_n 3, 1) := by decide +kernel
theorem dX9_cuts_62 : decode cX9_cuts 62 = .ok (.ifCond .ne 7, 3) := by decide +kernel
theorem dX9_cuts_65 : decode cX9_cuts 65 = .ok (.iconst 1, 1) := by decide +kernel
theorem dX9_cuts_66 : decode cX9_cuts 66 = .ok (.goto 4, 3) := by decide +kernel
theorem dX9_cuts_69 : decode cX9_cuts 69 = .ok (.iconst 0, 1) := by decide +kernel
theorem dX9_cuts_70 : decode cX9_cuts 70 = .ok (.iadd, 1) := by decide +kernel
theorem dX9_cuts_71 : decode cX9_cuts 71 = .ok (.iastore, 1) := by decide +kernel
theorem dX9_cuts_72 : decode cX9_cuts 72 = .ok (.aload_n 0, 1) := by decide +kernel
theorem dX9_cuts_73 : decode cX9_cuts 73 = .ok (.dup, 1) := by decide +kernel
theorem dX9_cuts_74 : decode cX9_cuts 74 = .ok (.getfield 145, 3) := by decide +kernel
theorem dX9_cuts_77 : decode cX9_cuts 77 = .ok (.iconst 1, 1) := by decide +kernel
theorem dX9_cuts_78 : decode cX9_cuts 78 = .ok (.iadd, 1) := by decide +kernel
theorem dX9_cuts_79 : decode cX9_cuts 79 = .ok (.putfield 145, 3) := by decide +kernel
theorem dX9_cuts_82 : decode cX9_cuts 82 = .ok (.return_, 1) := by decide +kernel
theorem dX9_cutsWord_0 : decode cX9_cutsWord 0 = .ok (.iconst 0, 1) := by decide +kernel
theorem dX9_cutsWord_1 : decode cX9_cutsWord 1 = .ok (.istore_n 2, 1) := by decide +kernel
theorem dX9_cutsWord_2 : decode cX9_cutsWord 2 = .ok (.iconst 0, 1) := by decide +kernel
theorem dX9_cutsWord_3 : decode cX9_cutsWord 3 = .ok (.istore_n 3, 1) := by decide +kernel
theorem dX9_cutsWord_4 : decode cX9_cutsWord 4 = .ok (.iload_n 3, 1) := by decide +kernel
theorem dX9_cutsWord_5 : decode cX9_cutsWord 5 = .ok (.aload_n 0, 1) := by decide +kernel
theorem dX9_cutsWord_6 : decode cX9_cutsWord 6 = .ok (.getfield 16, 3) := by decide +kernel
theorem dX9_cutsWord_9 : decode cX9_cutsWord 9 = .ok (.iload_n 1, 1) := by decide +kernel
theorem dX9_cutsWord_10 : decode cX9_cutsWord 10 = .ok (.iaload, 1) := by decide +kernel
theorem dX9_cutsWord_11 : decode cX9_cutsWord 11 = .ok (.if_icmp .ge 46, 3) := by decide +kernel
theorem dX9_cutsWord_14 : decode cX9_cutsWord 14 = .ok (.aload_n 0, 1) := by decide +kernel
theorem dX9_cutsWord_15 : decode cX9_cutsWord 15 = .ok (.iload_n 1, 1) := by decide +kernel
theorem dX9_cutsWord_16 : decode cX9_cutsWord 16 = .ok (.iload_n 3, 1) := by decide +kernel
theorem dX9_cutsWord_17 : decode cX9_cutsWord 17 = .ok (.invokevirtual 148, 3) := by decide +kernel
theorem dX9_cutsWord_20 : decode cX9_cutsWord 20 = .ok (.ifCond .eq 12, 3) := by decide +kernel
theorem dX9_cutsWord_23 : decode cX9_cutsWord 23 = .ok (.aload_n 0, 1) := by decide +kernel
theorem dX9_cutsWord_24 : decode cX9_cutsWord 24 = .ok (.iload_n 1, 1) := by decide +kernel
theorem dX9_cutsWord_25 : decode cX9_cutsWord 25 = .ok (.iload_n 2, 1) := by decide +kernel
theorem dX9_cutsWord_26 : decode cX9_cutsWord 26 = .ok (.iconst 1, 1) := by decide +kernel
theorem dX9_cutsWord_27 : decode cX9_cutsWord 27 = .ok (.invokevirtual 152, 3) := by decide +kernel
theorem dX9_cutsWord_30 : decode cX9_cutsWord 30 = .ok (.iconst 0, 1) := by decide +kernel
theorem dX9_cutsWord_31 : decode cX9_cutsWord 31 = .ok (.istore_n 2, 1) := by decide +kernel
theorem dX9_cutsWord_32 : decode cX9_cutsWord 32 = .ok (.iload_n 2, 1) := by decide +kernel
theorem dX9_cutsWord_33 : decode cX9_cutsWord 33 = .ok (.aload_n 0, 1) := by decide +kernel
theorem dX9_cutsWord_34 : decode cX9_cutsWord 34 = .ok (.getfield 13, 3) := by decide +kernel
theorem dX9_cutsWord_37 : decode cX9_cutsWord 37 = .ok (.aload_n 0, 1) := by decide +kernel
theorem dX9_cutsWord_38 : decode cX9_cutsWord 38 = .ok (.getfield 19, 3) := by decide +kernel
theorem dX9_cutsWord_41 : decode cX9_cutsWord 41 = .ok (.bipush 12, 2) := by decide +kernel
theorem dX9_cutsWord_43 : decode cX9_cutsWord 43 = .ok (.iload_n 1, 1) := by decide +kernel
theorem dX9_cutsWord_44 : decode cX9_cutsWord 44 = .ok (.imul, 1) := by decide +kernel
theorem dX9_cutsWord_45 : decode cX9_cutsWord 45 = .ok (.iload_n 3, 1) := by decide +kernel
theorem dX9_cutsWord_46 : decode cX9_cutsWord 46 = .ok (.iadd, 1) := by decide +kernel
theorem dX9_cutsWord_47 : decode cX9_cutsWord 47 = .ok (.iaload, 1) := by decide +kernel
theorem dX9_cutsWord_48 : decode cX9_cutsWord 48 = .ok (.iaload, 1) := by decide +kernel
theorem dX9_cutsWord_49 : decode cX9_cutsWord 49 = .ok (.iadd, 1) := by decide +kernel
theorem dX9_cutsWord_50 : decode cX9_cutsWord 50 = .ok (.istore_n 2, 1) := by decide +kernel
theorem dX9_cutsWord_51 : decode cX9_cutsWord 51 = .ok (.iinc 3 1, 3) := by decide +kernel
theorem dX9_cutsWord_54 : decode cX9_cutsWord 54 = .ok (.goto (-50), 3) := by decide +kernel
theorem dX9_cutsWord_57 : decode cX9_cutsWord 57 = .ok (.aload_n 0, 1) := by decide +kernel
theorem dX9_cutsWord_58 : decode cX9_cutsWord 58 = .ok (.iload_n 1, 1) := by decide +kernel
theorem dX9_cutsWord_59 : decode cX9_cutsWord 59 = .ok (.iload_n 2, 1) := by decide +kernel
theorem dX9_cutsWord_60 : decode cX9_cutsWord 60 = .ok (.aload_n 0, 1) := by decide +kernel
theorem dX9_cutsWord_61 : decode cX9_cutsWord 61 = .ok (.getfield 22, 3) := by decide +kernel
theorem dX9_cutsWord_64 : decode cX9_cutsWord 64 = .ok (.iload_n 1, 1) := by decide +kernel
theorem dX9_cutsWord_65 : decode cX9_cutsWord 65 = .ok (.iaload, 1) := by decide +kernel
theorem dX9_cutsWord_66 : decode cX9_cutsWord 66 = .ok (.iconst 1, 1) := by decide +kernel
theorem dX9_cutsWord_67 : decode cX9_cutsWord 67 = .ok (.if_icmp .ne 7, 3) := by decide +kernel
theorem dX9_cutsWord_70 : decode cX9_cutsWord 70 = .ok (.iconst 2, 1) := by decide +kernel
theorem dX9_cutsWord_71 : decode cX9_cutsWord 71 = .ok (.goto 18, 3) := by decide +kernel
theorem dX9_cutsWord_74 : decode cX9_cutsWord 74 = .ok (.iload_n 1, 1) := by decide +kernel
theorem dX9_cutsWord_75 : decode cX9_cutsWord 75 = .ok (.aload_n 0, 1) := by decide +kernel
theorem dX9_cutsWord_76 : decode cX9_cutsWord 76 = .ok (.getfield 122, 3) := by decide +kernel
theorem dX9_cutsWord_79 : decode cX9_cutsWord 79 = .ok (.iconst 1, 1) := by decide +kernel
theorem dX9_cutsWord_80 : decode cX9_cutsWord 80 = .ok (.isub, 1) := by decide +kernel
theorem dX9_cutsWord_81 : decode cX9_cutsWord 81 = .ok (.if_icmp .ne 7, 3) := by decide +kernel
theorem dX9_cutsWord_84 : decode cX9_cutsWord 84 = .ok (.iconst 3, 1) := by decide +kernel
theorem dX9_cutsWord_85 : decode cX9_cutsWord 85 = .ok (.goto 4, 3) := by decide +kernel
theorem dX9_cutsWord_88 : decode cX9_cutsWord 88 = .ok (.iconst 0, 1) := by decide +kernel
theorem dX9_cutsWord_89 : decode cX9_cutsWord 89 = .ok (.invokevirtual 152, 3) := by decide +kernel
theorem dX9_cutsWord_92 : decode cX9_cutsWord 92 = .ok (.return_, 1) := by decide +kernel
theorem dX9_findFragments_0 : decode cX9_findFragments 0 = .ok (.aload_n 0, 1) := by decide +kernel
theorem dX9_findFragments_1 : decode cX9_findFragments 1 = .ok (.iconst 0, 1) := by decide +kernel
theorem dX9_findFragments_2 : decode cX9_findFragments 2 = .ok (.putfield 145, 3) := by decide +kernel
theorem dX9_findFragments_5 : decode cX9_findFragments 5 = .ok (.iconst 0, 1) := by decide +kernel
theorem dX9_findFragments_6 : decode cX9_findFragments 6 = .ok (.istore_n 1, 1) := by decide +kernel
theorem dX9_findFragments_7 : decode cX9_findFragments 7 = .ok (.iload_n 1, 1) := by decide +kernel
theorem dX9_findFragments_8 : decode cX9_findFragments 8 = .ok (.aload_n 0, 1) := by decide +kernel
theorem dX9_findFragments_9 : decode cX9_findFragments 9 = .ok (.getfield 122, 3) := by decide +kernel
theorem dX9_findFragments_12 : decode cX9_findFragments 12 = .ok (.if_icmp .ge 14, 3) := by decide +kernel
theorem dX9_findFragments_15 : decode cX9_findFragments 15 = .ok (.aload_n 0, 1) := by decide +kernel
theorem dX9_findFragments_16 : decode cX9_findFragments 16 = .ok (.iload_n 1, 1) := by decide +kernel
theorem dX9_findFragments_17 : decode cX9_findFragments 17 = .ok (.invokevirtual 156, 3) := by decide +kernel
theorem dX9_findFragments_20 : decode cX9_findFragments 20 = .ok (.iinc 1 1, 3) := by decide +kernel
theorem dX9_findFragments_23 : decode cX9_findFragments 23 = .ok (.goto (-16), 3) := by decide +kernel
theorem dX9_findFragments_26 : decode cX9_findFragments 26 = .ok (.return_, 1) := by decide +kernel
theorem dX9_isEnd_0 : decode cX9_isEnd 0 = .ok (.aload_n 0, 1) := by decide +kernel
theorem dX9_isEnd_1 : decode cX9_isEnd 1 = .ok (.getfield 43, 3) := by decide +kernel
theorem dX9_isEnd_4 : decode cX9_isEnd 4 = .ok (.iload_n 1, 1) := by decide +kernel
theorem dX9_isEnd_5 : decode cX9_isEnd 5 = .ok (.iconst 1, 1) := by decide +kernel
theorem dX9_isEnd_6 : decode cX9_isEnd 6 = .ok (.isub, 1) := by decide +kernel
theorem dX9_isEnd_7 : decode cX9_isEnd 7 = .ok (.iaload, 1) := by decide +kernel
theorem dX9_isEnd_8 : decode cX9_isEnd 8 = .ok (.iconst 2, 1) := by decide +kernel
theorem dX9_isEnd_9 : decode cX9_isEnd 9 = .ok (.if_icmp .eq 15, 3) := by decide +kernel
theorem dX9_isEnd_12 : decode cX9_isEnd 12 = .ok (.aload_n 0, 1) := by decide +kernel
theorem dX9_isEnd_13 : decode cX9_isEnd 13 = .ok (.getfield 43, 3) := by decide +kernel
theorem dX9_isEnd_16 : decode cX9_isEnd 16 = .ok (.iload_n 1, 1) := by decide +kernel
theorem dX9_isEnd_17 : decode cX9_isEnd 17 = .ok (.iconst 1, 1) := by decide +kernel
theorem dX9_isEnd_18 : decode cX9_isEnd 18 = .ok (.isub, 1) := by decide +kernel
theorem dX9_isEnd_19 : decode cX9_isEnd 19 = .ok (.iaload, 1) := by decide +kernel
theorem dX9_isEnd_20 : decode cX9_isEnd 20 = .ok (.iconst 3, 1) := by decide +kernel
theorem dX9_isEnd_21 : decode cX9_isEnd 21 = .ok (.if_icmp .ne 7, 3) := by decide +kernel
theorem dX9_isEnd_24 : decode cX9_isEnd 24 = .ok (.iconst 1, 1) := by decide +kernel
theorem dX9_isEnd_25 : decode cX9_isEnd 25 = .ok (.goto 4, 3) := by decide +kernel
theorem dX9_isEnd_28 : decode cX9_isEnd 28 = .ok (.iconst 0, 1) := by decide +kernel
theorem dX9_isEnd_29 : decode cX9_isEnd 29 = .ok (.ireturn, 1) := by decide +kernel
theorem dX9_natural_0 : decode cX9_natural 0 = .ok (.aload_n 0, 1) := by decide +kernel
theorem dX9_natural_1 : decode cX9_natural 1 = .ok (.getfield 37, 3) := by decide +kernel
theorem dX9_natural_4 : decode cX9_natural 4 = .ok (.iload_n 2, 1) := by decide +kernel
theorem dX9_natural_5 : decode cX9_natural 5 = .ok (.iaload, 1) := by decide +kernel
theorem dX9_natural_6 : decode cX9_natural 6 = .ok (.aload_n 0, 1) := by decide +kernel
theorem dX9_natural_7 : decode cX9_natural 7 = .ok (.getfield 37, 3) := by decide +kernel
theorem dX9_natural_10 : decode cX9_natural 10 = .ok (.iload_n 1, 1) := by decide +kernel
theorem dX9_natural_11 : decode cX9_natural 11 = .ok (.iaload, 1) := by decide +kernel
theorem dX9_natural_12 : decode cX9_natural 12 = .ok (.isub, 1) := by decide +kernel
theorem dX9_natural_13 : decode cX9_natural 13 = .ok (.aload_n 0, 1) := by decide +kernel
theorem dX9_natural_14 : decode cX9_natural 14 = .ok (.getfield 102, 3) := by decide +kernel
theorem dX9_natural_17 : decode cX9_natural 17 = .ok (.aload_n 0, 1) := by decide +kernel
theorem dX9_natural_18 : decode cX9_natural 18 = .ok (.getfield 40, 3) := by decide +kernel
theorem dX9_natural_21 : decode cX9_natural 21 = .ok (.iload_n 2, 1) := by decide +kernel
theorem dX9_natural_22 : decode cX9_natural 22 = .ok (.iconst 1, 1) := by decide +kernel
theorem dX9_natural_23 : decode cX9_natural 23 = .ok (.isub, 1) := by decide +kernel
theorem dX9_natural_24 : decode cX9_natural 24 = .ok (.iaload, 1) := by decide +kernel
theorem dX9_natural_25 : decode cX9_natural 25 = .ok (.aload_n 0, 1) := by decide +kernel
theorem dX9_natural_26 : decode cX9_natural 26 = .ok (.getfield 40, 3) := by decide +kernel
theorem dX9_natural_29 : decode cX9_natural 29 = .ok (.iload_n 1, 1) := by decide +kernel
theorem dX9_natural_30 : decode cX9_natural 30 = .ok (.iaload, 1) := by decide +kernel
theorem dX9_natural_31 : decode cX9_natural 31 = .ok (.isub, 1) := by decide +kernel
theorem dX9_natural_32 : decode cX9_natural 32 = .ok (.imul, 1) := by decide +kernel
theorem dX9_natural_33 : decode cX9_natural 33 = .ok (.iadd, 1) := by decide +kernel
theorem dX9_natural_34 : decode cX9_natural 34 = .ok (.aload_n 0, 1) := by decide +kernel
theorem dX9_natural_35 : decode cX9_natural 35 = .ok (.getfield 43, 3) := by decide +kernel
theorem dX9_natural_38 : decode cX9_natural 38 = .ok (.iload_n 2, 1) := by decide +kernel
theorem dX9_natural_39 : decode cX9_natural 39 = .ok (.iconst 1, 1) := by decide +kernel
theorem dX9_natural_40 : decode cX9_natural 40 = .ok (.isub, 1) := by decide +kernel
theorem dX9_natural_41 : decode cX9_natural 41 = .ok (.iaload, 1) := by decide +kernel
theorem dX9_natural_42 : decode cX9_natural 42 = .ok (.iconst 1, 1) := by decide +kernel
theorem dX9_natural_43 : decode cX9_natural 43 = .ok (.if_icmp .ne 7, 3) := by decide +kernel
theorem dX9_natural_46 : decode cX9_natural 46 = .ok (.iconst 2, 1) := by decide +kernel
theorem dX9_natural_47 : decode cX9_natural 47 = .ok (.goto 4, 3) := by decide +kernel
theorem dX9_natural_50 : decode cX9_natural 50 = .ok (.iconst 0, 1) := by decide +kernel
theorem dX9_natural_51 : decode cX9_natural 51 = .ok (.iadd, 1) := by decide +kernel
theorem dX9_natural_52 : decode cX9_natural 52 = .ok (.ireturn, 1) := by decide +kernel
theorem dX9_ratioOf_0 : decode cX9_ratioOf 0 = .ok (.aload_n 0, 1) := by decide +kernel
theorem dX9_ratioOf_1 : decode cX9_ratioOf 1 = .ok (.getfield 98, 3) := by decide +kernel
theorem dX9_ratioOf_4 : decode cX9_ratioOf 4 = .ok (.aload_n 0, 1) := by decide +kernel
theorem dX9_ratioOf_5 : decode cX9_ratioOf 5 = .ok (.iload_n 1, 1) := by decide +kernel
theorem dX9_ratioOf_6 : decode cX9_ratioOf 6 = .ok (.iload_n 2, 1) := by decide +kernel
theorem dX9_ratioOf_7 : decode cX9_ratioOf 7 = .ok (.invokevirtual 160, 3) := by decide +kernel
theorem dX9_ratioOf_10 : decode cX9_ratioOf 10 = .ok (.isub, 1) := by decide +kernel
theorem dX9_ratioOf_11 : decode cX9_ratioOf 11 = .ok (.istore_n 3, 1) := by decide +kernel
theorem dX9_ratioOf_12 : decode cX9_ratioOf 12 = .ok (.iload_n 3, 1) := by decide +kernel
theorem dX9_ratioOf_13 : decode cX9_ratioOf 13 = .ok (.ifCond .eq 15, 3) := by decide +kernel
theorem dX9_ratioOf_16 : decode cX9_ratioOf 16 = .ok (.iload_n 3, 1) := by decide +kernel
theorem dX9_ratioOf_17 : decode cX9_ratioOf 17 = .ok (.ifCond .le 13, 3) := by decide +kernel
theorem dX9_ratioOf_20 : decode cX9_ratioOf 20 = .ok (.aload_n 0, 1) := by decide +kernel
theorem dX9_ratioOf_21 : decode cX9_ratioOf 21 = .ok (.iload_n 2, 1) := by decide +kernel
theorem dX9_ratioOf_22 : decode cX9_ratioOf 22 = .ok (.invokevirtual 163, 3) := by decide +kernel
theorem dX9_ratioOf_25 : decode cX9_ratioOf 25 = .ok (.ifCond .eq 5, 3) := by decide +kernel
theorem dX9_ratioOf_28 : decode cX9_ratioOf 28 = .ok (.fconst 0, 1) := by decide +kernel
theorem dX9_ratioOf_29 : decode cX9_ratioOf 29 = .ok (.freturn, 1) := by decide +kernel
theorem dX9_ratioOf_30 : decode cX9_ratioOf 30 = .ok (.aload_n 0, 1) := by decide +kernel
theorem dX9_ratioOf_31 : decode cX9_ratioOf 31 = .ok (.getfield 40, 3) := by decide +kernel
theorem dX9_ratioOf_34 : decode cX9_ratioOf 34 = .ok (.iload_n 2, 1) := by decide +kernel
theorem dX9_ratioOf_35 : decode cX9_ratioOf 35 = .ok (.iconst 1, 1) := by decide +kernel
theorem dX9_ratioOf_36 : decode cX9_ratioOf 36 = .ok (.isub, 1) := by decide +kernel
theorem dX9_ratioOf_37 : decode cX9_ratioOf 37 = .ok (.iaload, 1) := by decide +kernel
theorem dX9_ratioOf_38 : decode cX9_ratioOf 38 = .ok (.aload_n 0, 1) := by decide +kernel
theorem dX9_ratioOf_39 : decode cX9_ratioOf 39 = .ok (.getfield 40, 3) := by decide +kernel
theorem dX9_ratioOf_42 : decode cX9_ratioOf 42 = .ok (.iload_n 1, 1) := by decide +kernel
theorem dX9_ratioOf_43 : decode cX9_ratioOf 43 = .ok (.iaload, 1) := by decide +kernel
theorem dX9_ratioOf_44 : decode cX9_ratioOf 44 = .ok (.isub, 1) := by decide +kernel
theorem dX9_ratioOf_45 : decode cX9_ratioOf 45 = .ok (.istore 4, 2) := by decide +kernel
theorem dX9_ratioOf_47 : decode cX9_ratioOf 47 = .ok (.iload_n 3, 1) := by decide +kernel
theorem dX9_ratioOf_48 : decode cX9_ratioOf 48 = .ok (.ifCond .le 13, 3) := by decide +kernel
theorem dX9_ratioOf_51 : decode cX9_ratioOf 51 = .ok (.aload_n 0, 1) := by decide +kernel
theorem dX9_ratioOf_52 : decode cX9_ratioOf 52 = .ok (.invokevirtual 167, 3) := by decide +kernel
theorem dX9_ratioOf_55 : decode cX9_ratioOf 55 = .ok (.iload 4, 2) := by decide +kernel
theorem dX9_ratioOf_57 : decode cX9_ratioOf 57 = .ok (.imul, 1) := by decide +kernel
theorem dX9_ratioOf_58 : decode cX9_ratioOf 58 = .ok (.goto 10, 3) := by decide +kernel
theorem dX9_ratioOf_61 : decode cX9_ratioOf 61 = .ok (.aload_n 0, 1) := by decide +kernel
theorem dX9_ratioOf_62 : decode cX9_ratioOf 62 = .ok (.invokevirtual 171, 3) := by decide +kernel
theorem dX9_ratioOf_65 : decode cX9_ratioOf 65 = .ok (.iload 4, 2) := by decide +kernel
theorem dX9_ratioOf_67 : decode cX9_ratioOf 67 = .ok (.imul, 1) := by decide +kernel
theorem dX9_ratioOf_68 : decode cX9_ratioOf 68 = .ok (.istore 5, 2) := by decide +kernel
theorem dX9_ratioOf_70 : decode cX9_ratioOf 70 = .ok (.iload 5, 2) := by decide +kernel
theorem dX9_ratioOf_72 : decode cX9_ratioOf 72 = .ok (.ifCond .ne 15, 3) := by decide +kernel
theorem dX9_ratioOf_75 : decode cX9_ratioOf 75 = .ok (.iload_n 3, 1) := by decide +kernel
theorem dX9_ratioOf_76 : decode cX9_ratioOf 76 = .ok (.ifCond .le 8, 3) := by decide +kernel
theorem dX9_ratioOf_79 : decode cX9_ratioOf 79 = .ok (.ldc 174, 2) := by decide +kernel
theorem dX9_ratioOf_81 : decode cX9_ratioOf 81 = .ok (.goto 5, 3) := by decide +kernel
theorem dX9_ratioOf_84 : decode cX9_ratioOf 84 = .ok (.ldc 175, 2) := by decide +kernel
theorem dX9_ratioOf_86 : decode cX9_ratioOf 86 = .ok (.freturn, 1) := by decide +kernel
theorem dX9_ratioOf_87 : decode cX9_ratioOf 87 = .ok (.iload_n 3, 1) := by decide +kernel
theorem dX9_ratioOf_88 : decode cX9_ratioOf 88 = .ok (.i2f, 1) := by decide +kernel
theorem dX9_ratioOf_89 : decode cX9_ratioOf 89 = .ok (.iload 5, 2) := by decide +kernel
theorem dX9_ratioOf_91 : decode cX9_ratioOf 91 = .ok (.i2f, 1) := by decide +kernel
theorem dX9_ratioOf_92 : decode cX9_ratioOf 92 = .ok (.fdiv, 1) := by decide +kernel
theorem dX9_ratioOf_93 : decode cX9_ratioOf 93 = .ok (.freturn, 1) := by decide +kernel
theorem dX9_fits_0 : decode cX9_fits 0 = .ok (.aload_n 0, 1) := by decide +kernel
theorem dX9_fits_1 : decode cX9_fits 1 = .ok (.iload_n 1, 1) := by decide +kernel
theorem dX9_fits_2 : decode cX9_fits 2 = .ok (.iload_n 2, 1) := by decide +kernel
theorem dX9_fits_3 : decode cX9_fits 3 = .ok (.invokevirtual 176, 3) := by decide +kernel
theorem dX9_fits_6 : decode cX9_fits 6 = .ok (.fstore_n 3, 1) := by decide +kernel
theorem dX9_fits_7 : decode cX9_fits 7 = .ok (.fload_n 3, 1) := by decide +kernel
theorem dX9_fits_8 : decode cX9_fits 8 = .ok (.ldc 180, 2) := by decide +kernel
theorem dX9_fits_10 : decode cX9_fits 10 = .ok (.fcmp .l, 1) := by decide +kernel
theorem dX9_fits_11 : decode cX9_fits 11 = .ok (.ifCond .lt 20, 3) := by decide +kernel
theorem dX9_fits_14 : decode cX9_fits 14 = .ok (.fload_n 3, 1) := by decide +kernel
theorem dX9_fits_15 : decode cX9_fits 15 = .ok (.aload_n 0, 1) := by decide +kernel
theorem dX9_fits_16 : decode cX9_fits 16 = .ok (.getfield 111, 3) := by decide +kernel
theorem dX9_fits_19 : decode cX9_fits 19 = .ok (.i2f, 1) := by decide +kernel
theorem dX9_fits_20 : decode cX9_fits 20 = .ok (.ldc 181, 2) := by decide +kernel
theorem dX9_fits_22 : decode cX9_fits 22 = .ok (.fdiv, 1) := by decide +kernel
theorem dX9_fits_23 : decode cX9_fits 23 = .ok (.fcmp .g, 1) := by decide +kernel
theorem dX9_fits_24 : decode cX9_fits 24 = .ok (.ifCond .gt 7, 3) := by decide +kernel
theorem dX9_fits_27 : decode cX9_fits 27 = .ok (.iconst 1, 1) := by decide +kernel
theorem dX9_fits_28 : decode cX9_fits 28 = .ok (.goto 4, 3) := by decide +kernel
theorem dX9_fits_31 : decode cX9_fits 31 = .ok (.iconst 0, 1) := by decide +kernel
theorem dX9_fits_32 : decode cX9_fits 32 = .ok (.ireturn, 1) := by decide +kernel
theorem dX9_badnessOf_0 : decode cX9_badnessOf 0 = .ok (.aload_n 0, 1) := by decide +kernel
theorem dX9_badnessOf_1 : decode cX9_badnessOf 1 = .ok (.iload_n 1, 1) := by decide +kernel
theorem dX9_badnessOf_2 : decode cX9_badnessOf 2 = .ok (.iload_n 2, 1) := by decide +kernel
theorem dX9_badnessOf_3 : decode cX9_badnessOf 3 = .ok (.invokevirtual 176, 3) := by decide +kernel
theorem dX9_badnessOf_6 : decode cX9_badnessOf 6 = .ok (.fstore_n 3, 1) := by decide +kernel
theorem dX9_badnessOf_7 : decode cX9_badnessOf 7 = .ok (.fload_n 3, 1) := by decide +kernel
theorem dX9_badnessOf_8 : decode cX9_badnessOf 8 = .ok (.fconst 0, 1) := by decide +kernel
theorem dX9_badnessOf_9 : decode cX9_badnessOf 9 = .ok (.fcmp .g, 1) := by decide +kernel
theorem dX9_badnessOf_10 : decode cX9_badnessOf 10 = .ok (.ifCond .ge 6, 3) := by decide +kernel
theorem dX9_badnessOf_13 : decode cX9_badnessOf 13 = .ok (.fload_n 3, 1) := by decide +kernel
theorem dX9_badnessOf_14 : decode cX9_badnessOf 14 = .ok (.fneg, 1) := by decide +kernel
theorem dX9_badnessOf_15 : decode cX9_badnessOf 15 = .ok (.fstore_n 3, 1) := by decide +kernel
theorem dX9_badnessOf_16 : decode cX9_badnessOf 16 = .ok (.fload_n 3, 1) := by decide +kernel
theorem dX9_badnessOf_17 : decode cX9_badnessOf 17 = .ok (.fload_n 3, 1) := by decide +kernel
theorem dX9_badnessOf_18 : decode cX9_badnessOf 18 = .ok (.fmul, 1) := by decide +kernel
theorem dX9_badnessOf_19 : decode cX9_badnessOf 19 = .ok (.fload_n 3, 1) := by decide +kernel
theorem dX9_badnessOf_20 : decode cX9_badnessOf 20 = .ok (.fmul, 1) := by decide +kernel
theorem dX9_badnessOf_21 : decode cX9_badnessOf 21 = .ok (.ldc 182, 2) := by decide +kernel
theorem dX9_badnessOf_23 : decode cX9_badnessOf 23 = .ok (.fmul, 1) := by decide +kernel
theorem dX9_badnessOf_24 : decode cX9_badnessOf 24 = .ok (.freturn, 1) := by decide +kernel
theorem dX9_isWidow_0 : decode cX9_isWidow 0 = .ok (.aload_n 0, 1) := by decide +kernel
theorem dX9_isWidow_1 : decode cX9_isWidow 1 = .ok (.iload_n 2, 1) := by decide +kernel
theorem dX9_isWidow_2 : decode cX9_isWidow 2 = .ok (.invokevirtual 163, 3) := by decide +kernel
theorem dX9_isWidow_5 : decode cX9_isWidow 5 = .ok (.ifCond .eq 36, 3) := by decide +kernel
theorem dX9_isWidow_8 : decode cX9_isWidow 8 = .ok (.aload_n 0, 1) := by decide +kernel
theorem dX9_isWidow_9 : decode cX9_isWidow 9 = .ok (.getfield 46, 3) := by decide +kernel
theorem dX9_isWidow_12 : decode cX9_isWidow 12 = .ok (.iload_n 1, 1) := by decide +kernel
theorem dX9_isWidow_13 : decode cX9_isWidow 13 = .ok (.iaload, 1) := by decide +kernel
theorem dX9_isWidow_14 : decode cX9_isWidow 14 = .ok (.aload_n 0, 1) := by decide +kernel
theorem dX9_isWidow_15 : decode cX9_isWidow 15 = .ok (.getfield 46, 3) := by decide +kernel
theorem dX9_isWidow_18 : decode cX9_isWidow 18 = .ok (.iload_n 2, 1) := by decide +kernel
theorem dX9_isWidow_19 : decode cX9_isWidow 19 = .ok (.iconst 1, 1) := by decide +kernel
theorem dX9_isWidow_20 : decode cX9_isWidow 20 = .ok (.isub, 1) := by decide +kernel
theorem dX9_isWidow_21 : decode cX9_isWidow 21 = .ok (.iaload, 1) := by decide +kernel
theorem dX9_isWidow_22 : decode cX9_isWidow 22 = .ok (.if_icmp .ne 19, 3) := by decide +kernel
theorem dX9_isWidow_25 : decode cX9_isWidow 25 = .ok (.iload_n 1, 1) := by decide +kernel
theorem dX9_isWidow_26 : decode cX9_isWidow 26 = .ok (.ifCond .le 15, 3) := by decide +kernel
theorem dX9_isWidow_29 : decode cX9_isWidow 29 = .ok (.aload_n 0, 1) := by decide +kernel
theorem dX9_isWidow_30 : decode cX9_isWidow 30 = .ok (.iload_n 1, 1) := by decide +kernel
theorem dX9_isWidow_31 : decode cX9_isWidow 31 = .ok (.invokevirtual 163, 3) := by decide +kernel
theorem dX9_isWidow_34 : decode cX9_isWidow 34 = .ok (.ifCond .ne 7, 3) := by decide +kernel
theorem dX9_isWidow_37 : decode cX9_isWidow 37 = .ok (.iconst 1, 1) := by decide +kernel
theorem dX9_isWidow_38 : decode cX9_isWidow 38 = .ok (.goto 4, 3) := by decide +kernel
theorem dX9_isWidow_41 : decode cX9_isWidow 41 = .ok (.iconst 0, 1) := by decide +kernel
theorem dX9_isWidow_42 : decode cX9_isWidow 42 = .ok (.ireturn, 1) := by decide +kernel
theorem dX9_demeritsOf_0 : decode cX9_demeritsOf 0 = .ok (.aload_n 0, 1) := by decide +kernel
theorem dX9_demeritsOf_1 : decode cX9_demeritsOf 1 = .ok (.getfield 43, 3) := by decide +kernel
theorem dX9_demeritsOf_4 : decode cX9_demeritsOf 4 = .ok (.iload_n 2, 1) := by decide +kernel
theorem dX9_demeritsOf_5 : decode cX9_demeritsOf 5 = .ok (.iconst 1, 1) := by decide +kernel
theorem dX9_demeritsOf_6 : decode cX9_demeritsOf 6 = .ok (.isub, 1) := by decide +kernel
theorem dX9_demeritsOf_7 : decode cX9_demeritsOf 7 = .ok (.iaload, 1) := by decide +kernel
theorem dX9_demeritsOf_8 : decode cX9_demeritsOf 8 = .ok (.iconst 1, 1) := by decide +kernel
theorem dX9_demeritsOf_9 : decode cX9_demeritsOf 9 = .ok (.if_icmp .ne 7, 3) := by decide +kernel
theorem dX9_demeritsOf_12 : decode cX9_demeritsOf 12 = .ok (.iconst 1, 1) := by decide +kernel
theorem dX9_demeritsOf_13 : decode cX9_demeritsOf 13 = .ok (.goto 4, 3) := by decide +kernel
theorem dX9_demeritsOf_16 : decode cX9_demeritsOf 16 = .ok (.iconst 0, 1) := by decide +kernel
theorem dX9_demeritsOf_17 : decode cX9_demeritsOf 17 = .ok (.istore_n 3, 1) := by decide +kernel
theorem dX9_demeritsOf_18 : decode cX9_demeritsOf 18 = .ok (.iload_n 3, 1) := by decide +kernel
theorem dX9_demeritsOf_19 : decode cX9_demeritsOf 19 = .ok (.ifCond .eq 11, 3) := by decide +kernel
theorem dX9_demeritsOf_22 : decode cX9_demeritsOf 22 = .ok (.aload_n 0, 1) := by decide +kernel
theorem dX9_demeritsOf_23 : decode cX9_demeritsOf 23 = .ok (.invokevirtual 183, 3) := by decide +kernel
theorem dX9_demeritsOf_26 : decode cX9_demeritsOf 26 = .ok (.i2f, 1) := by decide +kernel
theorem dX9_demeritsOf_27 : decode cX9_demeritsOf 27 = .ok (.goto 4, 3) := by decide +kernel
theorem dX9_demeritsOf_30 : decode cX9_demeritsOf 30 = .ok (.fconst 0, 1) := by decide +kernel
theorem dX9_demeritsOf_31 : decode cX9_demeritsOf 31 = .ok (.fstore 4, 2) := by decide +kernel
theorem dX9_demeritsOf_33 : decode cX9_demeritsOf 33 = .ok (.fconst 1, 1) := by decide +kernel
theorem dX9_demeritsOf_34 : decode cX9_demeritsOf 34 = .ok (.aload_n 0, 1) := by decide +kernel
theorem dX9_demeritsOf_35 : decode cX9_demeritsOf 35 = .ok (.iload_n 1, 1) := by decide +kernel
theorem dX9_demeritsOf_36 : decode cX9_demeritsOf 36 = .ok (.iload_n 2, 1) := by decide +kernel
theorem dX9_demeritsOf_37 : decode cX9_demeritsOf 37 = .ok (.invokevirtual 186, 3) := by decide +kernel
theorem dX9_demeritsOf_40 : decode cX9_demeritsOf 40 = .ok (.fadd, 1) := by decide +kernel
theorem dX9_demeritsOf_41 : decode cX9_demeritsOf 41 = .ok (.fstore 5, 2) := by decide +kernel
theorem dX9_demeritsOf_43 : decode cX9_demeritsOf 43 = .ok (.fload 5, 2) := by decide +kernel
theorem dX9_demeritsOf_45 : decode cX9_demeritsOf 45 = .ok (.fload 4, 2) := by decide +kernel
theorem dX9_demeritsOf_47 : decode cX9_demeritsOf 47 = .ok (.fadd, 1) := by decide +kernel
theorem dX9_demeritsOf_48 : decode cX9_demeritsOf 48 = .ok (.fstore 6, 2) := by decide +kernel
theorem dX9_demeritsOf_50 : decode cX9_demeritsOf 50 = .ok (.aload_n 0, 1) := by decide +kernel
theorem dX9_demeritsOf_51 : decode cX9_demeritsOf 51 = .ok (.getfield 189, 3) := by decide +kernel
theorem dX9_demeritsOf_54 : decode cX9_demeritsOf 54 = .ok (.ifCond .ne 16, 3) := by decide +kernel
theorem dX9_demeritsOf_57 : decode cX9_demeritsOf 57 = .ok (.fload 5, 2) := by decide +kernel
theorem dX9_demeritsOf_59 : decode cX9_demeritsOf 59 = .ok (.fload 5, 2) := by decide +kernel
theorem dX9_demeritsOf_61 : decode cX9_demeritsOf 61 = .ok (.fmul, 1) := by decide +kernel
theorem dX9_demeritsOf_62 : decode cX9_demeritsOf 62 = .ok (.fload 4, 2) := by decide +kernel
theorem dX9_demeritsOf_64 : decode cX9_demeritsOf 64 = .ok (.fload 4, 2) := by decide +kernel
theorem dX9_demeritsOf_66 : decode cX9_demeritsOf 66 = .ok (.fmul, 1) := by decide +kernel
theorem dX9_demeritsOf_67 : decode cX9_demeritsOf 67 = .ok (.fadd, 1) := by decide +kernel
theorem dX9_demeritsOf_68 : decode cX9_demeritsOf 68 = .ok (.fstore 6, 2) := by decide +kernel
theorem dX9_demeritsOf_70 : decode cX9_demeritsOf 70 = .ok (.aload_n 0, 1) := by decide +kernel
theorem dX9_demeritsOf_71 : decode cX9_demeritsOf 71 = .ok (.getfield 189, 3) := by decide +kernel
theorem dX9_demeritsOf_74 : decode cX9_demeritsOf 74 = .ok (.iconst 1, 1) := by decide +kernel
theorem dX9_demeritsOf_75 : decode cX9_demeritsOf 75 = .ok (.if_icmp .ne 10, 3) := by decide +kernel
theorem dX9_demeritsOf_78 : decode cX9_demeritsOf 78 = .ok (.fload 6, 2) := by decide +kernel
theorem dX9_demeritsOf_80 : decode cX9_demeritsOf 80 = .ok (.fload 6, 2) := by decide +kernel
theorem dX9_demeritsOf_82 : decode cX9_demeritsOf 82 = .ok (.fmul, 1) := by decide +kernel
theorem dX9_demeritsOf_83 : decode cX9_demeritsOf 83 = .ok (.fstore 6, 2) := by decide +kernel
theorem dX9_demeritsOf_85 : decode cX9_demeritsOf 85 = .ok (.iload_n 3, 1) := by decide +kernel
theorem dX9_demeritsOf_86 : decode cX9_demeritsOf 86 = .ok (.ifCond .eq 26, 3) := by decide +kernel
theorem dX9_demeritsOf_89 : decode cX9_demeritsOf 89 = .ok (.iload_n 1, 1) := by decide +kernel
theorem dX9_demeritsOf_90 : decode cX9_demeritsOf 90 = .ok (.ifCond .le 22, 3) := by decide +kernel
theorem dX9_demeritsOf_93 : decode cX9_demeritsOf 93 = .ok (.aload_n 0, 1) := by decide +kernel
theorem dX9_demeritsOf_94 : decode cX9_demeritsOf 94 = .ok (.getfield 43, 3) := by decide +kernel
theorem dX9_demeritsOf_97 : decode cX9_demeritsOf 97 = .ok (.iload_n 1, 1) := by decide +kernel
theorem dX9_demeritsOf_98 : decode cX9_demeritsOf 98 = .ok (.iconst 1, 1) := by decide +kernel
theorem dX9_demeritsOf_99 : decode cX9_demeritsOf 99 = .ok (.isub, 1) := by decide +kernel
theorem dX9_demeritsOf_100 : decode cX9_demeritsOf 100 = .ok (.iaload, 1) := by decide +kernel
theorem dX9_demeritsOf_101 : decode cX9_demeritsOf 101 = .ok (.iconst 1, 1) := by decide +kernel
theorem dX9_demeritsOf_102 : decode cX9_demeritsOf 102 = .ok (.if_icmp .ne 10, 3) := by decide +kernel
theorem dX9_demeritsOf_105 : decode cX9_demeritsOf 105 = .ok (.fload 6, 2) := by decide +kernel
theorem dX9_demeritsOf_107 : decode cX9_demeritsOf 107 = .ok (.ldc 192, 2) := by decide +kernel
theorem dX9_demeritsOf_109 : decode cX9_demeritsOf 109 = .ok (.fadd, 1) := by decide +kernel
theorem dX9_demeritsOf_110 : decode cX9_demeritsOf 110 = .ok (.fstore 6, 2) := by decide +kernel
theorem dX9_demeritsOf_112 : decode cX9_demeritsOf 112 = .ok (.aload_n 0, 1) := by decide +kernel
theorem dX9_demeritsOf_113 : decode cX9_demeritsOf 113 = .ok (.iload_n 1, 1) := by decide +kernel
theorem dX9_demeritsOf_114 : decode cX9_demeritsOf 114 = .ok (.iload_n 2, 1) := by decide +kernel
theorem dX9_demeritsOf_115 : decode cX9_demeritsOf 115 = .ok (.invokevirtual 193, 3) := by decide +kernel
theorem dX9_demeritsOf_118 : decode cX9_demeritsOf 118 = .ok (.ifCond .eq 17, 3) := by decide +kernel
theorem dX9_demeritsOf_121 : decode cX9_demeritsOf 121 = .ok (.fload 6, 2) := by decide +kernel
theorem dX9_demeritsOf_123 : decode cX9_demeritsOf 123 = .ok (.sipush 1000, 3) := by decide +kernel
theorem dX9_demeritsOf_126 : decode cX9_demeritsOf 126 = .ok (.aload_n 0, 1) := by decide +kernel
theorem dX9_demeritsOf_127 : decode cX9_demeritsOf 127 = .ok (.getfield 117, 3) := by decide +kernel
theorem dX9_demeritsOf_130 : decode cX9_demeritsOf 130 = .ok (.imul, 1) := by decide +kernel
theorem dX9_demeritsOf_131 : decode cX9_demeritsOf 131 = .ok (.i2f, 1) := by decide +kernel
theorem dX9_demeritsOf_132 : decode cX9_demeritsOf 132 = .ok (.fadd, 1) := by decide +kernel
theorem dX9_demeritsOf_133 : decode cX9_demeritsOf 133 = .ok (.fstore 6, 2) := by decide +kernel
theorem dX9_demeritsOf_135 : decode cX9_demeritsOf 135 = .ok (.fload 6, 2) := by decide +kernel
theorem dX9_demeritsOf_137 : decode cX9_demeritsOf 137 = .ok (.freturn, 1) := by decide +kernel
theorem dX9_findBestOf_0 : decode cX9_findBestOf 0 = .ok (.aload_n 0, 1) := by decide +kernel
theorem dX9_findBestOf_1 : decode cX9_findBestOf 1 = .ok (.getfield 53, 3) := by decide +kernel
theorem dX9_findBestOf_4 : decode cX9_findBestOf 4 = .ok (.iload_n 1, 1) := by decide +kernel
theorem dX9_findBestOf_5 : decode cX9_findBestOf 5 = .ok (.bipush (-9), 2) := by decide +kernel
theorem dX9_findBestOf_7 : decode cX9_findBestOf 7 = .ok (.iastore, 1) := by decide +kernel
theorem dX9_findBestOf_8 : decode cX9_findBestOf 8 = .ok (.iload_n 1, 1) := by decide +kernel
theorem dX9_findBestOf_9 : decode cX9_findBestOf 9 = .ok (.iconst 1, 1) := by decide +kernel
theorem dX9_findBestOf_10 : decode cX9_findBestOf 10 = .ok (.isub, 1) := by decide +kernel
theorem dX9_findBestOf_11 : decode cX9_findBestOf 11 = .ok (.istore_n 2, 1) := by decide +kernel
theorem dX9_findBestOf_12 : decode cX9_findBestOf 12 = .ok (.iload_n 2, 1) := by decide +kernel
theorem dX9_findBestOf_13 : decode cX9_findBestOf 13 = .ok (.ifCond .lt 100, 3) := by decide +kernel
theorem dX9_findBestOf_16 : decode cX9_findBestOf 16 = .ok (.iload_n 2, 1) := by decide +kernel
theorem dX9_findBestOf_17 : decode cX9_findBestOf 17 = .ok (.ifCond .eq 12, 3) := by decide +kernel
theorem dX9_findBestOf_20 : decode cX9_findBestOf 20 = .ok (.aload_n 0, 1) := by decide +kernel
theorem dX9_findBestOf_21 : decode cX9_findBestOf 21 = .ok (.getfield 53, 3) := by decide +kernel
theorem dX9_findBestOf_24 : decode cX9_findBestOf 24 = .ok (.iload_n 2, 1) := by decide +kernel
theorem dX9_findBestOf_25 : decode cX9_findBestOf 25 = .ok (.iaload, 1) := by decide +kernel
theorem dX9_findBestOf_26 : decode cX9_findBestOf 26 = .ok (.ifCond .lt 60, 3) := by decide +kernel
theorem dX9_findBestOf_29 : decode cX9_findBestOf 29 = .ok (.aload_n 0, 1) := by decide +kernel
theorem dX9_findBestOf_30 : decode cX9_findBestOf 30 = .ok (.iload_n 2, 1) := by decide +kernel
theorem dX9_findBestOf_31 : decode cX9_findBestOf 31 = .ok (.iload_n 1, 1) := by decide +kernel
theorem dX9_findBestOf_32 : decode cX9_findBestOf 32 = .ok (.invokevirtual 196, 3) := by decide +kernel
theorem dX9_findBestOf_35 : decode cX9_findBestOf 35 = .ok (.ifCond .eq 51, 3) := by decide +kernel
theorem dX9_findBestOf_38 : decode cX9_findBestOf 38 = .ok (.aload_n 0, 1) := by decide +kernel
theorem dX9_findBestOf_39 : decode cX9_findBestOf 39 = .ok (.getfield 49, 3) := by decide +kernel
theorem dX9_findBestOf_42 : decode cX9_findBestOf 42 = .ok (.iload_n 2, 1) := by decide +kernel
theorem dX9_findBestOf_43 : decode cX9_findBestOf 43 = .ok (.faload, 1) := by decide +kernel
theorem dX9_findBestOf_44 : decode cX9_findBestOf 44 = .ok (.aload_n 0, 1) := by decide +kernel
theorem dX9_findBestOf_45 : decode cX9_findBestOf 45 = .ok (.iload_n 2, 1) := by decide +kernel
theorem dX9_findBestOf_46 : decode cX9_findBestOf 46 = .ok (.iload_n 1, 1) := by decide +kernel
theorem dX9_findBestOf_47 : decode cX9_findBestOf 47 = .ok (.invokevirtual 199, 3) := by decide +kernel
theorem dX9_findBestOf_50 : decode cX9_findBestOf 50 = .ok (.fadd, 1) := by decide +kernel
theorem dX9_findBestOf_51 : decode cX9_findBestOf 51 = .ok (.fstore_n 3, 1) := by decide +kernel
theorem dX9_findBestOf_52 : decode cX9_findBestOf 52 = .ok (.aload_n 0, 1) := by decide +kernel
theorem dX9_findBestOf_53 : decode cX9_findBestOf 53 = .ok (.getfield 53, 3) := by decide +kernel
theorem dX9_findBestOf_56 : decode cX9_findBestOf 56 = .ok (.iload_n 1, 1) := by decide +kernel
theorem dX9_findBestOf_57 : decode cX9_findBestOf 57 = .ok (.iaload, 1) := by decide +kernel
theorem dX9_findBestOf_58 : decode cX9_findBestOf 58 = .ok (.ifCond .lt 14, 3) := by decide +kernel
theorem dX9_findBestOf_61 : decode cX9_findBestOf 61 = .ok (.fload_n 3, 1) := by decide +kernel
theorem dX9_findBestOf_62 : decode cX9_findBestOf 62 = .ok (.aload_n 0, 1) := by decide +kernel
theorem dX9_findBestOf_63 : decode cX9_findBestOf 63 = .ok (.getfield 49, 3) := by decide +kernel
theorem dX9_findBestOf_66 : decode cX9_findBestOf 66 = .ok (.iload_n 1, 1) := by decide +kernel
theorem dX9_findBestOf_67 : decode cX9_findBestOf 67 = .ok (.faload, 1) := by decide +kernel
theorem dX9_findBestOf_68 : decode cX9_findBestOf 68 = .ok (.fcmp .g, 1) := by decide +kernel
theorem dX9_findBestOf_69 : decode cX9_findBestOf 69 = .ok (.ifCond .gt 17, 3) := by decide +kernel
theorem dX9_findBestOf_72 : decode cX9_findBestOf 72 = .ok (.aload_n 0, 1) := by decide +kernel
theorem dX9_findBestOf_73 : decode cX9_findBestOf 73 = .ok (.getfield 49, 3) := by decide +kernel
theorem dX9_findBestOf_76 : decode cX9_findBestOf 76 = .ok (.iload_n 1, 1) := by decide +kernel
theorem dX9_findBestOf_77 : decode cX9_findBestOf 77 = .ok (.fload_n 3, 1) := by decide +kernel
theorem dX9_findBestOf_78 : decode cX9_findBestOf 78 = .ok (.fastore, 1) := by decide +kernel
theorem dX9_findBestOf_79 : decode cX9_findBestOf 79 = .ok (.aload_n 0, 1) := by decide +kernel
theorem dX9_findBestOf_80 : decode cX9_findBestOf 80 = .ok (.getfield 53, 3) := by decide +kernel
theorem dX9_findBestOf_83 : decode cX9_findBestOf 83 = .ok (.iload_n 1, 1) := by decide +kernel
theorem dX9_findBestOf_84 : decode cX9_findBestOf 84 = .ok (.iload_n 2, 1) := by decide +kernel
theorem dX9_findBestOf_85 : decode cX9_findBestOf 85 = .ok (.iastore, 1) := by decide +kernel
theorem dX9_findBestOf_86 : decode cX9_findBestOf 86 = .ok (.iload_n 2, 1) := by decide +kernel
theorem dX9_findBestOf_87 : decode cX9_findBestOf 87 = .ok (.ifCond .le 19, 3) := by decide +kernel
theorem dX9_findBestOf_90 : decode cX9_findBestOf 90 = .ok (.aload_n 0, 1) := by decide +kernel
theorem dX9_findBestOf_91 : decode cX9_findBestOf 91 = .ok (.getfield 43, 3) := by decide +kernel
theorem dX9_findBestOf_94 : decode cX9_findBestOf 94 = .ok (.iload_n 2, 1) := by decide +kernel
theorem dX9_findBestOf_95 : decode cX9_findBestOf 95 = .ok (.iconst 1, 1) := by decide +kernel
theorem dX9_findBestOf_96 : decode cX9_findBestOf 96 = .ok (.isub, 1) := by decide +kernel
theorem dX9_findBestOf_97 : decode cX9_findBestOf 97 = .ok (.iaload, 1) := by decide +kernel
theorem dX9_findBestOf_98 : decode cX9_findBestOf 98 = .ok (.iconst 2, 1) := by decide +kernel
theorem dX9_findBestOf_99 : decode cX9_findBestOf 99 = .ok (.if_icmp .ne 7, 3) := by decide +kernel
theorem dX9_findBestOf_102 : decode cX9_findBestOf 102 = .ok (.iconst (-1), 1) := by decide +kernel
theorem dX9_findBestOf_103 : decode cX9_findBestOf 103 = .ok (.goto 6, 3) := by decide +kernel
theorem dX9_findBestOf_106 : decode cX9_findBestOf 106 = .ok (.iload_n 2, 1) := by decide +kernel
theorem dX9_findBestOf_107 : decode cX9_findBestOf 107 = .ok (.iconst 1, 1) := by decide +kernel
theorem dX9_findBestOf_108 : decode cX9_findBestOf 108 = .ok (.isub, 1) := by decide +kernel
theorem dX9_findBestOf_109 : decode cX9_findBestOf 109 = .ok (.istore_n 2, 1) := by decide +kernel
theorem dX9_findBestOf_110 : decode cX9_findBestOf 110 = .ok (.goto (-98), 3) := by decide +kernel
theorem dX9_findBestOf_113 : decode cX9_findBestOf 113 = .ok (.return_, 1) := by decide +kernel
theorem dX9_linesBack_0 : decode cX9_linesBack 0 = .ok (.iconst 0, 1) := by decide +kernel
theorem dX9_linesBack_1 : decode cX9_linesBack 1 = .ok (.istore_n 1, 1) := by decide +kernel
theorem dX9_linesBack_2 : decode cX9_linesBack 2 = .ok (.aload_n 0, 1) := by decide +kernel
theorem dX9_linesBack_3 : decode cX9_linesBack 3 = .ok (.getfield 145, 3) := by decide +kernel
theorem dX9_linesBack_6 : decode cX9_linesBack 6 = .ok (.istore_n 2, 1) := by decide +kernel
theorem dX9_linesBack_7 : decode cX9_linesBack 7 = .ok (.iload_n 2, 1) := by decide +kernel
theorem dX9_linesBack_8 : decode cX9_linesBack 8 = .ok (.ifCond .le 16, 3) := by decide +kernel
theorem dX9_linesBack_11 : decode cX9_linesBack 11 = .ok (.iinc 1 1, 3) := by decide +kernel
theorem dX9_linesBack_14 : decode cX9_linesBack 14 = .ok (.aload_n 0, 1) := by decide +kernel
theorem dX9_linesBack_15 : decode cX9_linesBack 15 = .ok (.getfield 53, 3) := by decide +kernel
theorem dX9_linesBack_18 : decode cX9_linesBack 18 = .ok (.iload_n 2, 1) := by decide +kernel
theorem dX9_linesBack_19 : decode cX9_linesBack 19 = .ok (.iaload, 1) := by decide +kernel
theorem dX9_linesBack_20 : decode cX9_linesBack 20 = .ok (.istore_n 2, 1) := by decide +kernel
theorem dX9_linesBack_21 : decode cX9_linesBack 21 = .ok (.goto (-14), 3) := by decide +kernel
theorem dX9_linesBack_24 : decode cX9_linesBack 24 = .ok (.iload_n 1, 1) := by decide +kernel
theorem dX9_linesBack_25 : decode cX9_linesBack 25 = .ok (.ireturn, 1) := by decide +kernel
theorem dX9_findLines_0 : decode cX9_findLines 0 = .ok (.aload_n 0, 1) := by decide +kernel
theorem dX9_findLines_1 : decode cX9_findLines 1 = .ok (.invokevirtual 202, 3) := by decide +kernel
theorem dX9_findLines_4 : decode cX9_findLines 4 = .ok (.aload_n 0, 1) := by decide +kernel
theorem dX9_findLines_5 : decode cX9_findLines 5 = .ok (.getfield 49, 3) := by decide +kernel
theorem dX9_findLines_8 : decode cX9_findLines 8 = .ok (.iconst 0, 1) := by decide +kernel
theorem dX9_findLines_9 : decode cX9_findLines 9 = .ok (.fconst 0, 1) := by decide +kernel
theorem dX9_findLines_10 : decode cX9_findLines 10 = .ok (.fastore, 1) := by decide +kernel
theorem dX9_findLines_11 : decode cX9_findLines 11 = .ok (.aload_n 0, 1) := by decide +kernel
theorem dX9_findLines_12 : decode cX9_findLines 12 = .ok (.getfield 53, 3) := by decide +kernel
theorem dX9_findLines_15 : decode cX9_findLines 15 = .ok (.iconst 0, 1) := by decide +kernel
theorem dX9_findLines_16 : decode cX9_findLines 16 = .ok (.bipush (-9), 2) := by decide +kernel
theorem dX9_findLines_18 : decode cX9_findLines 18 = .ok (.iastore, 1) := by decide +kernel
theorem dX9_findLines_19 : decode cX9_findLines 19 = .ok (.iconst 1, 1) := by decide +kernel
theorem dX9_findLines_20 : decode cX9_findLines 20 = .ok (.istore_n 1, 1) := by decide +kernel
theorem dX9_findLines_21 : decode cX9_findLines 21 = .ok (.iload_n 1, 1) := by decide +kernel
theorem dX9_findLines_22 : decode cX9_findLines 22 = .ok (.aload_n 0, 1) := by decide +kernel
theorem dX9_findLines_23 : decode cX9_findLines 23 = .ok (.getfield 145, 3) := by decide +kernel
theorem dX9_findLines_26 : decode cX9_findLines 26 = .ok (.if_icmp .gt 14, 3) := by decide +kernel
theorem dX9_findLines_29 : decode cX9_findLines 29 = .ok (.aload_n 0, 1) := by decide +kernel
theorem dX9_findLines_30 : decode cX9_findLines 30 = .ok (.iload_n 1, 1) := by decide +kernel
theorem dX9_findLines_31 : decode cX9_findLines 31 = .ok (.invokevirtual 205, 3) := by decide +kernel
theorem dX9_findLines_34 : decode cX9_findLines 34 = .ok (.iinc 1 1, 3) := by decide +kernel
theorem dX9_findLines_37 : decode cX9_findLines 37 = .ok (.goto (-16), 3) := by decide +kernel
theorem dX9_findLines_40 : decode cX9_findLines 40 = .ok (.aload_n 0, 1) := by decide +kernel
theorem dX9_findLines_41 : decode cX9_findLines 41 = .ok (.aload_n 0, 1) := by decide +kernel
theorem dX9_findLines_42 : decode cX9_findLines 42 = .ok (.getfield 145, 3) := by decide +kernel
theorem dX9_findLines_45 : decode cX9_findLines 45 = .ok (.ifCond .le 20, 3) := by decide +kernel
theorem dX9_findLines_48 : decode cX9_findLines 48 = .ok (.aload_n 0, 1) := by decide +kernel
theorem dX9_findLines_49 : decode cX9_findLines 49 = .ok (.getfield 53, 3) := by decide +kernel
theorem dX9_findLines_52 : decode cX9_findLines 52 = .ok (.aload_n 0, 1) := by decide +kernel
theorem dX9_findLines_53 : decode cX9_findLines 53 = .ok (.getfield 145, 3) := by decide +kernel
theorem dX9_findLines_56 : decode cX9_findLines 56 = .ok (.iaload, 1) := by decide +kernel
theorem dX9_findLines_57 : decode cX9_findLines 57 = .ok (.ifCond .ge 8, 3) := by decide +kernel
theorem dX9_findLines_60 : decode cX9_findLines 60 = .ok (.bipush (-9), 2) := by decide +kernel
theorem dX9_findLines_62 : decode cX9_findLines 62 = .ok (.goto 7, 3) := by decide +kernel
theorem dX9_findLines_65 : decode cX9_findLines 65 = .ok (.aload_n 0, 1) := by decide +kernel
theorem dX9_findLines_66 : decode cX9_findLines 66 = .ok (.invokevirtual 208, 3) := by decide +kernel
theorem dX9_findLines_69 : decode cX9_findLines 69 = .ok (.putfield 211, 3) := by decide +kernel
theorem dX9_findLines_72 : decode cX9_findLines 72 = .ok (.aload_n 0, 1) := by decide +kernel
theorem dX9_findLines_73 : decode cX9_findLines 73 = .ok (.getfield 145, 3) := by decide +kernel
theorem dX9_findLines_76 : decode cX9_findLines 76 = .ok (.istore_n 1, 1) := by decide +kernel
theorem dX9_findLines_77 : decode cX9_findLines 77 = .ok (.aload_n 0, 1) := by decide +kernel
theorem dX9_findLines_78 : decode cX9_findLines 78 = .ok (.getfield 211, 3) := by decide +kernel
theorem dX9_findLines_81 : decode cX9_findLines 81 = .ok (.istore_n 2, 1) := by decide +kernel
theorem dX9_findLines_82 : decode cX9_findLines 82 = .ok (.iload_n 2, 1) := by decide +kernel
theorem dX9_findLines_83 : decode cX9_findLines 83 = .ok (.ifCond .lt 31, 3) := by decide +kernel
theorem dX9_findLines_86 : decode cX9_findLines 86 = .ok (.aload_n 0, 1) := by decide +kernel
theorem dX9_findLines_87 : decode cX9_findLines 87 = .ok (.getfield 56, 3) := by decide +kernel
theorem dX9_findLines_90 : decode cX9_findLines 90 = .ok (.iload_n 2, 1) := by decide +kernel
theorem dX9_findLines_91 : decode cX9_findLines 91 = .ok (.iload_n 1, 1) := by decide +kernel
theorem dX9_findLines_92 : decode cX9_findLines 92 = .ok (.iastore, 1) := by decide +kernel
theorem dX9_findLines_93 : decode cX9_findLines 93 = .ok (.iload_n 2, 1) := by decide +kernel
theorem dX9_findLines_94 : decode cX9_findLines 94 = .ok (.ifCond .le 12, 3) := by decide +kernel
theorem dX9_findLines_97 : decode cX9_findLines 97 = .ok (.aload_n 0, 1) := by decide +kernel
theorem dX9_findLines_98 : decode cX9_findLines 98 = .ok (.getfield 53, 3) := by decide +kernel
theorem dX9_findLines_101 : decode cX9_findLines 101 = .ok (.iload_n 1, 1) := by decide +kernel
theorem dX9_findLines_102 : decode cX9_findLines 102 = .ok (.iaload, 1) := by decide +kernel
theorem dX9_findLines_103 : decode cX9_findLines 103 = .ok (.goto 4, 3) := by decide +kernel
theorem dX9_findLines_106 : decode cX9_findLines 106 = .ok (.iload_n 1, 1) := by decide +kernel
theorem dX9_findLines_107 : decode cX9_findLines 107 = .ok (.istore_n 1, 1) := by decide +kernel
theorem dX9_findLines_108 : decode cX9_findLines 108 = .ok (.iinc 2 (-1), 3) := by decide +kernel
theorem dX9_findLines_111 : decode cX9_findLines 111 = .ok (.goto (-29), 3) := by decide +kernel
theorem dX9_findLines_114 : decode cX9_findLines 114 = .ok (.aload_n 0, 1) := by decide +kernel
theorem dX9_findLines_115 : decode cX9_findLines 115 = .ok (.getfield 211, 3) := by decide +kernel
theorem dX9_findLines_118 : decode cX9_findLines 118 = .ok (.ireturn, 1) := by decide +kernel
theorem dX9_isLine_0 : decode cX9_isLine 0 = .ok (.iload_n 1, 1) := by decide +kernel
theorem dX9_isLine_1 : decode cX9_isLine 1 = .ok (.iconst 0, 1) := by decide +kernel
theorem dX9_isLine_2 : decode cX9_isLine 2 = .ok (.aload_n 0, 1) := by decide +kernel
theorem dX9_isLine_3 : decode cX9_isLine 3 = .ok (.invokevirtual 214, 3) := by decide +kernel
theorem dX9_isLine_6 : decode cX9_isLine 6 = .ok (.iconst 1, 1) := by decide +kernel
theorem dX9_isLine_7 : decode cX9_isLine 7 = .ok (.isub, 1) := by decide +kernel
theorem dX9_isLine_8 : decode cX9_isLine 8 = .ok (.invokestatic 125, 3) := by decide +kernel
theorem dX9_isLine_11 : decode cX9_isLine 11 = .ok (.ireturn, 1) := by decide +kernel
theorem dX9_totalNow_0 : decode cX9_totalNow 0 = .ok (.aload_n 0, 1) := by decide +kernel
theorem dX9_totalNow_1 : decode cX9_totalNow 1 = .ok (.getfield 49, 3) := by decide +kernel
theorem dX9_totalNow_4 : decode cX9_totalNow 4 = .ok (.aload_n 0, 1) := by decide +kernel
theorem dX9_totalNow_5 : decode cX9_totalNow 5 = .ok (.getfield 145, 3) := by decide +kernel
theorem dX9_totalNow_8 : decode cX9_totalNow 8 = .ok (.faload, 1) := by decide +kernel
theorem dX9_totalNow_9 : decode cX9_totalNow 9 = .ok (.freturn, 1) := by decide +kernel
theorem dX9_letter_0 : decode cX9_letter 0 = .ok (.iload_n 1, 1) := by decide +kernel
theorem dX9_letter_1 : decode cX9_letter 1 = .ok (.iconst 0, 1) := by decide +kernel
theorem dX9_letter_2 : decode cX9_letter 2 = .ok (.sipush 255, 3) := by decide +kernel
theorem dX9_letter_5 : decode cX9_letter 5 = .ok (.invokestatic 217, 3) := by decide +kernel
theorem dX9_letter_8 : decode cX9_letter 8 = .ok (.istore_n 2, 1) := by decide +kernel
theorem dX9_letter_9 : decode cX9_letter 9 = .ok (.iload_n 2, 1) := by decide +kernel
theorem dX9_letter_10 : decode cX9_letter 10 = .ok (.ifCond .ne 15, 3) := by decide +kernel
theorem dX9_letter_13 : decode cX9_letter 13 = .ok (.aload_n 0, 1) := by decide +kernel
theorem dX9_letter_14 : decode cX9_letter 14 = .ok (.getfield 221, 3) := by decide +kernel
theorem dX9_letter_17 : decode cX9_letter 17 = .ok (.bipush 96, 2) := by decide +kernel
theorem dX9_letter_19 : decode cX9_letter 19 = .ok (.if_icmp .ne 6, 3) := by decide +kernel
theorem dX9_letter_22 : decode cX9_letter 22 = .ok (.bipush (-6), 2) := by decide +kernel
theorem dX9_letter_24 : decode cX9_letter 24 = .ok (.istore_n 2, 1) := by decide +kernel
theorem dX9_letter_25 : decode cX9_letter 25 = .ok (.iload_n 2, 1) := by decide +kernel
theorem dX9_letter_26 : decode cX9_letter 26 = .ok (.ifCond .eq 9, 3) := by decide +kernel
theorem dX9_letter_29 : decode cX9_letter 29 = .ok (.aload_n 0, 1) := by decide +kernel
theorem dX9_letter_30 : decode cX9_letter 30 = .ok (.iload_n 2, 1) := by decide +kernel
theorem dX9_letter_31 : decode cX9_letter 31 = .ok (.invokevirtual 224, 3) := by decide +kernel
theorem dX9_letter_34 : decode cX9_letter 34 = .ok (.ireturn, 1) := by decide +kernel
theorem dX9_letter_35 : decode cX9_letter 35 = .ok (.aload_n 0, 1) := by decide +kernel
theorem dX9_letter_36 : decode cX9_letter 36 = .ok (.getfield 59, 3) := by decide +kernel
theorem dX9_letter_39 : decode cX9_letter 39 = .ok (.aload_n 0, 1) := by decide +kernel
theorem dX9_letter_40 : decode cX9_letter 40 = .ok (.getfield 221, 3) := by decide +kernel
theorem dX9_letter_43 : decode cX9_letter 43 = .ok (.iload_n 1, 1) := by decide +kernel
theorem dX9_letter_44 : decode cX9_letter 44 = .ok (.iastore, 1) := by decide +kernel
theorem dX9_letter_45 : decode cX9_letter 45 = .ok (.aload_n 0, 1) := by decide +kernel
theorem dX9_letter_46 : decode cX9_letter 46 = .ok (.dup, 1) := by decide +kernel
theorem dX9_letter_47 : decode cX9_letter 47 = .ok (.getfield 221, 3) := by decide +kernel
theorem dX9_letter_50 : decode cX9_letter 50 = .ok (.iconst 1, 1) := by decide +kernel
theorem dX9_letter_51 : decode cX9_letter 51 = .ok (.iadd, 1) := by decide +kernel
theorem dX9_letter_52 : decode cX9_letter 52 = .ok (.putfield 221, 3) := by decide +kernel
theorem dX9_letter_55 : decode cX9_letter 55 = .ok (.aload_n 0, 1) := by decide +kernel
theorem dX9_letter_56 : decode cX9_letter 56 = .ok (.getfield 221, 3) := by decide +kernel
theorem dX9_letter_59 : decode cX9_letter 59 = .ok (.ireturn, 1) := by decide +kernel
theorem dX9_sign_0 : decode cX9_sign 0 = .ok (.aload_n 0, 1) := by decide +kernel
theorem dX9_sign_1 : decode cX9_sign 1 = .ok (.getfield 228, 3) := by decide +kernel
theorem dX9_sign_4 : decode cX9_sign 4 = .ok (.aload_n 0, 1) := by decide +kernel
theorem dX9_sign_5 : decode cX9_sign 5 = .ok (.getfield 221, 3) := by decide +kernel
theorem dX9_sign_8 : decode cX9_sign 8 = .ok (.if_icmp .ge 15, 3) := by decide +kernel
theorem dX9_sign_11 : decode cX9_sign 11 = .ok (.aload_n 0, 1) := by decide +kernel
theorem dX9_sign_12 : decode cX9_sign 12 = .ok (.getfield 59, 3) := by decide +kernel
theorem dX9_sign_15 : decode cX9_sign 15 = .ok (.aload_n 0, 1) := by decide +kernel
theorem dX9_sign_16 : decode cX9_sign 16 = .ok (.getfield 228, 3) := by decide +kernel
theorem dX9_sign_19 : decode cX9_sign 19 = .ok (.iaload, 1) := by decide +kernel
theorem dX9_sign_20 : decode cX9_sign 20 = .ok (.goto 4, 3) := by decide +kernel
theorem dX9_sign_23 : decode cX9_sign 23 = .ok (.iconst (-1), 1) := by decide +kernel
theorem dX9_sign_24 : decode cX9_sign 24 = .ok (.ireturn, 1) := by decide +kernel
theorem dX9_readsDigits_0 : decode cX9_readsDigits 0 = .ok (.iconst 0, 1) := by decide +kernel
theorem dX9_readsDigits_1 : decode cX9_readsDigits 1 = .ok (.istore_n 2, 1) := by decide +kernel
theorem dX9_readsDigits_2 : decode cX9_readsDigits 2 = .ok (.iconst 0, 1) := by decide +kernel
theorem dX9_readsDigits_3 : decode cX9_readsDigits 3 = .ok (.istore_n 3, 1) := by decide +kernel
theorem dX9_readsDigits_4 : decode cX9_readsDigits 4 = .ok (.iload_n 3, 1) := by decide +kernel
theorem dX9_readsDigits_5 : decode cX9_readsDigits 5 = .ok (.iload_n 1, 1) := by decide +kernel
theorem dX9_readsDigits_6 : decode cX9_readsDigits 6 = .ok (.if_icmp .ge 48, 3) := by decide +kernel
theorem dX9_readsDigits_9 : decode cX9_readsDigits 9 = .ok (.aload_n 0, 1) := by decide +kernel
theorem dX9_readsDigits_10 : decode cX9_readsDigits 10 = .ok (.invokevirtual 231, 3) := by decide +kernel
theorem dX9_readsDigits_13 : decode cX9_readsDigits 13 = .ok (.bipush 48, 2) := by decide +kernel
theorem dX9_readsDigits_15 : decode cX9_readsDigits 15 = .ok (.bipush 57, 2) := by decide +kernel
theorem dX9_readsDigits_17 : decode cX9_readsDigits 17 = .ok (.invokestatic 125, 3) := by decide +kernel
theorem dX9_readsDigits_20 : decode cX9_readsDigits 20 = .ok (.ifCond .ne 5, 3) := by decide +kernel
theorem dX9_readsDigits_23 : decode cX9_readsDigits 23 = .ok (.iconst 0, 1) := by decide +kernel
theorem dX9_readsDigits_24 : decode cX9_readsDigits 24 = .ok (.ireturn, 1) := by decide +kernel
theorem dX9_readsDigits_25 : decode cX9_readsDigits 25 = .ok (.bipush 10, 2) := by decide +kernel
theorem dX9_readsDigits_27 : decode cX9_readsDigits 27 = .ok (.iload_n 2, 1) := by decide +kernel
theorem dX9_readsDigits_28 : decode cX9_readsDigits 28 = .ok (.imul, 1) := by decide +kernel
theorem dX9_readsDigits_29 : decode cX9_readsDigits 29 = .ok (.aload_n 0, 1) := by decide +kernel
theorem dX9_readsDigits_30 : decode cX9_readsDigits 30 = .ok (.invokevirtual 231, 3) := by decide +kernel
theorem dX9_readsDigits_33 : decode cX9_readsDigits 33 = .ok (.iadd, 1) := by decide +kernel
theorem dX9_readsDigits_34 : decode cX9_readsDigits 34 = .ok (.bipush 48, 2) := by decide +kernel
theorem dX9_readsDigits_36 : decode cX9_readsDigits 36 = .ok (.isub, 1) := by decide +kernel
theorem dX9_readsDigits_37 : decode cX9_readsDigits 37 = .ok (.istore_n 2, 1) := by decide +kernel
theorem dX9_readsDigits_38 : decode cX9_readsDigits 38 = .ok (.aload_n 0, 1) := by decide +kernel
theorem dX9_readsDigits_39 : decode cX9_readsDigits 39 = .ok (.dup, 1) := by decide +kernel
theorem dX9_readsDigits_40 : decode cX9_readsDigits 40 = .ok (.getfield 228, 3) := by decide +kernel
theorem dX9_readsDigits_43 : decode cX9_readsDigits 43 = .ok (.iconst 1, 1) := by decide +kernel
theorem dX9_readsDigits_44 : decode cX9_readsDigits 44 = .ok (.iadd, 1) := by decide +kernel
theorem dX9_readsDigits_45 : decode cX9_readsDigits 45 = .ok (.putfield 228, 3) := by decide +kernel
theorem dX9_readsDigits_48 : decode cX9_readsDigits 48 = .ok (.iinc 3 1, 3) := by decide +kernel
theorem dX9_readsDigits_51 : decode cX9_readsDigits 51 = .ok (.goto (-47), 3) := by decide +kernel
theorem dX9_readsDigits_54 : decode cX9_readsDigits 54 = .ok (.aload_n 0, 1) := by decide +kernel
theorem dX9_readsDigits_55 : decode cX9_readsDigits 55 = .ok (.getfield 68, 3) := by decide +kernel
theorem dX9_readsDigits_58 : decode cX9_readsDigits 58 = .ok (.aload_n 0, 1) := by decide +kernel
theorem dX9_readsDigits_59 : decode cX9_readsDigits 59 = .ok (.getfield 234, 3) := by decide +kernel
theorem dX9_readsDigits_62 : decode cX9_readsDigits 62 = .ok (.iload_n 2, 1) := by decide +kernel
theorem dX9_readsDigits_63 : decode cX9_readsDigits 63 = .ok (.iastore, 1) := by decide +kernel
theorem dX9_readsDigits_64 : decode cX9_readsDigits 64 = .ok (.aload_n 0, 1) := by decide +kernel
theorem dX9_readsDigits_65 : decode cX9_readsDigits 65 = .ok (.dup, 1) := by decide +kernel
theorem dX9_readsDigits_66 : decode cX9_readsDigits 66 = .ok (.getfield 234, 3) := by decide +kernel
theorem dX9_readsDigits_69 : decode cX9_readsDigits 69 = .ok (.iconst 1, 1) := by decide +kernel
theorem dX9_readsDigits_70 : decode cX9_readsDigits 70 = .ok (.iadd, 1) := by decide +kernel
theorem dX9_readsDigits_71 : decode cX9_readsDigits 71 = .ok (.putfield 234, 3) := by decide +kernel
theorem dX9_readsDigits_74 : decode cX9_readsDigits 74 = .ok (.iconst 1, 1) := by decide +kernel
theorem dX9_readsDigits_75 : decode cX9_readsDigits 75 = .ok (.ireturn, 1) := by decide +kernel
theorem dX9_readsLetters_0 : decode cX9_readsLetters 0 = .ok (.aload_n 0, 1) := by decide +kernel
theorem dX9_readsLetters_1 : decode cX9_readsLetters 1 = .ok (.getfield 71, 3) := by decide +kernel
theorem dX9_readsLetters_4 : decode cX9_readsLetters 4 = .ok (.aload_n 0, 1) := by decide +kernel
theorem dX9_readsLetters_5 : decode cX9_readsLetters 5 = .ok (.getfield 237, 3) := by decide +kernel
theorem dX9_readsLetters_8 : decode cX9_readsLetters 8 = .ok (.aload_n 0, 1) := by decide +kernel
theorem dX9_readsLetters_9 : decode cX9_readsLetters 9 = .ok (.getfield 228, 3) := by decide +kernel
theorem dX9_readsLetters_12 : decode cX9_readsLetters 12 = .ok (.iastore, 1) := by decide +kernel
theorem dX9_readsLetters_13 : decode cX9_readsLetters 13 = .ok (.aload_n 0, 1) := by decide +kernel
theorem dX9_readsLetters_14 : decode cX9_readsLetters 14 = .ok (.getfield 228, 3) := by decide +kernel
theorem dX9_readsLetters_17 : decode cX9_readsLetters 17 = .ok (.aload_n 0, 1) := by decide +kernel
theorem dX9_readsLetters_18 : decode cX9_readsLetters 18 = .ok (.getfield 71, 3) := by decide +kernel
theorem dX9_readsLetters_21 : decode cX9_readsLetters 21 = .ok (.aload_n 0, 1) := by decide +kernel
theorem dX9_readsLetters_22 : decode cX9_readsLetters 22 = .ok (.getfield 237, 3) := by decide +kernel
theorem dX9_readsLetters_25 : decode cX9_readsLetters 25 = .ok (.iaload, 1) := by decide +kernel
theorem dX9_readsLetters_26 : decode cX9_readsLetters 26 = .ok (.iload_n 1, 1) := by decide +kernel
theorem dX9_readsLetters_27 : decode cX9_readsLetters 27 = .ok (.iadd, 1) := by decide +kernel
theorem dX9_readsLetters_28 : decode cX9_readsLetters 28 = .ok (.if_icmp .ge 30, 3) := by decide +kernel
theorem dX9_readsLetters_31 : decode cX9_readsLetters 31 = .ok (.aload_n 0, 1) := by decide +kernel
theorem dX9_readsLetters_32 : decode cX9_readsLetters 32 = .ok (.invokevirtual 231, 3) := by decide +kernel
theorem dX9_readsLetters_35 : decode cX9_readsLetters 35 = .ok (.bipush 97, 2) := by decide +kernel
theorem dX9_readsLetters_37 : decode cX9_readsLetters 37 = .ok (.bipush 104, 2) := by decide +kernel
theorem dX9_readsLetters_39 : decode cX9_readsLetters 39 = .ok (.invokestatic 125, 3) := by decide +kernel
theorem dX9_readsLetters_42 : decode cX9_readsLetters 42 = .ok (.ifCond .eq 16, 3) := by decide +kernel
theorem dX9_readsLetters_45 : decode cX9_readsLetters 45 = .ok (.aload_n 0, 1) := by decide +kernel
theorem dX9_readsLetters_46 : decode cX9_readsLetters 46 = .ok (.dup, 1) := by decide +kernel
theorem dX9_readsLetters_47 : decode cX9_readsLetters 47 = .ok (.getfield 228, 3) := by decide +kernel
theorem dX9_readsLetters_50 : decode cX9_readsLetters 50 = .ok (.iconst 1, 1) := by decide +kernel
theorem dX9_readsLetters_51 : decode cX9_readsLetters 51 = .ok (.iadd, 1) := by decide +kernel
theorem dX9_readsLetters_52 : decode cX9_readsLetters 52 = .ok (.putfield 228, 3) := by decide +kernel
theorem dX9_readsLetters_55 : decode cX9_readsLetters 55 = .ok (.goto (-42), 3) := by decide +kernel
theorem dX9_readsLetters_58 : decode cX9_readsLetters 58 = .ok (.aload_n 0, 1) := by decide +kernel
theorem dX9_readsLetters_59 : decode cX9_readsLetters 59 = .ok (.getfield 74, 3) := by decide +kernel
theorem dX9_readsLetters_62 : decode cX9_readsLetters 62 = .ok (.aload_n 0, 1) := by decide +kernel
theorem dX9_readsLetters_63 : decode cX9_readsLetters 63 = .ok (.getfield 237, 3) := by decide +kernel
theorem dX9_readsLetters_66 : decode cX9_readsLetters 66 = .ok (.aload_n 0, 1) := by decide +kernel
theorem dX9_readsLetters_67 : decode cX9_readsLetters 67 = .ok (.getfield 228, 3) := by decide +kernel
theorem dX9_readsLetters_70 : decode cX9_readsLetters 70 = .ok (.aload_n 0, 1) := by decide +kernel
theorem dX9_readsLetters_71 : decode cX9_readsLetters 71 = .ok (.getfield 71, 3) := by decide +kernel
theorem dX9_readsLetters_74 : decode cX9_readsLetters 74 = .ok (.aload_n 0, 1) := by decide +kernel
theorem dX9_readsLetters_75 : decode cX9_readsLetters 75 = .ok (.getfield 237, 3) := by decide +kernel
theorem dX9_readsLetters_78 : decode cX9_readsLetters 78 = .ok (.iaload, 1) := by decide +kernel
theorem dX9_readsLetters_79 : decode cX9_readsLetters 79 = .ok (.isub, 1) := by decide +kernel
theorem dX9_readsLetters_80 : decode cX9_readsLetters 80 = .ok (.iastore, 1) := by decide +kernel
theorem dX9_readsLetters_81 : decode cX9_readsLetters 81 = .ok (.aload_n 0, 1) := by decide +kernel
theorem dX9_readsLetters_82 : decode cX9_readsLetters 82 = .ok (.getfield 74, 3) := by decide +kernel
theorem dX9_readsLetters_85 : decode cX9_readsLetters 85 = .ok (.aload_n 0, 1) := by decide +kernel
theorem dX9_readsLetters_86 : decode cX9_readsLetters 86 = .ok (.getfield 237, 3) := by decide +kernel
theorem dX9_readsLetters_89 : decode cX9_readsLetters 89 = .ok (.iaload, 1) := by decide +kernel
theorem dX9_readsLetters_90 : decode cX9_readsLetters 90 = .ok (.ifCond .le 7, 3) := by decide +kernel
theorem dX9_readsLetters_93 : decode cX9_readsLetters 93 = .ok (.iconst 1, 1) := by decide +kernel
theorem dX9_readsLetters_94 : decode cX9_readsLetters 94 = .ok (.goto 4, 3) := by decide +kernel
theorem dX9_readsLetters_97 : decode cX9_readsLetters 97 = .ok (.iconst 0, 1) := by decide +kernel
theorem dX9_readsLetters_98 : decode cX9_readsLetters 98 = .ok (.ireturn, 1) := by decide +kernel
theorem dX9_readsAll_0 : decode cX9_readsAll 0 = .ok (.iload_n 1, 1) := by decide +kernel
theorem dX9_readsAll_1 : decode cX9_readsAll 1 = .ok (.tableswitch 184 103 119 #[126, 120, 184, 184, 162, 120, 156, 184, 156, 90, 184, 184, 184, 120, 184, 184, 83], 83) := by decide +kernel
theorem dX9_readsAll_84 : decode cX9_readsAll 84 = .ok (.aload_n 0, 1) := by decide +kernel
theorem dX9_readsAll_85 : decode cX9_readsAll 85 = .ok (.bipush 12, 2) := by decide +kernel
theorem dX9_readsAll_87 : decode cX9_readsAll 87 = .ok (.invokevirtual 240, 3) := by decide +kernel
theorem dX9_readsAll_90 : decode cX9_readsAll 90 = .ok (.ireturn, 1) := by decide +kernel
theorem dX9_readsAll_91 : decode cX9_readsAll 91 = .ok (.aload_n 0, 1) := by decide +kernel
theorem dX9_readsAll_92 : decode cX9_readsAll 92 = .ok (.iconst 3, 1) := by decide +kernel
theorem dX9_readsAll_93 : decode cX9_readsAll 93 = .ok (.invokevirtual 240, 3) := by decide +kernel
theorem dX9_readsAll_96 : decode cX9_readsAll 96 = .ok (.ifCond .eq 23, 3) := by decide +kernel
theorem dX9_readsAll_99 : decode cX9_readsAll 99 = .ok (.aload_n 0, 1) := by decide +kernel
theorem dX9_readsAll_100 : decode cX9_readsAll 100 = .ok (.iconst 1, 1) := by decide +kernel
theorem dX9_readsAll_101 : decode cX9_readsAll 101 = .ok (.invokevirtual 243, 3) := by decide +kernel
theorem dX9_readsAll_104 : decode cX9_readsAll 104 = .ok (.ifCond .eq 15, 3) := by decide +kernel
theorem dX9_readsAll_107 : decode cX9_readsAll 107 = .ok (.aload_n 0, 1) := by decide +kernel
theorem dX9_readsAll_108 : decode cX9_readsAll 108 = .ok (.iconst 1, 1) := by decide +kernel
theorem dX9_readsAll_109 : decode cX9_readsAll 109 = .ok (.invokevirtual 243, 3) := by decide +kernel
theorem dX9_readsAll_112 : decode cX9_readsAll 112 = .ok (.ifCond .eq 7, 3) := by decide +kernel
theorem dX9_readsAll_115 : decode cX9_readsAll 115 = .ok (.iconst 1, 1) := by decide +kernel
theorem dX9_readsAll_116 : decode cX9_readsAll 116 = .ok (.goto 4, 3) := by decide +kernel
theorem dX9_readsAll_119 : decode cX9_readsAll 119 = .ok (.iconst 0, 1) := by decide +kernel
theorem dX9_readsAll_120 : decode cX9_readsAll 120 = .ok (.ireturn, 1) := by decide +kernel
theorem dX9_readsAll_121 : decode cX9_readsAll 121 = .ok (.aload_n 0, 1) := by decide +kernel
theorem dX9_readsAll_122 : decode cX9_readsAll 122 = .ok (.iconst 2, 1) := by decide +kernel
theorem dX9_readsAll_123 : decode cX9_readsAll 123 = .ok (.invokevirtual 243, 3) := by decide +kernel
theorem dX9_readsAll_126 : decode cX9_readsAll 126 = .ok (.ireturn, 1) := by decide +kernel
theorem dX9_readsAll_127 : decode cX9_readsAll 127 = .ok (.aload_n 0, 1) := by decide +kernel
theorem dX9_readsAll_128 : decode cX9_readsAll 128 = .ok (.iconst 1, 1) := by decide +kernel
theorem dX9_readsAll_129 : decode cX9_readsAll 129 = .ok (.invokevirtual 243, 3) := by decide +kernel
theorem dX9_readsAll_132 : decode cX9_readsAll 132 = .ok (.ifCond .eq 23, 3) := by decide +kernel
theorem dX9_readsAll_135 : decode cX9_readsAll 135 = .ok (.aload_n 0, 1) := by decide +kernel
theorem dX9_readsAll_136 : decode cX9_readsAll 136 = .ok (.iconst 1, 1) := by decide +kernel
theorem dX9_readsAll_137 : decode cX9_readsAll 137 = .ok (.invokevirtual 243, 3) := by decide +kernel
theorem dX9_readsAll_140 : decode cX9_readsAll 140 = .ok (.ifCond .eq 15, 3) := by decide +kernel
theorem dX9_readsAll_143 : decode cX9_readsAll 143 = .ok (.aload_n 0, 1) := by decide +kernel
theorem dX9_readsAll_144 : decode cX9_readsAll 144 = .ok (.iconst 1, 1) := by decide +kernel
theorem dX9_readsAll_145 : decode cX9_readsAll 145 = .ok (.invokevirtual 243, 3) := by decide +kernel
theorem dX9_readsAll_148 : decode cX9_readsAll 148 = .ok (.ifCond .eq 7, 3) := by decide +kernel
theorem dX9_readsAll_151 : decode cX9_readsAll 151 = .ok (.iconst 1, 1) := by decide +kernel
theorem dX9_readsAll_152 : decode cX9_readsAll 152 = .ok (.goto 4, 3) := by decide +kernel
theorem dX9_readsAll_155 : decode cX9_readsAll 155 = .ok (.iconst 0, 1) := by decide +kernel
theorem dX9_readsAll_156 : decode cX9_readsAll 156 = .ok (.ireturn, 1) := by decide +kernel
theorem dX9_readsAll_157 : decode cX9_readsAll 157 = .ok (.aload_n 0, 1) := by decide +kernel
theorem dX9_readsAll_158 : decode cX9_readsAll 158 = .ok (.iconst 1, 1) := by decide +kernel
theorem dX9_readsAll_159 : decode cX9_readsAll 159 = .ok (.invokevirtual 243, 3) := by decide +kernel
theorem dX9_readsAll_162 : decode cX9_readsAll 162 = .ok (.ireturn, 1) := by decide +kernel
theorem dX9_readsAll_163 : decode cX9_readsAll 163 = .ok (.aload_n 0, 1) := by decide +kernel
theorem dX9_readsAll_164 : decode cX9_readsAll 164 = .ok (.iconst 1, 1) := by decide +kernel
theorem dX9_readsAll_165 : decode cX9_readsAll 165 = .ok (.invokevirtual 243, 3) := by decide +kernel
theorem dX9_readsAll_168 : decode cX9_readsAll 168 = .ok (.ifCond .eq 15, 3) := by decide +kernel
theorem dX9_readsAll_171 : decode cX9_readsAll 171 = .ok (.aload_n 0, 1) := by decide +kernel
theorem dX9_readsAll_172 : decode cX9_readsAll 172 = .ok (.iconst 1, 1) := by decide +kernel
theorem dX9_readsAll_173 : decode cX9_readsAll 173 = .ok (.invokevirtual 243, 3) := by decide +kernel
theorem dX9_readsAll_176 : decode cX9_readsAll 176 = .ok (.ifCond .eq 7, 3) := by decide +kernel
theorem dX9_readsAll_179 : decode cX9_readsAll 179 = .ok (.iconst 1, 1) := by decide +kernel
theorem dX9_readsAll_180 : decode cX9_readsAll 180 = .ok (.goto 4, 3) := by decide +kernel
theorem dX9_readsAll_183 : decode cX9_readsAll 183 = .ok (.iconst 0, 1) := by decide +kernel
theorem dX9_readsAll_184 : decode cX9_readsAll 184 = .ok (.ireturn, 1) := by decide +kernel
theorem dX9_readsAll_185 : decode cX9_readsAll 185 = .ok (.iconst 1, 1) := by decide +kernel
theorem dX9_readsAll_186 : decode cX9_readsAll 186 = .ok (.ireturn, 1) := by decide +kernel
theorem dX9_statement_0 : decode cX9_statement 0 = .ok (.aload_n 0, 1) := by decide +kernel
theorem dX9_statement_1 : decode cX9_statement 1 = .ok (.invokevirtual 231, 3) := by decide +kernel
theorem dX9_statement_4 : decode cX9_statement 4 = .ok (.istore_n 1, 1) := by decide +kernel
theorem dX9_statement_5 : decode cX9_statement 5 = .ok (.iload_n 1, 1) := by decide +kernel
theorem dX9_statement_6 : decode cX9_statement 6 = .ok (.bipush 119, 2) := by decide +kernel
theorem dX9_statement_8 : decode cX9_statement 8 = .ok (.if_icmp .eq 59, 3) := by decide +kernel
theorem dX9_statement_11 : decode cX9_statement 11 = .ok (.iload_n 1, 1) := by decide +kernel
theorem dX9_statement_12 : decode cX9_statement 12 = .ok (.bipush 110, 2) := by decide +kernel
theorem dX9_statement_14 : decode cX9_statement 14 = .ok (.if_icmp .eq 53, 3) := by decide +kernel
theorem dX9_statement_17 : decode cX9_statement 17 = .ok (.iload_n 1, 1) := by decide +kernel
theorem dX9_statement_18 : decode cX9_statement 18 = .ok (.bipush 112, 2) := by decide +kernel
theorem dX9_statement_20 : decode cX9_statement 20 = .ok (.if_icmp .eq 47, 3) := by decide +kernel
theorem dX9_statement_23 : decode cX9_statement 23 = .ok (.iload_n 1, 1) := by decide +kernel
theorem dX9_statement_24 : decode cX9_statement 24 = .ok (.bipush 108, 2) := by decide +kernel
theorem dX9_statement_26 : decode cX9_statement 26 = .ok (.if_icmp .eq 41, 3) := by decide +kernel
theorem dX9_statement_29 : decode cX9_statement 29 = .ok (.iload_n 1, 1) := by decide +kernel
theorem dX9_statement_30 : decode cX9_statement 30 = .ok (.bipush 103, 2) := by decide +kernel
theorem dX9_statement_32 : decode cX9_statement 32 = .ok (.if_icmp .eq 35, 3) := by decide +kernel
theorem dX9_statement_35 : decode cX9_statement 35 = .ok (.iload_n 1, 1) := by decide +kernel
theorem dX9_statement_36 : decode cX9_statement 36 = .ok (.bipush 116, 2) := by decide +kernel
theorem dX9_statement_38 : decode cX9_statement 38 = .ok (.if_icmp .eq 29, 3) := by decide +kernel
theorem dX9_statement_41 : decode cX9_statement 41 = .ok (.iload_n 1, 1) := by decide +kernel
theorem dX9_statement_42 : decode cX9_statement 42 = .ok (.bipush 104, 2) := by decide +kernel
theorem dX9_statement_44 : decode cX9_statement 44 = .ok (.if_icmp .eq 23, 3) := by decide +kernel
theorem dX9_statement_47 : decode cX9_statement 47 = .ok (.iload_n 1, 1) := by decide +kernel
theorem dX9_statement_48 : decode cX9_statement 48 = .ok (.bipush 111, 2) := by decide +kernel
theorem dX9_statement_50 : decode cX9_statement 50 = .ok (.if_icmp .eq 17, 3) := by decide +kernel
theorem dX9_statement_53 : decode cX9_statement 53 = .ok (.iload_n 1, 1) := by decide +kernel
theorem dX9_statement_54 : decode cX9_statement 54 = .ok (.bipush 109, 2) := by decide +kernel
theorem dX9_statement_56 : decode cX9_statement 56 = .ok (.if_icmp .eq 11, 3) := by decide +kernel
theorem dX9_statement_59 : decode cX9_statement 59 = .ok (.iload_n 1, 1) := by decide +kernel
theorem dX9_statement_60 : decode cX9_statement 60 = .ok (.bipush 107, 2) := by decide +kernel
theorem dX9_statement_62 : decode cX9_statement 62 = .ok (.if_icmp .eq 5, 3) := by decide +kernel
theorem dX9_statement_65 : decode cX9_statement 65 = .ok (.iconst 0, 1) := by decide +kernel
theorem dX9_statement_66 : decode cX9_statement 66 = .ok (.ireturn, 1) := by decide +kernel
theorem dX9_statement_67 : decode cX9_statement 67 = .ok (.aload_n 0, 1) := by decide +kernel
theorem dX9_statement_68 : decode cX9_statement 68 = .ok (.getfield 62, 3) := by decide +kernel
theorem dX9_statement_71 : decode cX9_statement 71 = .ok (.aload_n 0, 1) := by decide +kernel
theorem dX9_statement_72 : decode cX9_statement 72 = .ok (.getfield 237, 3) := by decide +kernel
theorem dX9_statement_75 : decode cX9_statement 75 = .ok (.iload_n 1, 1) := by decide +kernel
theorem dX9_statement_76 : decode cX9_statement 76 = .ok (.iastore, 1) := by decide +kernel
theorem dX9_statement_77 : decode cX9_statement 77 = .ok (.aload_n 0, 1) := by decide +kernel
theorem dX9_statement_78 : decode cX9_statement 78 = .ok (.getfield 65, 3) := by decide +kernel
theorem dX9_statement_81 : decode cX9_statement 81 = .ok (.aload_n 0, 1) := by decide +kernel
theorem dX9_statement_82 : decode cX9_statement 82 = .ok (.getfield 237, 3) := by decide +kernel
theorem dX9_statement_85 : decode cX9_statement 85 = .ok (.aload_n 0, 1) := by decide +kernel
theorem dX9_statement_86 : decode cX9_statement 86 = .ok (.getfield 228, 3) := by decide +kernel
theorem dX9_statement_89 : decode cX9_statement 89 = .ok (.iastore, 1) := by decide +kernel
theorem dX9_statement_90 : decode cX9_statement 90 = .ok (.aload_n 0, 1) := by decide +kernel
theorem dX9_statement_91 : decode cX9_statement 91 = .ok (.iconst 3, 1) := by decide +kernel
theorem dX9_statement_92 : decode cX9_statement 92 = .ok (.aload_n 0, 1) := by decide +kernel
theorem dX9_statement_93 : decode cX9_statement 93 = .ok (.getfield 237, 3) := by decide +kernel
theorem dX9_statement_96 : decode cX9_statement 96 = .ok (.imul, 1) := by decide +kernel
theorem dX9_statement_97 : decode cX9_statement 97 = .ok (.putfield 234, 3) := by decide +kernel
theorem dX9_statement_100 : decode cX9_statement 100 = .ok (.aload_n 0, 1) := by decide +kernel
theorem dX9_statement_101 : decode cX9_statement 101 = .ok (.dup, 1) := by decide +kernel
theorem dX9_statement_102 : decode cX9_statement 102 = .ok (.getfield 228, 3) := by decide +kernel
theorem dX9_statement_105 : decode cX9_statement 105 = .ok (.iconst 1, 1) := by decide +kernel
theorem dX9_statement_106 : decode cX9_statement 106 = .ok (.iadd, 1) := by decide +kernel
theorem dX9_statement_107 : decode cX9_statement 107 = .ok (.putfield 228, 3) := by decide +kernel
theorem dX9_statement_110 : decode cX9_statement 110 = .ok (.aload_n 0, 1) := by decide +kernel
theorem dX9_statement_111 : decode cX9_statement 111 = .ok (.iload_n 1, 1) := by decide +kernel
theorem dX9_statement_112 : decode cX9_statement 112 = .ok (.invokevirtual 246, 3) := by decide +kernel
theorem dX9_statement_115 : decode cX9_statement 115 = .ok (.ifCond .eq 12, 3) := by decide +kernel
theorem dX9_statement_118 : decode cX9_statement 118 = .ok (.aload_n 0, 1) := by decide +kernel
theorem dX9_statement_119 : decode cX9_statement 119 = .ok (.invokevirtual 231, 3) := by decide +kernel
theorem dX9_statement_122 : decode cX9_statement 122 = .ok (.bipush 59, 2) := by decide +kernel
theorem dX9_statement_124 : decode cX9_statement 124 = .ok (.if_icmp .eq 5, 3) := by decide +kernel
theorem dX9_statement_127 : decode cX9_statement 127 = .ok (.iconst 0, 1) := by decide +kernel
theorem dX9_statement_128 : decode cX9_statement 128 = .ok (.ireturn, 1) := by decide +kernel
theorem dX9_statement_129 : decode cX9_statement 129 = .ok (.aload_n 0, 1) := by decide +kernel
theorem dX9_statement_130 : decode cX9_statement 130 = .ok (.dup, 1) := by decide +kernel
theorem dX9_statement_131 : decode cX9_statement 131 = .ok (.getfield 228, 3) := by decide +kernel
theorem dX9_statement_134 : decode cX9_statement 134 = .ok (.iconst 1, 1) := by decide +kernel
theorem dX9_statement_135 : decode cX9_statement 135 = .ok (.iadd, 1) := by decide +kernel
theorem dX9_statement_136 : decode cX9_statement 136 = .ok (.putfield 228, 3) := by decide +kernel
theorem dX9_statement_139 : decode cX9_statement 139 = .ok (.iconst 1, 1) := by decide +kernel
theorem dX9_statement_140 : decode cX9_statement 140 = .ok (.ireturn, 1) := by decide +kernel
theorem dX9_comesWord_0 : decode cX9_comesWord 0 = .ok (.aload_n 0, 1) := by decide +kernel
theorem dX9_comesWord_1 : decode cX9_comesWord 1 = .ok (.getfield 122, 3) := by decide +kernel
theorem dX9_comesWord_4 : decode cX9_comesWord 4 = .ok (.bipush 16, 2) := by decide +kernel
theorem dX9_comesWord_6 : decode cX9_comesWord 6 = .ok (.if_icmp .ne 5, 3) := by decide +kernel
theorem dX9_comesWord_9 : decode cX9_comesWord 9 = .ok (.iconst 0, 1) := by decide +kernel
theorem dX9_comesWord_10 : decode cX9_comesWord 10 = .ok (.ireturn, 1) := by decide +kernel
theorem dX9_comesWord_11 : decode cX9_comesWord 11 = .ok (.aload_n 0, 1) := by decide +kernel
theorem dX9_comesWord_12 : decode cX9_comesWord 12 = .ok (.getfield 16, 3) := by decide +kernel
theorem dX9_comesWord_15 : decode cX9_comesWord 15 = .ok (.aload_n 0, 1) := by decide +kernel
theorem dX9_comesWord_16 : decode cX9_comesWord 16 = .ok (.getfield 122, 3) := by decide +kernel
theorem dX9_comesWord_19 : decode cX9_comesWord 19 = .ok (.aload_n 0, 1) := by decide +kernel
theorem dX9_comesWord_20 : decode cX9_comesWord 20 = .ok (.getfield 74, 3) := by decide +kernel
theorem dX9_comesWord_23 : decode cX9_comesWord 23 = .ok (.iload_n 1, 1) := by decide +kernel
theorem dX9_comesWord_24 : decode cX9_comesWord 24 = .ok (.iaload, 1) := by decide +kernel
theorem dX9_comesWord_25 : decode cX9_comesWord 25 = .ok (.iastore, 1) := by decide +kernel
theorem dX9_comesWord_26 : decode cX9_comesWord 26 = .ok (.aload_n 0, 1) := by decide +kernel
theorem dX9_comesWord_27 : decode cX9_comesWord 27 = .ok (.getfield 22, 3) := by decide +kernel
theorem dX9_comesWord_30 : decode cX9_comesWord 30 = .ok (.aload_n 0, 1) := by decide +kernel
theorem dX9_comesWord_31 : decode cX9_comesWord 31 = .ok (.getfield 122, 3) := by decide +kernel
theorem dX9_comesWord_34 : decode cX9_comesWord 34 = .ok (.iconst 0, 1) := by decide +kernel
theorem dX9_comesWord_35 : decode cX9_comesWord 35 = .ok (.iastore, 1) := by decide +kernel
theorem dX9_comesWord_36 : decode cX9_comesWord 36 = .ok (.iconst 0, 1) := by decide +kernel
theorem dX9_comesWord_37 : decode cX9_comesWord 37 = .ok (.istore_n 2, 1) := by decide +kernel
theorem dX9_comesWord_38 : decode cX9_comesWord 38 = .ok (.iload_n 2, 1) := by decide +kernel
theorem dX9_comesWord_39 : decode cX9_comesWord 39 = .ok (.aload_n 0, 1) := by decide +kernel
theorem dX9_comesWord_40 : decode cX9_comesWord 40 = .ok (.getfield 74, 3) := by decide +kernel
theorem dX9_comesWord_43 : decode cX9_comesWord 43 = .ok (.iload_n 1, 1) := by decide +kernel
theorem dX9_comesWord_44 : decode cX9_comesWord 44 = .ok (.iaload, 1) := by decide +kernel
theorem dX9_comesWord_45 : decode cX9_comesWord 45 = .ok (.if_icmp .ge 39, 3) := by decide +kernel
theorem dX9_comesWord_48 : decode cX9_comesWord 48 = .ok (.aload_n 0, 1) := by decide +kernel
theorem dX9_comesWord_49 : decode cX9_comesWord 49 = .ok (.getfield 19, 3) := by decide +kernel
theorem dX9_comesWord_52 : decode cX9_comesWord 52 = .ok (.bipush 12, 2) := by decide +kernel
theorem dX9_comesWord_54 : decode cX9_comesWord 54 = .ok (.aload_n 0, 1) := by decide +kernel
theorem dX9_comesWord_55 : decode cX9_comesWord 55 = .ok (.getfield 122, 3) := by decide +kernel
theorem dX9_comesWord_58 : decode cX9_comesWord 58 = .ok (.imul, 1) := by decide +kernel
theorem dX9_comesWord_59 : decode cX9_comesWord 59 = .ok (.iload_n 2, 1) := by decide +kernel
theorem dX9_comesWord_60 : decode cX9_comesWord 60 = .ok (.iadd, 1) := by decide +kernel
theorem dX9_comesWord_61 : decode cX9_comesWord 61 = .ok (.aload_n 0, 1) := by decide +kernel
theorem dX9_comesWord_62 : decode cX9_comesWord 62 = .ok (.getfield 59, 3) := by decide +kernel
theorem dX9_comesWord_65 : decode cX9_comesWord 65 = .ok (.aload_n 0, 1) := by decide +kernel
theorem dX9_comesWord_66 : decode cX9_comesWord 66 = .ok (.getfield 71, 3) := by decide +kernel
theorem dX9_comesWord_69 : decode cX9_comesWord 69 = .ok (.iload_n 1, 1) := by decide +kernel
theorem dX9_comesWord_70 : decode cX9_comesWord 70 = .ok (.iaload, 1) := by decide +kernel
theorem dX9_comesWord_71 : decode cX9_comesWord 71 = .ok (.iload_n 2, 1) := by decide +kernel
theorem dX9_comesWord_72 : decode cX9_comesWord 72 = .ok (.iadd, 1) := by decide +kernel
theorem dX9_comesWord_73 : decode cX9_comesWord 73 = .ok (.iaload, 1) := by decide +kernel
theorem dX9_comesWord_74 : decode cX9_comesWord 74 = .ok (.bipush 97, 2) := by decide +kernel
theorem dX9_comesWord_76 : decode cX9_comesWord 76 = .ok (.isub, 1) := by decide +kernel
theorem dX9_comesWord_77 : decode cX9_comesWord 77 = .ok (.iastore, 1) := by decide +kernel
theorem dX9_comesWord_78 : decode cX9_comesWord 78 = .ok (.iinc 2 1, 3) := by decide +kernel
theorem dX9_comesWord_81 : decode cX9_comesWord 81 = .ok (.goto (-43), 3) := by decide +kernel
theorem dX9_comesWord_84 : decode cX9_comesWord 84 = .ok (.aload_n 0, 1) := by decide +kernel
theorem dX9_comesWord_85 : decode cX9_comesWord 85 = .ok (.dup, 1) := by decide +kernel
theorem dX9_comesWord_86 : decode cX9_comesWord 86 = .ok (.getfield 122, 3) := by decide +kernel
theorem dX9_comesWord_89 : decode cX9_comesWord 89 = .ok (.iconst 1, 1) := by decide +kernel
theorem dX9_comesWord_90 : decode cX9_comesWord 90 = .ok (.iadd, 1) := by decide +kernel
theorem dX9_comesWord_91 : decode cX9_comesWord 91 = .ok (.putfield 122, 3) := by decide +kernel
theorem dX9_comesWord_94 : decode cX9_comesWord 94 = .ok (.iconst 1, 1) := by decide +kernel
theorem dX9_comesWord_95 : decode cX9_comesWord 95 = .ok (.ireturn, 1) := by decide +kernel
theorem dX9_isPatternSo_0 : decode cX9_isPatternSo 0 = .ok (.aload_n 0, 1) := by decide +kernel
theorem dX9_isPatternSo_1 : decode cX9_isPatternSo 1 = .ok (.getfield 25, 3) := by decide +kernel
theorem dX9_isPatternSo_4 : decode cX9_isPatternSo 4 = .ok (.iload_n 1, 1) := by decide +kernel
theorem dX9_isPatternSo_5 : decode cX9_isPatternSo 5 = .ok (.iaload, 1) := by decide +kernel
theorem dX9_isPatternSo_6 : decode cX9_isPatternSo 6 = .ok (.iload_n 2, 1) := by decide +kernel
theorem dX9_isPatternSo_7 : decode cX9_isPatternSo 7 = .ok (.if_icmp .ne 17, 3) := by decide +kernel
theorem dX9_isPatternSo_10 : decode cX9_isPatternSo 10 = .ok (.aload_n 0, 1) := by decide +kernel
theorem dX9_isPatternSo_11 : decode cX9_isPatternSo 11 = .ok (.getfield 31, 3) := by decide +kernel
theorem dX9_isPatternSo_14 : decode cX9_isPatternSo 14 = .ok (.iload_n 1, 1) := by decide +kernel
theorem dX9_isPatternSo_15 : decode cX9_isPatternSo 15 = .ok (.iaload, 1) := by decide +kernel
theorem dX9_isPatternSo_16 : decode cX9_isPatternSo 16 = .ok (.iload_n 3, 1) := by decide +kernel
theorem dX9_isPatternSo_17 : decode cX9_isPatternSo 17 = .ok (.if_icmp .ne 7, 3) := by decide +kernel
theorem dX9_isPatternSo_20 : decode cX9_isPatternSo 20 = .ok (.iconst 1, 1) := by decide +kernel
theorem dX9_isPatternSo_21 : decode cX9_isPatternSo 21 = .ok (.goto 4, 3) := by decide +kernel
theorem dX9_isPatternSo_24 : decode cX9_isPatternSo 24 = .ok (.iconst 0, 1) := by decide +kernel
theorem dX9_isPatternSo_25 : decode cX9_isPatternSo 25 = .ok (.istore 4, 2) := by decide +kernel
theorem dX9_isPatternSo_27 : decode cX9_isPatternSo 27 = .ok (.iconst 0, 1) := by decide +kernel
theorem dX9_isPatternSo_28 : decode cX9_isPatternSo 28 = .ok (.istore 5, 2) := by decide +kernel
theorem dX9_isPatternSo_30 : decode cX9_isPatternSo 30 = .ok (.iload 5, 2) := by decide +kernel
theorem dX9_isPatternSo_32 : decode cX9_isPatternSo 32 = .ok (.iload_n 2, 1) := by decide +kernel
theorem dX9_isPatternSo_33 : decode cX9_isPatternSo 33 = .ok (.if_icmp .ge 42, 3) := by decide +kernel
theorem dX9_isPatternSo_36 : decode cX9_isPatternSo 36 = .ok (.iload 4, 2) := by decide +kernel
theorem dX9_isPatternSo_38 : decode cX9_isPatternSo 38 = .ok (.ifCond .eq 37, 3) := by decide +kernel
theorem dX9_isPatternSo_41 : decode cX9_isPatternSo 41 = .ok (.aload_n 0, 1) := by decide +kernel
theorem dX9_isPatternSo_42 : decode cX9_isPatternSo 42 = .ok (.getfield 28, 3) := by decide +kernel
theorem dX9_isPatternSo_45 : decode cX9_isPatternSo 45 = .ok (.iconst 3, 1) := by decide +kernel
theorem dX9_isPatternSo_46 : decode cX9_isPatternSo 46 = .ok (.iload_n 1, 1) := by decide +kernel
theorem dX9_isPatternSo_47 : decode cX9_isPatternSo 47 = .ok (.imul, 1) := by decide +kernel
theorem dX9_isPatternSo_48 : decode cX9_isPatternSo 48 = .ok (.iload 5, 2) := by decide +kernel
theorem dX9_isPatternSo_50 : decode cX9_isPatternSo 50 = .ok (.iadd, 1) := by decide +kernel
theorem dX9_isPatternSo_51 : decode cX9_isPatternSo 51 = .ok (.iaload, 1) := by decide +kernel
theorem dX9_isPatternSo_52 : decode cX9_isPatternSo 52 = .ok (.aload_n 0, 1) := by decide +kernel
theorem dX9_isPatternSo_53 : decode cX9_isPatternSo 53 = .ok (.getfield 77, 3) := by decide +kernel
theorem dX9_isPatternSo_56 : decode cX9_isPatternSo 56 = .ok (.iload 5, 2) := by decide +kernel
theorem dX9_isPatternSo_58 : decode cX9_isPatternSo 58 = .ok (.iaload, 1) := by decide +kernel
theorem dX9_isPatternSo_59 : decode cX9_isPatternSo 59 = .ok (.if_icmp .ne 7, 3) := by decide +kernel
theorem dX9_isPatternSo_62 : decode cX9_isPatternSo 62 = .ok (.iconst 1, 1) := by decide +kernel
theorem dX9_isPatternSo_63 : decode cX9_isPatternSo 63 = .ok (.goto 4, 3) := by decide +kernel
theorem dX9_isPatternSo_66 : decode cX9_isPatternSo 66 = .ok (.iconst 0, 1) := by decide +kernel
theorem dX9_isPatternSo_67 : decode cX9_isPatternSo 67 = .ok (.istore 4, 2) := by decide +kernel
theorem dX9_isPatternSo_69 : decode cX9_isPatternSo 69 = .ok (.iinc 5 1, 3) := by decide +kernel
theorem dX9_isPatternSo_72 : decode cX9_isPatternSo 72 = .ok (.goto (-42), 3) := by decide +kernel
theorem dX9_isPatternSo_75 : decode cX9_isPatternSo 75 = .ok (.iload 4, 2) := by decide +kernel
theorem dX9_isPatternSo_77 : decode cX9_isPatternSo 77 = .ok (.ireturn, 1) := by decide +kernel
theorem dX9_placeOfPattern_0 : decode cX9_placeOfPattern 0 = .ok (.iconst 0, 1) := by decide +kernel
theorem dX9_placeOfPattern_1 : decode cX9_placeOfPattern 1 = .ok (.istore_n 3, 1) := by decide +kernel
theorem dX9_placeOfPattern_2 : decode cX9_placeOfPattern 2 = .ok (.iload_n 3, 1) := by decide +kernel
theorem dX9_placeOfPattern_3 : decode cX9_placeOfPattern 3 = .ok (.aload_n 0, 1) := by decide +kernel
theorem dX9_placeOfPattern_4 : decode cX9_placeOfPattern 4 = .ok (.getfield 135, 3) := by decide +kernel
theorem dX9_placeOfPattern_7 : decode cX9_placeOfPattern 7 = .ok (.if_icmp .ge 19, 3) := by decide +kernel
theorem dX9_placeOfPattern_10 : decode cX9_placeOfPattern 10 = .ok (.aload_n 0, 1) := by decide +kernel
theorem dX9_placeOfPattern_11 : decode cX9_placeOfPattern 11 = .ok (.iload_n 3, 1) := by decide +kernel
theorem dX9_placeOfPattern_12 : decode cX9_placeOfPattern 12 = .ok (.iload_n 1, 1) := by decide +kernel
theorem dX9_placeOfPattern_13 : decode cX9_placeOfPattern 13 = .ok (.iload_n 2, 1) := by decide +kernel
theorem dX9_placeOfPattern_14 : decode cX9_placeOfPattern 14 = .ok (.invokevirtual 249, 3) := by decide +kernel
theorem dX9_placeOfPattern_17 : decode cX9_placeOfPattern 17 = .ok (.ifCond .ne 9, 3) := by decide +kernel
theorem dX9_placeOfPattern_20 : decode cX9_placeOfPattern 20 = .ok (.iinc 3 1, 3) := by decide +kernel
theorem dX9_placeOfPattern_23 : decode cX9_placeOfPattern 23 = .ok (.goto (-21), 3) := by decide +kernel
theorem dX9_placeOfPattern_26 : decode cX9_placeOfPattern 26 = .ok (.iload_n 3, 1) := by decide +kernel
theorem dX9_placeOfPattern_27 : decode cX9_placeOfPattern 27 = .ok (.ireturn, 1) := by decide +kernel
theorem dX9_comesPattern_0 : decode cX9_comesPattern 0 = .ok (.aload_n 0, 1) := by decide +kernel
theorem dX9_comesPattern_1 : decode cX9_comesPattern 1 = .ok (.getfield 25, 3) := by decide +kernel
theorem dX9_comesPattern_4 : decode cX9_comesPattern 4 = .ok (.iload_n 1, 1) := by decide +kernel
theorem dX9_comesPattern_5 : decode cX9_comesPattern 5 = .ok (.iload_n 2, 1) := by decide +kernel
theorem dX9_comesPattern_6 : decode cX9_comesPattern 6 = .ok (.iastore, 1) := by decide +kernel
theorem dX9_comesPattern_7 : decode cX9_comesPattern 7 = .ok (.aload_n 0, 1) := by decide +kernel
theorem dX9_comesPattern_8 : decode cX9_comesPattern 8 = .ok (.getfield 31, 3) := by decide +kernel
theorem dX9_comesPattern_11 : decode cX9_comesPattern 11 = .ok (.iload_n 1, 1) := by decide +kernel
theorem dX9_comesPattern_12 : decode cX9_comesPattern 12 = .ok (.iload_n 3, 1) := by decide +kernel
theorem dX9_comesPattern_13 : decode cX9_comesPattern 13 = .ok (.iastore, 1) := by decide +kernel
theorem dX9_comesPattern_14 : decode cX9_comesPattern 14 = .ok (.aload_n 0, 1) := by decide +kernel
theorem dX9_comesPattern_15 : decode cX9_comesPattern 15 = .ok (.getfield 34, 3) := by decide +kernel
theorem dX9_comesPattern_18 : decode cX9_comesPattern 18 = .ok (.iload_n 1, 1) := by decide +kernel
theorem dX9_comesPattern_19 : decode cX9_comesPattern 19 = .ok (.iload 4, 2) := by decide +kernel
theorem dX9_comesPattern_21 : decode cX9_comesPattern 21 = .ok (.iastore, 1) := by decide +kernel
theorem dX9_comesPattern_22 : decode cX9_comesPattern 22 = .ok (.iconst 0, 1) := by decide +kernel
theorem dX9_comesPattern_23 : decode cX9_comesPattern 23 = .ok (.istore 5, 2) := by decide +kernel
theorem dX9_comesPattern_25 : decode cX9_comesPattern 25 = .ok (.iload 5, 2) := by decide +kernel
theorem dX9_comesPattern_27 : decode cX9_comesPattern 27 = .ok (.iload_n 2, 1) := by decide +kernel
theorem dX9_comesPattern_28 : decode cX9_comesPattern 28 = .ok (.if_icmp .ge 27, 3) := by decide +kernel
theorem dX9_comesPattern_31 : decode cX9_comesPattern 31 = .ok (.aload_n 0, 1) := by decide +kernel
theorem dX9_comesPattern_32 : decode cX9_comesPattern 32 = .ok (.getfield 28, 3) := by decide +kernel
theorem dX9_comesPattern_35 : decode cX9_comesPattern 35 = .ok (.iconst 3, 1) := by decide +kernel
theorem dX9_comesPattern_36 : decode cX9_comesPattern 36 = .ok (.iload_n 1, 1) := by decide +kernel
theorem dX9_comesPattern_37 : decode cX9_comesPattern 37 = .ok (.imul, 1) := by decide +kernel
theorem dX9_comesPattern_38 : decode cX9_comesPattern 38 = .ok (.iload 5, 2) := by decide +kernel
theorem dX9_comesPattern_40 : decode cX9_comesPattern 40 = .ok (.iadd, 1) := by decide +kernel
theorem dX9_comesPattern_41 : decode cX9_comesPattern 41 = .ok (.aload_n 0, 1) := by decide +kernel
theorem dX9_comesPattern_42 : decode cX9_comesPattern 42 = .ok (.getfield 77, 3) := by decide +kernel
theorem dX9_comesPattern_45 : decode cX9_comesPattern 45 = .ok (.iload 5, 2) := by decide +kernel
theorem dX9_comesPattern_47 : decode cX9_comesPattern 47 = .ok (.iaload, 1) := by decide +kernel
theorem dX9_comesPattern_48 : decode cX9_comesPattern 48 = .ok (.iastore, 1) := by decide +kernel
theorem dX9_comesPattern_49 : decode cX9_comesPattern 49 = .ok (.iinc 5 1, 3) := by decide +kernel
theorem dX9_comesPattern_52 : decode cX9_comesPattern 52 = .ok (.goto (-27), 3) := by decide +kernel
theorem dX9_comesPattern_55 : decode cX9_comesPattern 55 = .ok (.iload_n 1, 1) := by decide +kernel
theorem dX9_comesPattern_56 : decode cX9_comesPattern 56 = .ok (.aload_n 0, 1) := by decide +kernel
theorem dX9_comesPattern_57 : decode cX9_comesPattern 57 = .ok (.getfield 135, 3) := by decide +kernel
theorem dX9_comesPattern_60 : decode cX9_comesPattern 60 = .ok (.if_icmp .ne 13, 3) := by decide +kernel
theorem dX9_comesPattern_63 : decode cX9_comesPattern 63 = .ok (.aload_n 0, 1) := by decide +kernel
theorem dX9_comesPattern_64 : decode cX9_comesPattern 64 = .ok (.dup, 1) := by decide +kernel
theorem dX9_comesPattern_65 : decode cX9_comesPattern 65 = .ok (.getfield 135, 3) := by decide +kernel
theorem dX9_comesPattern_68 : decode cX9_comesPattern 68 = .ok (.iconst 1, 1) := by decide +kernel
theorem dX9_comesPattern_69 : decode cX9_comesPattern 69 = .ok (.iadd, 1) := by decide +kernel
theorem dX9_comesPattern_70 : decode cX9_comesPattern 70 = .ok (.putfield 135, 3) := by decide +kernel
theorem dX9_comesPattern_73 : decode cX9_comesPattern 73 = .ok (.return_, 1) := by decide +kernel
theorem dX9_comesPatternTold_0 : decode cX9_comesPatternTold 0 = .ok (.aload_n 0, 1) := by decide +kernel
theorem dX9_comesPatternTold_1 : decode cX9_comesPatternTold 1 = .ok (.getfield 74, 3) := by decide +kernel
theorem dX9_comesPatternTold_4 : decode cX9_comesPatternTold 4 = .ok (.iload_n 1, 1) := by decide +kernel
theorem dX9_comesPatternTold_5 : decode cX9_comesPatternTold 5 = .ok (.iaload, 1) := by decide +kernel
theorem dX9_comesPatternTold_6 : decode cX9_comesPatternTold 6 = .ok (.istore 4, 2) := by decide +kernel
theorem dX9_comesPatternTold_8 : decode cX9_comesPatternTold 8 = .ok (.iconst 0, 1) := by decide +kernel
theorem dX9_comesPatternTold_9 : decode cX9_comesPatternTold 9 = .ok (.istore 5, 2) := by decide +kernel
theorem dX9_comesPatternTold_11 : decode cX9_comesPatternTold 11 = .ok (.iload 5, 2) := by decide +kernel
theorem dX9_comesPatternTold_13 : decode cX9_comesPatternTold 13 = .ok (.iload 4, 2) := by decide +kernel
theorem dX9_comesPatternTold_15 : decode cX9_comesPatternTold 15 = .ok (.if_icmp .ge 33, 3) := by decide +kernel
theorem dX9_comesPatternTold_18 : decode cX9_comesPatternTold 18 = .ok (.aload_n 0, 1) := by decide +kernel
theorem dX9_comesPatternTold_19 : decode cX9_comesPatternTold 19 = .ok (.getfield 77, 3) := by decide +kernel
theorem dX9_comesPatternTold_22 : decode cX9_comesPatternTold 22 = .ok (.iload 5, 2) := by decide +kernel
theorem dX9_comesPatternTold_24 : decode cX9_comesPatternTold 24 = .ok (.aload_n 0, 1) := by decide +kernel
theorem dX9_comesPatternTold_25 : decode cX9_comesPatternTold 25 = .ok (.getfield 59, 3) := by decide +kernel
theorem dX9_comesPatternTold_28 : decode cX9_comesPatternTold 28 = .ok (.aload_n 0, 1) := by decide +kernel
theorem dX9_comesPatternTold_29 : decode cX9_comesPatternTold 29 = .ok (.getfield 71, 3) := by decide +kernel
theorem dX9_comesPatternTold_32 : decode cX9_comesPatternTold 32 = .ok (.iload_n 1, 1) := by decide +kernel
theorem dX9_comesPatternTold_33 : decode cX9_comesPatternTold 33 = .ok (.iaload, 1) := by decide +kernel
theorem dX9_comesPatternTold_34 : decode cX9_comesPatternTold 34 = .ok (.iload 5, 2) := by decide +kernel
theorem dX9_comesPatternTold_36 : decode cX9_comesPatternTold 36 = .ok (.iadd, 1) := by decide +kernel
theorem dX9_comesPatternTold_37 : decode cX9_comesPatternTold 37 = .ok (.iaload, 1) := by decide +kernel
theorem dX9_comesPatternTold_38 : decode cX9_comesPatternTold 38 = .ok (.bipush 97, 2) := by decide +kernel
theorem dX9_comesPatternTold_40 : decode cX9_comesPatternTold 40 = .ok (.isub, 1) := by decide +kernel
theorem dX9_comesPatternTold_41 : decode cX9_comesPatternTold 41 = .ok (.iastore, 1) := by decide +kernel
theorem dX9_comesPatternTold_42 : decode cX9_comesPatternTold 42 = .ok (.iinc 5 1, 3) := by decide +kernel
theorem dX9_comesPatternTold_45 : decode cX9_comesPatternTold 45 = .ok (.goto (-34), 3) := by decide +kernel
theorem dX9_comesPatternTold_48 : decode cX9_comesPatternTold 48 = .ok (.aload_n 0, 1) := by decide +kernel
theorem dX9_comesPatternTold_49 : decode cX9_comesPatternTold 49 = .ok (.iload 4, 2) := by decide +kernel
theorem dX9_comesPatternTold_51 : decode cX9_comesPatternTold 51 = .ok (.iload_n 2, 1) := by decide +kernel
theorem dX9_comesPatternTold_52 : decode cX9_comesPatternTold 52 = .ok (.invokevirtual 252, 3) := by decide +kernel
theorem dX9_comesPatternTold_55 : decode cX9_comesPatternTold 55 = .ok (.istore 5, 2) := by decide +kernel
theorem dX9_comesPatternTold_57 : decode cX9_comesPatternTold 57 = .ok (.iload_n 2, 1) := by decide +kernel
theorem dX9_comesPatternTold_58 : decode cX9_comesPatternTold 58 = .ok (.iload 4, 2) := by decide +kernel
theorem dX9_comesPatternTold_60 : decode cX9_comesPatternTold 60 = .ok (.if_icmp .gt 15, 3) := by decide +kernel
theorem dX9_comesPatternTold_63 : decode cX9_comesPatternTold 63 = .ok (.iload_n 3, 1) := by decide +kernel
theorem dX9_comesPatternTold_64 : decode cX9_comesPatternTold 64 = .ok (.iconst 1, 1) := by decide +kernel
theorem dX9_comesPatternTold_65 : decode cX9_comesPatternTold 65 = .ok (.if_icmp .lt 10, 3) := by decide +kernel
theorem dX9_comesPatternTold_68 : decode cX9_comesPatternTold 68 = .ok (.iload 5, 2) := by decide +kernel
theorem dX9_comesPatternTold_70 : decode cX9_comesPatternTold 70 = .ok (.bipush 8, 2) := by decide +kernel
theorem dX9_comesPatternTold_72 : decode cX9_comesPatternTold 72 = .ok (.if_icmp .ne 5, 3) := by decide +kernel
theorem dX9_comesPatternTold_75 : decode cX9_comesPatternTold 75 = .ok (.iconst 0, 1) := by decide +kernel
theorem dX9_comesPatternTold_76 : decode cX9_comesPatternTold 76 = .ok (.ireturn, 1) := by decide +kernel
theorem dX9_comesPatternTold_77 : decode cX9_comesPatternTold 77 = .ok (.aload_n 0, 1) := by decide +kernel
theorem dX9_comesPatternTold_78 : decode cX9_comesPatternTold 78 = .ok (.iload 5, 2) := by decide +kernel
theorem dX9_comesPatternTold_80 : decode cX9_comesPatternTold 80 = .ok (.iload 4, 2) := by decide +kernel
theorem dX9_comesPatternTold_82 : decode cX9_comesPatternTold 82 = .ok (.iload_n 2, 1) := by decide +kernel
theorem dX9_comesPatternTold_83 : decode cX9_comesPatternTold 83 = .ok (.iload_n 3, 1) := by decide +kernel
theorem dX9_comesPatternTold_84 : decode cX9_comesPatternTold 84 = .ok (.invokevirtual 255, 3) := by decide +kernel
theorem dX9_comesPatternTold_87 : decode cX9_comesPatternTold 87 = .ok (.iconst 1, 1) := by decide +kernel
theorem dX9_comesPatternTold_88 : decode cX9_comesPatternTold 88 = .ok (.ireturn, 1) := by decide +kernel
theorem dX9_comesGlue_0 : decode cX9_comesGlue 0 = .ok (.iload_n 1, 1) := by decide +kernel
theorem dX9_comesGlue_1 : decode cX9_comesGlue 1 = .ok (.iconst 2, 1) := by decide +kernel
theorem dX9_comesGlue_2 : decode cX9_comesGlue 2 = .ok (.if_icmp .lt 8, 3) := by decide +kernel
theorem dX9_comesGlue_5 : decode cX9_comesGlue 5 = .ok (.iload_n 3, 1) := by decide +kernel
theorem dX9_comesGlue_6 : decode cX9_comesGlue 6 = .ok (.iload_n 1, 1) := by decide +kernel
theorem dX9_comesGlue_7 : decode cX9_comesGlue 7 = .ok (.if_icmp .le 5, 3) := by decide +kernel
theorem dX9_comesGlue_10 : decode cX9_comesGlue 10 = .ok (.iconst 0, 1) := by decide +kernel
theorem dX9_comesGlue_11 : decode cX9_comesGlue 11 = .ok (.ireturn, 1) := by decide +kernel
theorem dX9_comesGlue_12 : decode cX9_comesGlue 12 = .ok (.aload_n 0, 1) := by decide +kernel
theorem dX9_comesGlue_13 : decode cX9_comesGlue 13 = .ok (.iload_n 1, 1) := by decide +kernel
theorem dX9_comesGlue_14 : decode cX9_comesGlue 14 = .ok (.putfield 102, 3) := by decide +kernel
theorem dX9_comesGlue_17 : decode cX9_comesGlue 17 = .ok (.aload_n 0, 1) := by decide +kernel
theorem dX9_comesGlue_18 : decode cX9_comesGlue 18 = .ok (.iload_n 2, 1) := by decide +kernel
theorem dX9_comesGlue_19 : decode cX9_comesGlue 19 = .ok (.putfield 105, 3) := by decide +kernel
theorem dX9_comesGlue_22 : decode cX9_comesGlue 22 = .ok (.aload_n 0, 1) := by decide +kernel
theorem dX9_comesGlue_23 : decode cX9_comesGlue 23 = .ok (.iload_n 3, 1) := by decide +kernel
theorem dX9_comesGlue_24 : decode cX9_comesGlue 24 = .ok (.putfield 108, 3) := by decide +kernel
theorem dX9_comesGlue_27 : decode cX9_comesGlue 27 = .ok (.iconst 1, 1) := by decide +kernel
theorem dX9_comesGlue_28 : decode cX9_comesGlue 28 = .ok (.ireturn, 1) := by decide +kernel
theorem dX9_comesNumber_0 : decode cX9_comesNumber 0 = .ok (.iload_n 1, 1) := by decide +kernel
theorem dX9_comesNumber_1 : decode cX9_comesNumber 1 = .ok (.lookupswitch 88 #[(104, 74), (108, 43), (111, 81), (116, 57)], 43) := by decide +kernel
theorem dX9_comesNumber_44 : decode cX9_comesNumber 44 = .ok (.aload_n 0, 1) := by decide +kernel
theorem dX9_comesNumber_45 : decode cX9_comesNumber 45 = .ok (.iload_n 2, 1) := by decide +kernel
theorem dX9_comesNumber_46 : decode cX9_comesNumber 46 = .ok (.putfield 98, 3) := by decide +kernel
theorem dX9_comesNumber_49 : decode cX9_comesNumber 49 = .ok (.iload_n 2, 1) := by decide +kernel
theorem dX9_comesNumber_50 : decode cX9_comesNumber 50 = .ok (.bipush 10, 2) := by decide +kernel
theorem dX9_comesNumber_52 : decode cX9_comesNumber 52 = .ok (.bipush 60, 2) := by decide +kernel
theorem dX9_comesNumber_54 : decode cX9_comesNumber 54 = .ok (.invokestatic 125, 3) := by decide +kernel
theorem dX9_comesNumber_57 : decode cX9_comesNumber 57 = .ok (.ireturn, 1) := by decide +kernel
theorem dX9_comesNumber_58 : decode cX9_comesNumber 58 = .ok (.aload_n 0, 1) := by decide +kernel
theorem dX9_comesNumber_59 : decode cX9_comesNumber 59 = .ok (.iload_n 2, 1) := by decide +kernel
theorem dX9_comesNumber_60 : decode cX9_comesNumber 60 = .ok (.putfield 111, 3) := by decide +kernel
theorem dX9_comesNumber_63 : decode cX9_comesNumber 63 = .ok (.iload_n 2, 1) := by decide +kernel
theorem dX9_comesNumber_64 : decode cX9_comesNumber 64 = .ok (.bipush 40, 2) := by decide +kernel
theorem dX9_comesNumber_66 : decode cX9_comesNumber 66 = .ok (.if_icmp .gt 7, 3) := by decide +kernel
theorem dX9_comesNumber_69 : decode cX9_comesNumber 69 = .ok (.iconst 1, 1) := by decide +kernel
theorem dX9_comesNumber_70 : decode cX9_comesNumber 70 = .ok (.goto 4, 3) := by decide +kernel
theorem dX9_comesNumber_73 : decode cX9_comesNumber 73 = .ok (.iconst 0, 1) := by decide +kernel
theorem dX9_comesNumber_74 : decode cX9_comesNumber 74 = .ok (.ireturn, 1) := by decide +kernel
theorem dX9_comesNumber_75 : decode cX9_comesNumber 75 = .ok (.aload_n 0, 1) := by decide +kernel
theorem dX9_comesNumber_76 : decode cX9_comesNumber 76 = .ok (.iload_n 2, 1) := by decide +kernel
theorem dX9_comesNumber_77 : decode cX9_comesNumber 77 = .ok (.putfield 114, 3) := by decide +kernel
theorem dX9_comesNumber_80 : decode cX9_comesNumber 80 = .ok (.iconst 1, 1) := by decide +kernel
theorem dX9_comesNumber_81 : decode cX9_comesNumber 81 = .ok (.ireturn, 1) := by decide +kernel
theorem dX9_comesNumber_82 : decode cX9_comesNumber 82 = .ok (.aload_n 0, 1) := by decide +kernel
theorem dX9_comesNumber_83 : decode cX9_comesNumber 83 = .ok (.iload_n 2, 1) := by decide +kernel
theorem dX9_comesNumber_84 : decode cX9_comesNumber 84 = .ok (.putfield 117, 3) := by decide +kernel
theorem dX9_comesNumber_87 : decode cX9_comesNumber 87 = .ok (.iconst 1, 1) := by decide +kernel
theorem dX9_comesNumber_88 : decode cX9_comesNumber 88 = .ok (.ireturn, 1) := by decide +kernel
theorem dX9_comesNumber_89 : decode cX9_comesNumber 89 = .ok (.aload_n 0, 1) := by decide +kernel
theorem dX9_comesNumber_90 : decode cX9_comesNumber 90 = .ok (.iload_n 2, 1) := by decide +kernel
theorem dX9_comesNumber_91 : decode cX9_comesNumber 91 = .ok (.putfield 189, 3) := by decide +kernel
theorem dX9_comesNumber_94 : decode cX9_comesNumber 94 = .ok (.iload_n 2, 1) := by decide +kernel
theorem dX9_comesNumber_95 : decode cX9_comesNumber 95 = .ok (.iconst 2, 1) := by decide +kernel
theorem dX9_comesNumber_96 : decode cX9_comesNumber 96 = .ok (.if_icmp .gt 7, 3) := by decide +kernel
theorem dX9_comesNumber_99 : decode cX9_comesNumber 99 = .ok (.iconst 1, 1) := by decide +kernel
theorem dX9_comesNumber_100 : decode cX9_comesNumber 100 = .ok (.goto 4, 3) := by decide +kernel
theorem dX9_comesNumber_103 : decode cX9_comesNumber 103 = .ok (.iconst 0, 1) := by decide +kernel
theorem dX9_comesNumber_104 : decode cX9_comesNumber 104 = .ok (.ireturn, 1) := by decide +kernel
theorem dX9_comesForced_0 : decode cX9_comesForced 0 = .ok (.aload_n 0, 1) := by decide +kernel
theorem dX9_comesForced_1 : decode cX9_comesForced 1 = .ok (.getfield 122, 3) := by decide +kernel
theorem dX9_comesForced_4 : decode cX9_comesForced 4 = .ok (.ifCond .ne 5, 3) := by decide +kernel
theorem dX9_comesForced_7 : decode cX9_comesForced 7 = .ok (.iconst 0, 1) := by decide +kernel
theorem dX9_comesForced_8 : decode cX9_comesForced 8 = .ok (.ireturn, 1) := by decide +kernel
theorem dX9_comesForced_9 : decode cX9_comesForced 9 = .ok (.aload_n 0, 1) := by decide +kernel
theorem dX9_comesForced_10 : decode cX9_comesForced 10 = .ok (.getfield 22, 3) := by decide +kernel
theorem dX9_comesForced_13 : decode cX9_comesForced 13 = .ok (.aload_n 0, 1) := by decide +kernel
theorem dX9_comesForced_14 : decode cX9_comesForced 14 = .ok (.getfield 122, 3) := by decide +kernel
theorem dX9_comesForced_17 : decode cX9_comesForced 17 = .ok (.iconst 1, 1) := by decide +kernel
theorem dX9_comesForced_18 : decode cX9_comesForced 18 = .ok (.isub, 1) := by decide +kernel
theorem dX9_comesForced_19 : decode cX9_comesForced 19 = .ok (.iconst 1, 1) := by decide +kernel
theorem dX9_comesForced_20 : decode cX9_comesForced 20 = .ok (.aload_n 0, 1) := by decide +kernel
theorem dX9_comesForced_21 : decode cX9_comesForced 21 = .ok (.getfield 22, 3) := by decide +kernel
theorem dX9_comesForced_24 : decode cX9_comesForced 24 = .ok (.aload_n 0, 1) := by decide +kernel
theorem dX9_comesForced_25 : decode cX9_comesForced 25 = .ok (.getfield 122, 3) := by decide +kernel
theorem dX9_comesForced_28 : decode cX9_comesForced 28 = .ok (.iconst 1, 1) := by decide +kernel
theorem dX9_comesForced_29 : decode cX9_comesForced 29 = .ok (.isub, 1) := by decide +kernel
theorem dX9_comesForced_30 : decode cX9_comesForced 30 = .ok (.iaload, 1) := by decide +kernel
theorem dX9_comesForced_31 : decode cX9_comesForced 31 = .ok (.isub, 1) := by decide +kernel
theorem dX9_comesForced_32 : decode cX9_comesForced 32 = .ok (.iastore, 1) := by decide +kernel
theorem dX9_comesForced_33 : decode cX9_comesForced 33 = .ok (.iconst 1, 1) := by decide +kernel
theorem dX9_comesForced_34 : decode cX9_comesForced 34 = .ok (.ireturn, 1) := by decide +kernel
theorem dX9_comesKind_0 : decode cX9_comesKind 0 = .ok (.aload_n 0, 1) := by decide +kernel
theorem dX9_comesKind_1 : decode cX9_comesKind 1 = .ok (.iload_n 1, 1) := by decide +kernel
theorem dX9_comesKind_2 : decode cX9_comesKind 2 = .ok (.putfield 129, 3) := by decide +kernel
theorem dX9_comesKind_5 : decode cX9_comesKind 5 = .ok (.aload_n 0, 1) := by decide +kernel
theorem dX9_comesKind_6 : decode cX9_comesKind 6 = .ok (.iload_n 2, 1) := by decide +kernel
theorem dX9_comesKind_7 : decode cX9_comesKind 7 = .ok (.putfield 132, 3) := by decide +kernel
theorem dX9_comesKind_10 : decode cX9_comesKind 10 = .ok (.iload_n 1, 1) := by decide +kernel
theorem dX9_comesKind_11 : decode cX9_comesKind 11 = .ok (.bipush 6, 2) := by decide +kernel
theorem dX9_comesKind_13 : decode cX9_comesKind 13 = .ok (.if_icmp .ge 7, 3) := by decide +kernel
theorem dX9_comesKind_16 : decode cX9_comesKind 16 = .ok (.iconst 1, 1) := by decide +kernel
theorem dX9_comesKind_17 : decode cX9_comesKind 17 = .ok (.goto 4, 3) := by decide +kernel
theorem dX9_comesKind_20 : decode cX9_comesKind 20 = .ok (.iconst 0, 1) := by decide +kernel
theorem dX9_comesKind_21 : decode cX9_comesKind 21 = .ok (.ireturn, 1) := by decide +kernel
theorem dX9_comesTold_0 : decode cX9_comesTold 0 = .ok (.iconst 3, 1) := by decide +kernel
theorem dX9_comesTold_1 : decode cX9_comesTold 1 = .ok (.iload_n 1, 1) := by decide +kernel
theorem dX9_comesTold_2 : decode cX9_comesTold 2 = .ok (.imul, 1) := by decide +kernel
theorem dX9_comesTold_3 : decode cX9_comesTold 3 = .ok (.istore_n 2, 1) := by decide +kernel
theorem dX9_comesTold_4 : decode cX9_comesTold 4 = .ok (.aload_n 0, 1) := by decide +kernel
theorem dX9_comesTold_5 : decode cX9_comesTold 5 = .ok (.getfield 62, 3) := by decide +kernel
theorem dX9_comesTold_8 : decode cX9_comesTold 8 = .ok (.iload_n 1, 1) := by decide +kernel
theorem dX9_comesTold_9 : decode cX9_comesTold 9 = .ok (.iaload, 1) := by decide +kernel
theorem dX9_comesTold_10 : decode cX9_comesTold 10 = .ok (.lookupswitch 127 #[(103, 81), (107, 108), (110, 56), (112, 61), (119, 50)], 50) := by decide +kernel
theorem dX9_comesTold_60 : decode cX9_comesTold 60 = .ok (.aload_n 0, 1) := by decide +kernel
theorem dX9_comesTold_61 : decode cX9_comesTold 61 = .ok (.iload_n 1, 1) := by decide +kernel
theorem dX9_comesTold_62 : decode cX9_comesTold 62 = .ok (.invokevirtual 259, 3) := by decide +kernel
theorem dX9_comesTold_65 : decode cX9_comesTold 65 = .ok (.ireturn, 1) := by decide +kernel
theorem dX9_comesTold_66 : decode cX9_comesTold 66 = .ok (.aload_n 0, 1) := by decide +kernel
theorem dX9_comesTold_67 : decode cX9_comesTold 67 = .ok (.invokevirtual 262, 3) := by decide +kernel
theorem dX9_comesTold_70 : decode cX9_comesTold 70 = .ok (.ireturn, 1) := by decide +kernel
theorem dX9_comesTold_71 : decode cX9_comesTold 71 = .ok (.aload_n 0, 1) := by decide +kernel
theorem dX9_comesTold_72 : decode cX9_comesTold 72 = .ok (.iload_n 1, 1) := by decide +kernel
theorem dX9_comesTold_73 : decode cX9_comesTold 73 = .ok (.aload_n 0, 1) := by decide +kernel
theorem dX9_comesTold_74 : decode cX9_comesTold 74 = .ok (.getfield 68, 3) := by decide +kernel
theorem dX9_comesTold_77 : decode cX9_comesTold 77 = .ok (.iload_n 2, 1) := by decide +kernel
theorem dX9_comesTold_78 : decode cX9_comesTold 78 = .ok (.iaload, 1) := by decide +kernel
theorem dX9_comesTold_79 : decode cX9_comesTold 79 = .ok (.aload_n 0, 1) := by decide +kernel
theorem dX9_comesTold_80 : decode cX9_comesTold 80 = .ok (.getfield 68, 3) := by decide +kernel
theorem dX9_comesTold_83 : decode cX9_comesTold 83 = .ok (.iload_n 2, 1) := by decide +kernel
theorem dX9_comesTold_84 : decode cX9_comesTold 84 = .ok (.iconst 1, 1) := by decide +kernel
theorem dX9_comesTold_85 : decode cX9_comesTold 85 = .ok (.iadd, 1) := by decide +kernel
theorem dX9_comesTold_86 : decode cX9_comesTold 86 = .ok (.iaload, 1) := by decide +kernel
theorem dX9_comesTold_87 : decode cX9_comesTold 87 = .ok (.invokevirtual 266, 3) := by decide +kernel
theorem dX9_comesTold_90 : decode cX9_comesTold 90 = .ok (.ireturn, 1) := by decide +kernel
theorem dX9_comesTold_91 : decode cX9_comesTold 91 = .ok (.aload_n 0, 1) := by decide +kernel
theorem dX9_comesTold_92 : decode cX9_comesTold 92 = .ok (.aload_n 0, 1) := by decide +kernel
theorem dX9_comesTold_93 : decode cX9_comesTold 93 = .ok (.getfield 68, 3) := by decide +kernel
theorem dX9_comesTold_96 : decode cX9_comesTold 96 = .ok (.iload_n 2, 1) := by decide +kernel
theorem dX9_comesTold_97 : decode cX9_comesTold 97 = .ok (.iaload, 1) := by decide +kernel
theorem dX9_comesTold_98 : decode cX9_comesTold 98 = .ok (.aload_n 0, 1) := by decide +kernel
theorem dX9_comesTold_99 : decode cX9_comesTold 99 = .ok (.getfield 68, 3) := by decide +kernel
theorem dX9_comesTold_102 : decode cX9_comesTold 102 = .ok (.iload_n 2, 1) := by decide +kernel
theorem dX9_comesTold_103 : decode cX9_comesTold 103 = .ok (.iconst 1, 1) := by decide +kernel
theorem dX9_comesTold_104 : decode cX9_comesTold 104 = .ok (.iadd, 1) := by decide +kernel
theorem dX9_comesTold_105 : decode cX9_comesTold 105 = .ok (.iaload, 1) := by decide +kernel
theorem dX9_comesTold_106 : decode cX9_comesTold 106 = .ok (.aload_n 0, 1) := by decide +kernel
theorem dX9_comesTold_107 : decode cX9_comesTold 107 = .ok (.getfield 68, 3) := by decide +kernel
theorem dX9_comesTold_110 : decode cX9_comesTold 110 = .ok (.iload_n 2, 1) := by decide +kernel
theorem dX9_comesTold_111 : decode cX9_comesTold 111 = .ok (.iconst 2, 1) := by decide +kernel
theorem dX9_comesTold_112 : decode cX9_comesTold 112 = .ok (.iadd, 1) := by decide +kernel
theorem dX9_comesTold_113 : decode cX9_comesTold 113 = .ok (.iaload, 1) := by decide +kernel
theorem dX9_comesTold_114 : decode cX9_comesTold 114 = .ok (.invokevirtual 269, 3) := by decide +kernel
theorem dX9_comesTold_117 : decode cX9_comesTold 117 = .ok (.ireturn, 1) := by decide +kernel
theorem dX9_comesTold_118 : decode cX9_comesTold 118 = .ok (.aload_n 0, 1) := by decide +kernel
theorem dX9_comesTold_119 : decode cX9_comesTold 119 = .ok (.aload_n 0, 1) := by decide +kernel
theorem dX9_comesTold_120 : decode cX9_comesTold 120 = .ok (.getfield 68, 3) := by decide +kernel
theorem dX9_comesTold_123 : decode cX9_comesTold 123 = .ok (.iload_n 2, 1) := by decide +kernel
theorem dX9_comesTold_124 : decode cX9_comesTold 124 = .ok (.iaload, 1) := by decide +kernel
theorem dX9_comesTold_125 : decode cX9_comesTold 125 = .ok (.aload_n 0, 1) := by decide +kernel
theorem dX9_comesTold_126 : decode cX9_comesTold 126 = .ok (.getfield 68, 3) := by decide +kernel
theorem dX9_comesTold_129 : decode cX9_comesTold 129 = .ok (.iload_n 2, 1) := by decide +kernel
theorem dX9_comesTold_130 : decode cX9_comesTold 130 = .ok (.iconst 1, 1) := by decide +kernel
theorem dX9_comesTold_131 : decode cX9_comesTold 131 = .ok (.iadd, 1) := by decide +kernel
theorem dX9_comesTold_132 : decode cX9_comesTold 132 = .ok (.iaload, 1) := by decide +kernel
theorem dX9_comesTold_133 : decode cX9_comesTold 133 = .ok (.invokevirtual 272, 3) := by decide +kernel
theorem dX9_comesTold_136 : decode cX9_comesTold 136 = .ok (.ireturn, 1) := by decide +kernel
theorem dX9_comesTold_137 : decode cX9_comesTold 137 = .ok (.aload_n 0, 1) := by decide +kernel
theorem dX9_comesTold_138 : decode cX9_comesTold 138 = .ok (.aload_n 0, 1) := by decide +kernel
theorem dX9_comesTold_139 : decode cX9_comesTold 139 = .ok (.getfield 62, 3) := by decide +kernel
theorem dX9_comesTold_142 : decode cX9_comesTold 142 = .ok (.iload_n 1, 1) := by decide +kernel
theorem dX9_comesTold_143 : decode cX9_comesTold 143 = .ok (.iaload, 1) := by decide +kernel
theorem dX9_comesTold_144 : decode cX9_comesTold 144 = .ok (.aload_n 0, 1) := by decide +kernel
theorem dX9_comesTold_145 : decode cX9_comesTold 145 = .ok (.getfield 68, 3) := by decide +kernel
theorem dX9_comesTold_148 : decode cX9_comesTold 148 = .ok (.iload_n 2, 1) := by decide +kernel
theorem dX9_comesTold_149 : decode cX9_comesTold 149 = .ok (.iaload, 1) := by decide +kernel
theorem dX9_comesTold_150 : decode cX9_comesTold 150 = .ok (.invokevirtual 275, 3) := by decide +kernel
theorem dX9_comesTold_153 : decode cX9_comesTold 153 = .ok (.ireturn, 1) := by decide +kernel
theorem dX9_sheet_0 : decode cX9_sheet 0 = .ok (.aload_n 0, 1) := by decide +kernel
theorem dX9_sheet_1 : decode cX9_sheet 1 = .ok (.iconst 0, 1) := by decide +kernel
theorem dX9_sheet_2 : decode cX9_sheet 2 = .ok (.putfield 228, 3) := by decide +kernel
theorem dX9_sheet_5 : decode cX9_sheet 5 = .ok (.aload_n 0, 1) := by decide +kernel
theorem dX9_sheet_6 : decode cX9_sheet 6 = .ok (.iconst 0, 1) := by decide +kernel
theorem dX9_sheet_7 : decode cX9_sheet 7 = .ok (.putfield 237, 3) := by decide +kernel
theorem dX9_sheet_10 : decode cX9_sheet 10 = .ok (.iconst 1, 1) := by decide +kernel
theorem dX9_sheet_11 : decode cX9_sheet 11 = .ok (.istore_n 1, 1) := by decide +kernel
theorem dX9_sheet_12 : decode cX9_sheet 12 = .ok (.iload_n 1, 1) := by decide +kernel
theorem dX9_sheet_13 : decode cX9_sheet 13 = .ok (.ifCond .eq 47, 3) := by decide +kernel
theorem dX9_sheet_16 : decode cX9_sheet 16 = .ok (.aload_n 0, 1) := by decide +kernel
theorem dX9_sheet_17 : decode cX9_sheet 17 = .ok (.getfield 228, 3) := by decide +kernel
theorem dX9_sheet_20 : decode cX9_sheet 20 = .ok (.aload_n 0, 1) := by decide +kernel
theorem dX9_sheet_21 : decode cX9_sheet 21 = .ok (.getfield 221, 3) := by decide +kernel
theorem dX9_sheet_24 : decode cX9_sheet 24 = .ok (.if_icmp .lt 10, 3) := by decide +kernel
theorem dX9_sheet_27 : decode cX9_sheet 27 = .ok (.aload_n 0, 1) := by decide +kernel
theorem dX9_sheet_28 : decode cX9_sheet 28 = .ok (.getfield 237, 3) := by decide +kernel
theorem dX9_sheet_31 : decode cX9_sheet 31 = .ok (.ifCond .ne 29, 3) := by decide +kernel
theorem dX9_sheet_34 : decode cX9_sheet 34 = .ok (.aload_n 0, 1) := by decide +kernel
theorem dX9_sheet_35 : decode cX9_sheet 35 = .ok (.invokevirtual 278, 3) := by decide +kernel
theorem dX9_sheet_38 : decode cX9_sheet 38 = .ok (.istore_n 1, 1) := by decide +kernel
theorem dX9_sheet_39 : decode cX9_sheet 39 = .ok (.aload_n 0, 1) := by decide +kernel
theorem dX9_sheet_40 : decode cX9_sheet 40 = .ok (.dup, 1) := by decide +kernel
theorem dX9_sheet_41 : decode cX9_sheet 41 = .ok (.getfield 237, 3) := by decide +kernel
theorem dX9_sheet_44 : decode cX9_sheet 44 = .ok (.iload_n 1, 1) := by decide +kernel
theorem dX9_sheet_45 : decode cX9_sheet 45 = .ok (.ifCond .eq 7, 3) := by decide +kernel
theorem dX9_sheet_48 : decode cX9_sheet 48 = .ok (.iconst 1, 1) := by decide +kernel
theorem dX9_sheet_49 : decode cX9_sheet 49 = .ok (.goto 4, 3) := by decide +kernel
theorem dX9_sheet_52 : decode cX9_sheet 52 = .ok (.iconst 0, 1) := by decide +kernel
theorem dX9_sheet_53 : decode cX9_sheet 53 = .ok (.iadd, 1) := by decide +kernel
theorem dX9_sheet_54 : decode cX9_sheet 54 = .ok (.putfield 237, 3) := by decide +kernel
theorem dX9_sheet_57 : decode cX9_sheet 57 = .ok (.goto (-45), 3) := by decide +kernel
theorem dX9_sheet_60 : decode cX9_sheet 60 = .ok (.aload_n 0, 1) := by decide +kernel
theorem dX9_sheet_61 : decode cX9_sheet 61 = .ok (.iconst 0, 1) := by decide +kernel
theorem dX9_sheet_62 : decode cX9_sheet 62 = .ok (.putfield 221, 3) := by decide +kernel
theorem dX9_sheet_65 : decode cX9_sheet 65 = .ok (.iload_n 1, 1) := by decide +kernel
theorem dX9_sheet_66 : decode cX9_sheet 66 = .ok (.ifCond .ne 12, 3) := by decide +kernel
theorem dX9_sheet_69 : decode cX9_sheet 69 = .ok (.sipush (-1000), 3) := by decide +kernel
theorem dX9_sheet_72 : decode cX9_sheet 72 = .ok (.aload_n 0, 1) := by decide +kernel
theorem dX9_sheet_73 : decode cX9_sheet 73 = .ok (.getfield 228, 3) := by decide +kernel
theorem dX9_sheet_76 : decode cX9_sheet 76 = .ok (.isub, 1) := by decide +kernel
theorem dX9_sheet_77 : decode cX9_sheet 77 = .ok (.ireturn, 1) := by decide +kernel
theorem dX9_sheet_78 : decode cX9_sheet 78 = .ok (.aload_n 0, 1) := by decide +kernel
theorem dX9_sheet_79 : decode cX9_sheet 79 = .ok (.iconst 1, 1) := by decide +kernel
theorem dX9_sheet_80 : decode cX9_sheet 80 = .ok (.iconst 1, 1) := by decide +kernel
theorem dX9_sheet_81 : decode cX9_sheet 81 = .ok (.invokevirtual 281, 3) := by decide +kernel
theorem dX9_sheet_84 : decode cX9_sheet 84 = .ok (.iconst 0, 1) := by decide +kernel
theorem dX9_sheet_85 : decode cX9_sheet 85 = .ok (.istore_n 2, 1) := by decide +kernel
theorem dX9_sheet_86 : decode cX9_sheet 86 = .ok (.iload_n 2, 1) := by decide +kernel
theorem dX9_sheet_87 : decode cX9_sheet 87 = .ok (.aload_n 0, 1) := by decide +kernel
theorem dX9_sheet_88 : decode cX9_sheet 88 = .ok (.getfield 237, 3) := by decide +kernel
theorem dX9_sheet_91 : decode cX9_sheet 91 = .ok (.if_icmp .ge 37, 3) := by decide +kernel
theorem dX9_sheet_94 : decode cX9_sheet 94 = .ok (.aload_n 0, 1) := by decide +kernel
theorem dX9_sheet_95 : decode cX9_sheet 95 = .ok (.iload_n 2, 1) := by decide +kernel
theorem dX9_sheet_96 : decode cX9_sheet 96 = .ok (.invokevirtual 285, 3) := by decide +kernel
theorem dX9_sheet_99 : decode cX9_sheet 99 = .ok (.ifCond .eq 6, 3) := by decide +kernel
theorem dX9_sheet_102 : decode cX9_sheet 102 = .ok (.goto 20, 3) := by decide +kernel
theorem dX9_sheet_105 : decode cX9_sheet 105 = .ok (.aload_n 0, 1) := by decide +kernel
theorem dX9_sheet_106 : decode cX9_sheet 106 = .ok (.iconst 1, 1) := by decide +kernel
theorem dX9_sheet_107 : decode cX9_sheet 107 = .ok (.iconst 0, 1) := by decide +kernel
theorem dX9_sheet_108 : decode cX9_sheet 108 = .ok (.invokevirtual 281, 3) := by decide +kernel
theorem dX9_sheet_111 : decode cX9_sheet 111 = .ok (.sipush (-2000), 3) := by decide +kernel
theorem dX9_sheet_114 : decode cX9_sheet 114 = .ok (.aload_n 0, 1) := by decide +kernel
theorem dX9_sheet_115 : decode cX9_sheet 115 = .ok (.getfield 65, 3) := by decide +kernel
theorem dX9_sheet_118 : decode cX9_sheet 118 = .ok (.iload_n 2, 1) := by decide +kernel
theorem dX9_sheet_119 : decode cX9_sheet 119 = .ok (.iaload, 1) := by decide +kernel
theorem dX9_sheet_120 : decode cX9_sheet 120 = .ok (.isub, 1) := by decide +kernel
theorem dX9_sheet_121 : decode cX9_sheet 121 = .ok (.ireturn, 1) := by decide +kernel
theorem dX9_sheet_122 : decode cX9_sheet 122 = .ok (.iinc 2 1, 3) := by decide +kernel
theorem dX9_sheet_125 : decode cX9_sheet 125 = .ok (.goto (-39), 3) := by decide +kernel
theorem dX9_sheet_128 : decode cX9_sheet 128 = .ok (.aload_n 0, 1) := by decide +kernel
theorem dX9_sheet_129 : decode cX9_sheet 129 = .ok (.iconst 0, 1) := by decide +kernel
theorem dX9_sheet_130 : decode cX9_sheet 130 = .ok (.putfield 288, 3) := by decide +kernel
theorem dX9_sheet_133 : decode cX9_sheet 133 = .ok (.aload_n 0, 1) := by decide +kernel
theorem dX9_sheet_134 : decode cX9_sheet 134 = .ok (.getfield 237, 3) := by decide +kernel
theorem dX9_sheet_137 : decode cX9_sheet 137 = .ok (.ireturn, 1) := by decide +kernel
theorem dX9_passes_0 : decode cX9_passes 0 = .ok (.iconst 0, 1) := by decide +kernel
theorem dX9_passes_1 : decode cX9_passes 1 = .ok (.istore_n 2, 1) := by decide +kernel
theorem dX9_passes_2 : decode cX9_passes 2 = .ok (.iload_n 2, 1) := by decide +kernel
theorem dX9_passes_3 : decode cX9_passes 3 = .ok (.aload_n 1, 1) := by decide +kernel
theorem dX9_passes_4 : decode cX9_passes 4 = .ok (.arraylength, 1) := by decide +kernel
theorem dX9_passes_5 : decode cX9_passes 5 = .ok (.if_icmp .ge 53, 3) := by decide +kernel
theorem dX9_passes_8 : decode cX9_passes 8 = .ok (.aload_n 0, 1) := by decide +kernel
theorem dX9_passes_9 : decode cX9_passes 9 = .ok (.getfield 291, 3) := by decide +kernel
theorem dX9_passes_12 : decode cX9_passes 12 = .ok (.ifCond .eq 18, 3) := by decide +kernel
theorem dX9_passes_15 : decode cX9_passes 15 = .ok (.aload_n 0, 1) := by decide +kernel
theorem dX9_passes_16 : decode cX9_passes 16 = .ok (.getfield 80, 3) := by decide +kernel
theorem dX9_passes_19 : decode cX9_passes 19 = .ok (.aload_n 0, 1) := by decide +kernel
theorem dX9_passes_20 : decode cX9_passes 20 = .ok (.getfield 295, 3) := by decide +kernel
theorem dX9_passes_23 : decode cX9_passes 23 = .ok (.aload_n 1, 1) := by decide +kernel
theorem dX9_passes_24 : decode cX9_passes 24 = .ok (.iload_n 2, 1) := by decide +kernel
theorem dX9_passes_25 : decode cX9_passes 25 = .ok (.iaload, 1) := by decide +kernel
theorem dX9_passes_26 : decode cX9_passes 26 = .ok (.iastore, 1) := by decide +kernel
theorem dX9_passes_27 : decode cX9_passes 27 = .ok (.goto 15, 3) := by decide +kernel
theorem dX9_passes_30 : decode cX9_passes 30 = .ok (.aload_n 1, 1) := by decide +kernel
theorem dX9_passes_31 : decode cX9_passes 31 = .ok (.iload_n 2, 1) := by decide +kernel
theorem dX9_passes_32 : decode cX9_passes 32 = .ok (.aload_n 0, 1) := by decide +kernel
theorem dX9_passes_33 : decode cX9_passes 33 = .ok (.getfield 80, 3) := by decide +kernel
theorem dX9_passes_36 : decode cX9_passes 36 = .ok (.aload_n 0, 1) := by decide +kernel
theorem dX9_passes_37 : decode cX9_passes 37 = .ok (.getfield 295, 3) := by decide +kernel
theorem dX9_passes_40 : decode cX9_passes 40 = .ok (.iaload, 1) := by decide +kernel
theorem dX9_passes_41 : decode cX9_passes 41 = .ok (.iastore, 1) := by decide +kernel
theorem dX9_passes_42 : decode cX9_passes 42 = .ok (.aload_n 0, 1) := by decide +kernel
theorem dX9_passes_43 : decode cX9_passes 43 = .ok (.dup, 1) := by decide +kernel
theorem dX9_passes_44 : decode cX9_passes 44 = .ok (.getfield 295, 3) := by decide +kernel
theorem dX9_passes_47 : decode cX9_passes 47 = .ok (.iconst 1, 1) := by decide +kernel
theorem dX9_passes_48 : decode cX9_passes 48 = .ok (.iadd, 1) := by decide +kernel
theorem dX9_passes_49 : decode cX9_passes 49 = .ok (.putfield 295, 3) := by decide +kernel
theorem dX9_passes_52 : decode cX9_passes 52 = .ok (.iinc 2 1, 3) := by decide +kernel
theorem dX9_passes_55 : decode cX9_passes 55 = .ok (.goto (-53), 3) := by decide +kernel
theorem dX9_passes_58 : decode cX9_passes 58 = .ok (.return_, 1) := by decide +kernel
theorem dX9_passOne_0 : decode cX9_passOne 0 = .ok (.aload_n 0, 1) := by decide +kernel
theorem dX9_passOne_1 : decode cX9_passOne 1 = .ok (.getfield 291, 3) := by decide +kernel
theorem dX9_passOne_4 : decode cX9_passOne 4 = .ok (.ifCond .eq 7, 3) := by decide +kernel
theorem dX9_passOne_7 : decode cX9_passOne 7 = .ok (.iload_n 1, 1) := by decide +kernel
theorem dX9_passOne_8 : decode cX9_passOne 8 = .ok (.goto 12, 3) := by decide +kernel
theorem dX9_passOne_11 : decode cX9_passOne 11 = .ok (.aload_n 0, 1) := by decide +kernel
theorem dX9_passOne_12 : decode cX9_passOne 12 = .ok (.getfield 80, 3) := by decide +kernel
theorem dX9_passOne_15 : decode cX9_passOne 15 = .ok (.aload_n 0, 1) := by decide +kernel
theorem dX9_passOne_16 : decode cX9_passOne 16 = .ok (.getfield 295, 3) := by decide +kernel
theorem dX9_passOne_19 : decode cX9_passOne 19 = .ok (.iaload, 1) := by decide +kernel
theorem dX9_passOne_20 : decode cX9_passOne 20 = .ok (.istore_n 2, 1) := by decide +kernel
theorem dX9_passOne_21 : decode cX9_passOne 21 = .ok (.aload_n 0, 1) := by decide +kernel
theorem dX9_passOne_22 : decode cX9_passOne 22 = .ok (.getfield 291, 3) := by decide +kernel
theorem dX9_passOne_25 : decode cX9_passOne 25 = .ok (.ifCond .eq 13, 3) := by decide +kernel
theorem dX9_passOne_28 : decode cX9_passOne 28 = .ok (.aload_n 0, 1) := by decide +kernel
theorem dX9_passOne_29 : decode cX9_passOne 29 = .ok (.getfield 80, 3) := by decide +kernel
theorem dX9_passOne_32 : decode cX9_passOne 32 = .ok (.aload_n 0, 1) := by decide +kernel
theorem dX9_passOne_33 : decode cX9_passOne 33 = .ok (.getfield 295, 3) := by decide +kernel
theorem dX9_passOne_36 : decode cX9_passOne 36 = .ok (.iload_n 1, 1) := by decide +kernel
theorem dX9_passOne_37 : decode cX9_passOne 37 = .ok (.iastore, 1) := by decide +kernel
theorem dX9_passOne_38 : decode cX9_passOne 38 = .ok (.aload_n 0, 1) := by decide +kernel
theorem dX9_passOne_39 : decode cX9_passOne 39 = .ok (.dup, 1) := by decide +kernel
theorem dX9_passOne_40 : decode cX9_passOne 40 = .ok (.getfield 295, 3) := by decide +kernel
theorem dX9_passOne_43 : decode cX9_passOne 43 = .ok (.iconst 1, 1) := by decide +kernel
theorem dX9_passOne_44 : decode cX9_passOne 44 = .ok (.iadd, 1) := by decide +kernel
theorem dX9_passOne_45 : decode cX9_passOne 45 = .ok (.putfield 295, 3) := by decide +kernel
theorem dX9_passOne_48 : decode cX9_passOne 48 = .ok (.iload_n 2, 1) := by decide +kernel
theorem dX9_passOne_49 : decode cX9_passOne 49 = .ok (.ireturn, 1) := by decide +kernel
theorem dX9_passesAll_0 : decode cX9_passesAll 0 = .ok (.aload_n 0, 1) := by decide +kernel
theorem dX9_passesAll_1 : decode cX9_passesAll 1 = .ok (.sipush 295, 3) := by decide +kernel
theorem dX9_passesAll_4 : decode cX9_passesAll 4 = .ok (.iload_n 1, 1) := by decide +kernel
theorem dX9_passesAll_5 : decode cX9_passesAll 5 = .ok (.imul, 1) := by decide +kernel
theorem dX9_passesAll_6 : decode cX9_passesAll 6 = .ok (.putfield 295, 3) := by decide +kernel
theorem dX9_passesAll_9 : decode cX9_passesAll 9 = .ok (.aload_n 0, 1) := by decide +kernel
theorem dX9_passesAll_10 : decode cX9_passesAll 10 = .ok (.iload_n 2, 1) := by decide +kernel
theorem dX9_passesAll_11 : decode cX9_passesAll 11 = .ok (.putfield 291, 3) := by decide +kernel
theorem dX9_passesAll_14 : decode cX9_passesAll 14 = .ok (.aload_n 0, 1) := by decide +kernel
theorem dX9_passesAll_15 : decode cX9_passesAll 15 = .ok (.aload_n 0, 1) := by decide +kernel
theorem dX9_passesAll_16 : decode cX9_passesAll 16 = .ok (.getfield 13, 3) := by decide +kernel
theorem dX9_passesAll_19 : decode cX9_passesAll 19 = .ok (.invokevirtual 298, 3) := by decide +kernel
theorem dX9_passesAll_22 : decode cX9_passesAll 22 = .ok (.aload_n 0, 1) := by decide +kernel
theorem dX9_passesAll_23 : decode cX9_passesAll 23 = .ok (.aload_n 0, 1) := by decide +kernel
theorem dX9_passesAll_24 : decode cX9_passesAll 24 = .ok (.getfield 16, 3) := by decide +kernel
theorem dX9_passesAll_27 : decode cX9_passesAll 27 = .ok (.invokevirtual 298, 3) := by decide +kernel
theorem dX9_passesAll_30 : decode cX9_passesAll 30 = .ok (.aload_n 0, 1) := by decide +kernel
theorem dX9_passesAll_31 : decode cX9_passesAll 31 = .ok (.aload_n 0, 1) := by decide +kernel
theorem dX9_passesAll_32 : decode cX9_passesAll 32 = .ok (.getfield 19, 3) := by decide +kernel
theorem dX9_passesAll_35 : decode cX9_passesAll 35 = .ok (.invokevirtual 298, 3) := by decide +kernel
theorem dX9_passesAll_38 : decode cX9_passesAll 38 = .ok (.aload_n 0, 1) := by decide +kernel
theorem dX9_passesAll_39 : decode cX9_passesAll 39 = .ok (.aload_n 0, 1) := by decide +kernel
theorem dX9_passesAll_40 : decode cX9_passesAll 40 = .ok (.getfield 22, 3) := by decide +kernel
theorem dX9_passesAll_43 : decode cX9_passesAll 43 = .ok (.invokevirtual 298, 3) := by decide +kernel
theorem dX9_passesAll_46 : decode cX9_passesAll 46 = .ok (.aload_n 0, 1) := by decide +kernel
theorem dX9_passesAll_47 : decode cX9_passesAll 47 = .ok (.aload_n 0, 1) := by decide +kernel
theorem dX9_passesAll_48 : decode cX9_passesAll 48 = .ok (.getfield 25, 3) := by decide +kernel
theorem dX9_passesAll_51 : decode cX9_passesAll 51 = .ok (.invokevirtual 298, 3) := by decide +kernel
theorem dX9_passesAll_54 : decode cX9_passesAll 54 = .ok (.aload_n 0, 1) := by decide +kernel
theorem dX9_passesAll_55 : decode cX9_passesAll 55 = .ok (.aload_n 0, 1) := by decide +kernel
theorem dX9_passesAll_56 : decode cX9_passesAll 56 = .ok (.getfield 28, 3) := by decide +kernel
theorem dX9_passesAll_59 : decode cX9_passesAll 59 = .ok (.invokevirtual 298, 3) := by decide +kernel
theorem dX9_passesAll_62 : decode cX9_passesAll 62 = .ok (.aload_n 0, 1) := by decide +kernel
theorem dX9_passesAll_63 : decode cX9_passesAll 63 = .ok (.aload_n 0, 1) := by decide +kernel
theorem dX9_passesAll_64 : decode cX9_passesAll 64 = .ok (.getfield 31, 3) := by decide +kernel
theorem dX9_passesAll_67 : decode cX9_passesAll 67 = .ok (.invokevirtual 298, 3) := by decide +kernel
theorem dX9_passesAll_70 : decode cX9_passesAll 70 = .ok (.aload_n 0, 1) := by decide +kernel
theorem dX9_passesAll_71 : decode cX9_passesAll 71 = .ok (.aload_n 0, 1) := by decide +kernel
theorem dX9_passesAll_72 : decode cX9_passesAll 72 = .ok (.getfield 34, 3) := by decide +kernel
theorem dX9_passesAll_75 : decode cX9_passesAll 75 = .ok (.invokevirtual 298, 3) := by decide +kernel
theorem dX9_passesAll_78 : decode cX9_passesAll 78 = .ok (.aload_n 0, 1) := by decide +kernel
theorem dX9_passesAll_79 : decode cX9_passesAll 79 = .ok (.aload_n 0, 1) := by decide +kernel
theorem dX9_passesAll_80 : decode cX9_passesAll 80 = .ok (.aload_n 0, 1) := by decide +kernel
theorem dX9_passesAll_81 : decode cX9_passesAll 81 = .ok (.getfield 122, 3) := by decide +kernel
theorem dX9_passesAll_84 : decode cX9_passesAll 84 = .ok (.invokevirtual 302, 3) := by decide +kernel
theorem dX9_passesAll_87 : decode cX9_passesAll 87 = .ok (.putfield 122, 3) := by decide +kernel
theorem dX9_passesAll_90 : decode cX9_passesAll 90 = .ok (.aload_n 0, 1) := by decide +kernel
theorem dX9_passesAll_91 : decode cX9_passesAll 91 = .ok (.aload_n 0, 1) := by decide +kernel
theorem dX9_passesAll_92 : decode cX9_passesAll 92 = .ok (.aload_n 0, 1) := by decide +kernel
theorem dX9_passesAll_93 : decode cX9_passesAll 93 = .ok (.getfield 135, 3) := by decide +kernel
theorem dX9_passesAll_96 : decode cX9_passesAll 96 = .ok (.invokevirtual 302, 3) := by decide +kernel
theorem dX9_passesAll_99 : decode cX9_passesAll 99 = .ok (.putfield 135, 3) := by decide +kernel
theorem dX9_passesAll_102 : decode cX9_passesAll 102 = .ok (.aload_n 0, 1) := by decide +kernel
theorem dX9_passesAll_103 : decode cX9_passesAll 103 = .ok (.aload_n 0, 1) := by decide +kernel
theorem dX9_passesAll_104 : decode cX9_passesAll 104 = .ok (.aload_n 0, 1) := by decide +kernel
theorem dX9_passesAll_105 : decode cX9_passesAll 105 = .ok (.getfield 98, 3) := by decide +kernel
theorem dX9_passesAll_108 : decode cX9_passesAll 108 = .ok (.invokevirtual 302, 3) := by decide +kernel
theorem dX9_passesAll_111 : decode cX9_passesAll 111 = .ok (.putfield 98, 3) := by decide +kernel
theorem dX9_passesAll_114 : decode cX9_passesAll 114 = .ok (.aload_n 0, 1) := by decide +kernel
theorem dX9_passesAll_115 : decode cX9_passesAll 115 = .ok (.aload_n 0, 1) := by decide +kernel
theorem dX9_passesAll_116 : decode cX9_passesAll 116 = .ok (.aload_n 0, 1) := by decide +kernel
theorem dX9_passesAll_117 : decode cX9_passesAll 117 = .ok (.getfield 102, 3) := by decide +kernel
theorem dX9_passesAll_120 : decode cX9_passesAll 120 = .ok (.invokevirtual 302, 3) := by decide +kernel
theorem dX9_passesAll_123 : decode cX9_passesAll 123 = .ok (.putfield 102, 3) := by decide +kernel
theorem dX9_passesAll_126 : decode cX9_passesAll 126 = .ok (.aload_n 0, 1) := by decide +kernel
theorem dX9_passesAll_127 : decode cX9_passesAll 127 = .ok (.aload_n 0, 1) := by decide +kernel
theorem dX9_passesAll_128 : decode cX9_passesAll 128 = .ok (.aload_n 0, 1) := by decide +kernel
theorem dX9_passesAll_129 : decode cX9_passesAll 129 = .ok (.getfield 105, 3) := by decide +kernel
theorem dX9_passesAll_132 : decode cX9_passesAll 132 = .ok (.invokevirtual 302, 3) := by decide +kernel
theorem dX9_passesAll_135 : decode cX9_passesAll 135 = .ok (.putfield 105, 3) := by decide +kernel
theorem dX9_passesAll_138 : decode cX9_passesAll 138 = .ok (.aload_n 0, 1) := by decide +kernel
theorem dX9_passesAll_139 : decode cX9_passesAll 139 = .ok (.aload_n 0, 1) := by decide +kernel
theorem dX9_passesAll_140 : decode cX9_passesAll 140 = .ok (.aload_n 0, 1) := by decide +kernel
theorem dX9_passesAll_141 : decode cX9_passesAll 141 = .ok (.getfield 108, 3) := by decide +kernel
theorem dX9_passesAll_144 : decode cX9_passesAll 144 = .ok (.invokevirtual 302, 3) := by decide +kernel
theorem dX9_passesAll_147 : decode cX9_passesAll 147 = .ok (.putfield 108, 3) := by decide +kernel
theorem dX9_passesAll_150 : decode cX9_passesAll 150 = .ok (.aload_n 0, 1) := by decide +kernel
theorem dX9_passesAll_151 : decode cX9_passesAll 151 = .ok (.aload_n 0, 1) := by decide +kernel
theorem dX9_passesAll_152 : decode cX9_passesAll 152 = .ok (.aload_n 0, 1) := by decide +kernel
theorem dX9_passesAll_153 : decode cX9_passesAll 153 = .ok (.getfield 111, 3) := by decide +kernel
theorem dX9_passesAll_156 : decode cX9_passesAll 156 = .ok (.invokevirtual 302, 3) := by decide +kernel
theorem dX9_passesAll_159 : decode cX9_passesAll 159 = .ok (.putfield 111, 3) := by decide +kernel
theorem dX9_passesAll_162 : decode cX9_passesAll 162 = .ok (.aload_n 0, 1) := by decide +kernel
theorem dX9_passesAll_163 : decode cX9_passesAll 163 = .ok (.aload_n 0, 1) := by decide +kernel
theorem dX9_passesAll_164 : decode cX9_passesAll 164 = .ok (.aload_n 0, 1) := by decide +kernel
theorem dX9_passesAll_165 : decode cX9_passesAll 165 = .ok (.getfield 114, 3) := by decide +kernel
theorem dX9_passesAll_168 : decode cX9_passesAll 168 = .ok (.invokevirtual 302, 3) := by decide +kernel
theorem dX9_passesAll_171 : decode cX9_passesAll 171 = .ok (.putfield 114, 3) := by decide +kernel
theorem dX9_passesAll_174 : decode cX9_passesAll 174 = .ok (.aload_n 0, 1) := by decide +kernel
theorem dX9_passesAll_175 : decode cX9_passesAll 175 = .ok (.aload_n 0, 1) := by decide +kernel
theorem dX9_passesAll_176 : decode cX9_passesAll 176 = .ok (.aload_n 0, 1) := by decide +kernel
theorem dX9_passesAll_177 : decode cX9_passesAll 177 = .ok (.getfield 117, 3) := by decide +kernel
theorem dX9_passesAll_180 : decode cX9_passesAll 180 = .ok (.invokevirtual 302, 3) := by decide +kernel
theorem dX9_passesAll_183 : decode cX9_passesAll 183 = .ok (.putfield 117, 3) := by decide +kernel
