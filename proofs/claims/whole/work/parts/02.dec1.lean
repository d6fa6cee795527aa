theorem dX0_init_0 : decode cX0_init 0 = .ok (.aload_n 0, 1) := by decide +kernel
theorem dX0_init_1 : decode cX0_init 1 = .ok (.invokespecial 3, 3) := by decide +kernel
theorem dX0_init_4 : decode cX0_init 4 = .ok (.aload_n 0, 1) := by decide +kernel
theorem dX0_init_5 : decode cX0_init 5 = .ok (.sipush 192, 3) := by decide +kernel
theorem dX0_init_8 : decode cX0_init 8 = .ok (.newarray .int, 2) := by decide +kernel
theorem dX0_init_10 : decode cX0_init 10 = .ok (.putfield 9, 3) := by decide +kernel
theorem dX0_init_13 : decode cX0_init 13 = .ok (.aload_n 0, 1) := by decide +kernel
theorem dX0_init_14 : decode cX0_init 14 = .ok (.sipush 192, 3) := by decide +kernel
theorem dX0_init_17 : decode cX0_init 17 = .ok (.newarray .int, 2) := by decide +kernel
theorem dX0_init_19 : decode cX0_init 19 = .ok (.putfield 15, 3) := by decide +kernel
theorem dX0_init_22 : decode cX0_init 22 = .ok (.aload_n 0, 1) := by decide +kernel
theorem dX0_init_23 : decode cX0_init 23 = .ok (.sipush 192, 3) := by decide +kernel
theorem dX0_init_26 : decode cX0_init 26 = .ok (.newarray .int, 2) := by decide +kernel
theorem dX0_init_28 : decode cX0_init 28 = .ok (.putfield 18, 3) := by decide +kernel
theorem dX0_init_31 : decode cX0_init 31 = .ok (.return_, 1) := by decide +kernel
theorem dX0_cut_0 : decode cX0_cut 0 = .ok (.aload_n 0, 1) := by decide +kernel
theorem dX0_cut_1 : decode cX0_cut 1 = .ok (.iconst 0, 1) := by decide +kernel
theorem dX0_cut_2 : decode cX0_cut 2 = .ok (.putfield 21, 3) := by decide +kernel
theorem dX0_cut_5 : decode cX0_cut 5 = .ok (.aload_n 1, 1) := by decide +kernel
theorem dX0_cut_6 : decode cX0_cut 6 = .ok (.getfield 25, 3) := by decide +kernel
theorem dX0_cut_9 : decode cX0_cut 9 = .ok (.getfield 31, 3) := by decide +kernel
theorem dX0_cut_12 : decode cX0_cut 12 = .ok (.iload_n 2, 1) := by decide +kernel
theorem dX0_cut_13 : decode cX0_cut 13 = .ok (.invokestatic 34, 3) := by decide +kernel
theorem dX0_cut_16 : decode cX0_cut 16 = .ok (.istore_n 3, 1) := by decide +kernel
theorem dX0_cut_17 : decode cX0_cut 17 = .ok (.iconst 0, 1) := by decide +kernel
theorem dX0_cut_18 : decode cX0_cut 18 = .ok (.istore 4, 2) := by decide +kernel
theorem dX0_cut_20 : decode cX0_cut 20 = .ok (.iconst 0, 1) := by decide +kernel
theorem dX0_cut_21 : decode cX0_cut 21 = .ok (.istore 5, 2) := by decide +kernel
theorem dX0_cut_23 : decode cX0_cut 23 = .ok (.iload 5, 2) := by decide +kernel
theorem dX0_cut_25 : decode cX0_cut 25 = .ok (.iload_n 3, 1) := by decide +kernel
theorem dX0_cut_26 : decode cX0_cut 26 = .ok (.if_icmp .gt 40, 3) := by decide +kernel
theorem dX0_cut_29 : decode cX0_cut 29 = .ok (.iload_n 2, 1) := by decide +kernel
theorem dX0_cut_30 : decode cX0_cut 30 = .ok (.iload 5, 2) := by decide +kernel
theorem dX0_cut_32 : decode cX0_cut 32 = .ok (.ishr, 1) := by decide +kernel
theorem dX0_cut_33 : decode cX0_cut 33 = .ok (.iconst 1, 1) := by decide +kernel
theorem dX0_cut_34 : decode cX0_cut 34 = .ok (.iand, 1) := by decide +kernel
theorem dX0_cut_35 : decode cX0_cut 35 = .ok (.ifCond .ne 25, 3) := by decide +kernel
theorem dX0_cut_38 : decode cX0_cut 38 = .ok (.aload_n 0, 1) := by decide +kernel
theorem dX0_cut_39 : decode cX0_cut 39 = .ok (.aload_n 1, 1) := by decide +kernel
theorem dX0_cut_40 : decode cX0_cut 40 = .ok (.iload 5, 2) := by decide +kernel
theorem dX0_cut_42 : decode cX0_cut 42 = .ok (.iload 4, 2) := by decide +kernel
theorem dX0_cut_44 : decode cX0_cut 44 = .ok (.aload_n 1, 1) := by decide +kernel
theorem dX0_cut_45 : decode cX0_cut 45 = .ok (.getfield 25, 3) := by decide +kernel
theorem dX0_cut_48 : decode cX0_cut 48 = .ok (.iload 5, 2) := by decide +kernel
theorem dX0_cut_50 : decode cX0_cut 50 = .ok (.iload_n 3, 1) := by decide +kernel
theorem dX0_cut_51 : decode cX0_cut 51 = .ok (.invokestatic 38, 3) := by decide +kernel
theorem dX0_cut_54 : decode cX0_cut 54 = .ok (.invokevirtual 42, 3) := by decide +kernel
theorem dX0_cut_57 : decode cX0_cut 57 = .ok (.iinc 4 1, 3) := by decide +kernel
theorem dX0_cut_60 : decode cX0_cut 60 = .ok (.iinc 5 1, 3) := by decide +kernel
theorem dX0_cut_63 : decode cX0_cut 63 = .ok (.goto (-40), 3) := by decide +kernel
theorem dX0_cut_66 : decode cX0_cut 66 = .ok (.return_, 1) := by decide +kernel
theorem dX0_lastLeft_0 : decode cX0_lastLeft 0 = .ok (.iconst (-1), 1) := by decide +kernel
theorem dX0_lastLeft_1 : decode cX0_lastLeft 1 = .ok (.istore_n 2, 1) := by decide +kernel
theorem dX0_lastLeft_2 : decode cX0_lastLeft 2 = .ok (.iconst 0, 1) := by decide +kernel
theorem dX0_lastLeft_3 : decode cX0_lastLeft 3 = .ok (.istore_n 3, 1) := by decide +kernel
theorem dX0_lastLeft_4 : decode cX0_lastLeft 4 = .ok (.iload_n 3, 1) := by decide +kernel
theorem dX0_lastLeft_5 : decode cX0_lastLeft 5 = .ok (.iload_n 0, 1) := by decide +kernel
theorem dX0_lastLeft_6 : decode cX0_lastLeft 6 = .ok (.if_icmp .ge 19, 3) := by decide +kernel
theorem dX0_lastLeft_9 : decode cX0_lastLeft 9 = .ok (.iload_n 1, 1) := by decide +kernel
theorem dX0_lastLeft_10 : decode cX0_lastLeft 10 = .ok (.iload_n 3, 1) := by decide +kernel
theorem dX0_lastLeft_11 : decode cX0_lastLeft 11 = .ok (.ishr, 1) := by decide +kernel
theorem dX0_lastLeft_12 : decode cX0_lastLeft 12 = .ok (.iconst 1, 1) := by decide +kernel
theorem dX0_lastLeft_13 : decode cX0_lastLeft 13 = .ok (.iand, 1) := by decide +kernel
theorem dX0_lastLeft_14 : decode cX0_lastLeft 14 = .ok (.ifCond .ne 5, 3) := by decide +kernel
theorem dX0_lastLeft_17 : decode cX0_lastLeft 17 = .ok (.iload_n 3, 1) := by decide +kernel
theorem dX0_lastLeft_18 : decode cX0_lastLeft 18 = .ok (.istore_n 2, 1) := by decide +kernel
theorem dX0_lastLeft_19 : decode cX0_lastLeft 19 = .ok (.iinc 3 1, 3) := by decide +kernel
theorem dX0_lastLeft_22 : decode cX0_lastLeft 22 = .ok (.goto (-18), 3) := by decide +kernel
theorem dX0_lastLeft_25 : decode cX0_lastLeft 25 = .ok (.iload_n 2, 1) := by decide +kernel
theorem dX0_lastLeft_26 : decode cX0_lastLeft 26 = .ok (.ireturn, 1) := by decide +kernel
theorem dX0_endOf_0 : decode cX0_endOf 0 = .ok (.aload_n 0, 1) := by decide +kernel
theorem dX0_endOf_1 : decode cX0_endOf 1 = .ok (.iload_n 1, 1) := by decide +kernel
theorem dX0_endOf_2 : decode cX0_endOf 2 = .ok (.invokevirtual 46, 3) := by decide +kernel
theorem dX0_endOf_5 : decode cX0_endOf 5 = .ok (.ifCond .eq 5, 3) := by decide +kernel
theorem dX0_endOf_8 : decode cX0_endOf 8 = .ok (.iconst 2, 1) := by decide +kernel
theorem dX0_endOf_9 : decode cX0_endOf 9 = .ok (.ireturn, 1) := by decide +kernel
theorem dX0_endOf_10 : decode cX0_endOf 10 = .ok (.iload_n 1, 1) := by decide +kernel
theorem dX0_endOf_11 : decode cX0_endOf 11 = .ok (.iload_n 2, 1) := by decide +kernel
theorem dX0_endOf_12 : decode cX0_endOf 12 = .ok (.if_icmp .ne 7, 3) := by decide +kernel
theorem dX0_endOf_15 : decode cX0_endOf 15 = .ok (.iconst 3, 1) := by decide +kernel
theorem dX0_endOf_16 : decode cX0_endOf 16 = .ok (.goto 4, 3) := by decide +kernel
theorem dX0_endOf_19 : decode cX0_endOf 19 = .ok (.iconst 0, 1) := by decide +kernel
theorem dX0_endOf_20 : decode cX0_endOf 20 = .ok (.ireturn, 1) := by decide +kernel
theorem dX0_cutWord_0 : decode cX0_cutWord 0 = .ok (.aload_n 1, 1) := by decide +kernel
theorem dX0_cutWord_1 : decode cX0_cutWord 1 = .ok (.getfield 25, 3) := by decide +kernel
theorem dX0_cutWord_4 : decode cX0_cutWord 4 = .ok (.iload_n 2, 1) := by decide +kernel
theorem dX0_cutWord_5 : decode cX0_cutWord 5 = .ok (.invokevirtual 50, 3) := by decide +kernel
theorem dX0_cutWord_8 : decode cX0_cutWord 8 = .ok (.istore 5, 2) := by decide +kernel
theorem dX0_cutWord_10 : decode cX0_cutWord 10 = .ok (.aload_n 1, 1) := by decide +kernel
theorem dX0_cutWord_11 : decode cX0_cutWord 11 = .ok (.getfield 25, 3) := by decide +kernel
theorem dX0_cutWord_14 : decode cX0_cutWord 14 = .ok (.iload_n 2, 1) := by decide +kernel
theorem dX0_cutWord_15 : decode cX0_cutWord 15 = .ok (.invokevirtual 54, 3) := by decide +kernel
theorem dX0_cutWord_18 : decode cX0_cutWord 18 = .ok (.lstore 6, 2) := by decide +kernel
theorem dX0_cutWord_20 : decode cX0_cutWord 20 = .ok (.aload_n 1, 1) := by decide +kernel
theorem dX0_cutWord_21 : decode cX0_cutWord 21 = .ok (.iload_n 2, 1) := by decide +kernel
theorem dX0_cutWord_22 : decode cX0_cutWord 22 = .ok (.invokevirtual 58, 3) := by decide +kernel
theorem dX0_cutWord_25 : decode cX0_cutWord 25 = .ok (.istore 8, 2) := by decide +kernel
theorem dX0_cutWord_27 : decode cX0_cutWord 27 = .ok (.iconst 0, 1) := by decide +kernel
theorem dX0_cutWord_28 : decode cX0_cutWord 28 = .ok (.istore 9, 2) := by decide +kernel
theorem dX0_cutWord_30 : decode cX0_cutWord 30 = .ok (.iconst 1, 1) := by decide +kernel
theorem dX0_cutWord_31 : decode cX0_cutWord 31 = .ok (.istore 10, 2) := by decide +kernel
theorem dX0_cutWord_33 : decode cX0_cutWord 33 = .ok (.iload 10, 2) := by decide +kernel
theorem dX0_cutWord_35 : decode cX0_cutWord 35 = .ok (.iload 5, 2) := by decide +kernel
theorem dX0_cutWord_37 : decode cX0_cutWord 37 = .ok (.if_icmp .gt 71, 3) := by decide +kernel
theorem dX0_cutWord_40 : decode cX0_cutWord 40 = .ok (.iload 9, 2) := by decide +kernel
theorem dX0_cutWord_42 : decode cX0_cutWord 42 = .ok (.aload_n 1, 1) := by decide +kernel
theorem dX0_cutWord_43 : decode cX0_cutWord 43 = .ok (.getfield 61, 3) := by decide +kernel
theorem dX0_cutWord_46 : decode cX0_cutWord 46 = .ok (.lload 6, 2) := by decide +kernel
theorem dX0_cutWord_48 : decode cX0_cutWord 48 = .ok (.iload 10, 2) := by decide +kernel
theorem dX0_cutWord_50 : decode cX0_cutWord 50 = .ok (.iconst 1, 1) := by decide +kernel
theorem dX0_cutWord_51 : decode cX0_cutWord 51 = .ok (.isub, 1) := by decide +kernel
theorem dX0_cutWord_52 : decode cX0_cutWord 52 = .ok (.invokestatic 62, 3) := by decide +kernel
theorem dX0_cutWord_55 : decode cX0_cutWord 55 = .ok (.invokestatic 66, 3) := by decide +kernel
theorem dX0_cutWord_58 : decode cX0_cutWord 58 = .ok (.iadd, 1) := by decide +kernel
theorem dX0_cutWord_59 : decode cX0_cutWord 59 = .ok (.istore 9, 2) := by decide +kernel
theorem dX0_cutWord_61 : decode cX0_cutWord 61 = .ok (.iload 10, 2) := by decide +kernel
theorem dX0_cutWord_63 : decode cX0_cutWord 63 = .ok (.iload 5, 2) := by decide +kernel
theorem dX0_cutWord_65 : decode cX0_cutWord 65 = .ok (.if_icmp .ne 15, 3) := by decide +kernel
theorem dX0_cutWord_68 : decode cX0_cutWord 68 = .ok (.aload_n 0, 1) := by decide +kernel
theorem dX0_cutWord_69 : decode cX0_cutWord 69 = .ok (.iload 9, 2) := by decide +kernel
theorem dX0_cutWord_71 : decode cX0_cutWord 71 = .ok (.iload_n 3, 1) := by decide +kernel
theorem dX0_cutWord_72 : decode cX0_cutWord 72 = .ok (.iload 4, 2) := by decide +kernel
theorem dX0_cutWord_74 : decode cX0_cutWord 74 = .ok (.invokevirtual 70, 3) := by decide +kernel
theorem dX0_cutWord_77 : decode cX0_cutWord 77 = .ok (.goto 25, 3) := by decide +kernel
theorem dX0_cutWord_80 : decode cX0_cutWord 80 = .ok (.iload 8, 2) := by decide +kernel
theorem dX0_cutWord_82 : decode cX0_cutWord 82 = .ok (.iload 10, 2) := by decide +kernel
theorem dX0_cutWord_84 : decode cX0_cutWord 84 = .ok (.ishr, 1) := by decide +kernel
theorem dX0_cutWord_85 : decode cX0_cutWord 85 = .ok (.iconst 1, 1) := by decide +kernel
theorem dX0_cutWord_86 : decode cX0_cutWord 86 = .ok (.iand, 1) := by decide +kernel
theorem dX0_cutWord_87 : decode cX0_cutWord 87 = .ok (.iconst 1, 1) := by decide +kernel
theorem dX0_cutWord_88 : decode cX0_cutWord 88 = .ok (.if_icmp .ne 14, 3) := by decide +kernel
theorem dX0_cutWord_91 : decode cX0_cutWord 91 = .ok (.aload_n 0, 1) := by decide +kernel
theorem dX0_cutWord_92 : decode cX0_cutWord 92 = .ok (.iload 9, 2) := by decide +kernel
theorem dX0_cutWord_94 : decode cX0_cutWord 94 = .ok (.iload_n 3, 1) := by decide +kernel
theorem dX0_cutWord_95 : decode cX0_cutWord 95 = .ok (.iconst 1, 1) := by decide +kernel
theorem dX0_cutWord_96 : decode cX0_cutWord 96 = .ok (.invokevirtual 70, 3) := by decide +kernel
theorem dX0_cutWord_99 : decode cX0_cutWord 99 = .ok (.iconst 0, 1) := by decide +kernel
theorem dX0_cutWord_100 : decode cX0_cutWord 100 = .ok (.istore 9, 2) := by decide +kernel
theorem dX0_cutWord_102 : decode cX0_cutWord 102 = .ok (.iinc 10 1, 3) := by decide +kernel
theorem dX0_cutWord_105 : decode cX0_cutWord 105 = .ok (.goto (-72), 3) := by decide +kernel
theorem dX0_cutWord_108 : decode cX0_cutWord 108 = .ok (.return_, 1) := by decide +kernel
theorem dX0_add_0 : decode cX0_add 0 = .ok (.aload_n 0, 1) := by decide +kernel
theorem dX0_add_1 : decode cX0_add 1 = .ok (.getfield 9, 3) := by decide +kernel
theorem dX0_add_4 : decode cX0_add 4 = .ok (.aload_n 0, 1) := by decide +kernel
theorem dX0_add_5 : decode cX0_add 5 = .ok (.getfield 21, 3) := by decide +kernel
theorem dX0_add_8 : decode cX0_add 8 = .ok (.iload_n 1, 1) := by decide +kernel
theorem dX0_add_9 : decode cX0_add 9 = .ok (.invokestatic 74, 3) := by decide +kernel
theorem dX0_add_12 : decode cX0_add 12 = .ok (.aload_n 0, 1) := by decide +kernel
theorem dX0_add_13 : decode cX0_add 13 = .ok (.getfield 15, 3) := by decide +kernel
theorem dX0_add_16 : decode cX0_add 16 = .ok (.aload_n 0, 1) := by decide +kernel
theorem dX0_add_17 : decode cX0_add 17 = .ok (.getfield 21, 3) := by decide +kernel
theorem dX0_add_20 : decode cX0_add 20 = .ok (.iload_n 2, 1) := by decide +kernel
theorem dX0_add_21 : decode cX0_add 21 = .ok (.invokestatic 74, 3) := by decide +kernel
theorem dX0_add_24 : decode cX0_add 24 = .ok (.aload_n 0, 1) := by decide +kernel
theorem dX0_add_25 : decode cX0_add 25 = .ok (.getfield 18, 3) := by decide +kernel
theorem dX0_add_28 : decode cX0_add 28 = .ok (.aload_n 0, 1) := by decide +kernel
theorem dX0_add_29 : decode cX0_add 29 = .ok (.getfield 21, 3) := by decide +kernel
theorem dX0_add_32 : decode cX0_add 32 = .ok (.iload_n 3, 1) := by decide +kernel
theorem dX0_add_33 : decode cX0_add 33 = .ok (.invokestatic 74, 3) := by decide +kernel
theorem dX0_add_36 : decode cX0_add 36 = .ok (.aload_n 0, 1) := by decide +kernel
theorem dX0_add_37 : decode cX0_add 37 = .ok (.dup, 1) := by decide +kernel
theorem dX0_add_38 : decode cX0_add 38 = .ok (.getfield 21, 3) := by decide +kernel
theorem dX0_add_41 : decode cX0_add 41 = .ok (.iconst 1, 1) := by decide +kernel
theorem dX0_add_42 : decode cX0_add 42 = .ok (.iadd, 1) := by decide +kernel
theorem dX0_add_43 : decode cX0_add 43 = .ok (.putfield 21, 3) := by decide +kernel
theorem dX0_add_46 : decode cX0_add 46 = .ok (.return_, 1) := by decide +kernel
theorem dX1_init_0 : decode cX1_init 0 = .ok (.aload_n 0, 1) := by decide +kernel
theorem dX1_init_1 : decode cX1_init 1 = .ok (.invokespecial 3, 3) := by decide +kernel
theorem dX1_init_4 : decode cX1_init 4 = .ok (.aload_n 0, 1) := by decide +kernel
theorem dX1_init_5 : decode cX1_init 5 = .ok (.bipush 8, 2) := by decide +kernel
theorem dX1_init_7 : decode cX1_init 7 = .ok (.anewarray 9, 3) := by decide +kernel
theorem dX1_init_10 : decode cX1_init 10 = .ok (.putfield 11, 3) := by decide +kernel
theorem dX1_init_13 : decode cX1_init 13 = .ok (.iconst 0, 1) := by decide +kernel
theorem dX1_init_14 : decode cX1_init 14 = .ok (.istore_n 1, 1) := by decide +kernel
theorem dX1_init_15 : decode cX1_init 15 = .ok (.iload_n 1, 1) := by decide +kernel
theorem dX1_init_16 : decode cX1_init 16 = .ok (.aload_n 0, 1) := by decide +kernel
theorem dX1_init_17 : decode cX1_init 17 = .ok (.getfield 11, 3) := by decide +kernel
theorem dX1_init_20 : decode cX1_init 20 = .ok (.arraylength, 1) := by decide +kernel
theorem dX1_init_21 : decode cX1_init 21 = .ok (.if_icmp .ge 22, 3) := by decide +kernel
theorem dX1_init_24 : decode cX1_init 24 = .ok (.aload_n 0, 1) := by decide +kernel
theorem dX1_init_25 : decode cX1_init 25 = .ok (.getfield 11, 3) := by decide +kernel
theorem dX1_init_28 : decode cX1_init 28 = .ok (.iload_n 1, 1) := by decide +kernel
theorem dX1_init_29 : decode cX1_init 29 = .ok (.new 9, 3) := by decide +kernel
theorem dX1_init_32 : decode cX1_init 32 = .ok (.dup, 1) := by decide +kernel
theorem dX1_init_33 : decode cX1_init 33 = .ok (.invokespecial 17, 3) := by decide +kernel
theorem dX1_init_36 : decode cX1_init 36 = .ok (.aastore, 1) := by decide +kernel
theorem dX1_init_37 : decode cX1_init 37 = .ok (.iinc 1 1, 3) := by decide +kernel
theorem dX1_init_40 : decode cX1_init 40 = .ok (.goto (-25), 3) := by decide +kernel
theorem dX1_init_43 : decode cX1_init 43 = .ok (.return_, 1) := by decide +kernel
theorem dX1_forget_0 : decode cX1_forget 0 = .ok (.aload_n 0, 1) := by decide +kernel
theorem dX1_forget_1 : decode cX1_forget 1 = .ok (.iconst 0, 1) := by decide +kernel
theorem dX1_forget_2 : decode cX1_forget 2 = .ok (.putfield 18, 3) := by decide +kernel
theorem dX1_forget_5 : decode cX1_forget 5 = .ok (.return_, 1) := by decide +kernel
theorem dX1_remember_0 : decode cX1_remember 0 = .ok (.aload_n 0, 1) := by decide +kernel
theorem dX1_remember_1 : decode cX1_remember 1 = .ok (.getfield 18, 3) := by decide +kernel
theorem dX1_remember_4 : decode cX1_remember 4 = .ok (.bipush 8, 2) := by decide +kernel
theorem dX1_remember_6 : decode cX1_remember 6 = .ok (.if_icmp .ne 26, 3) := by decide +kernel
theorem dX1_remember_9 : decode cX1_remember 9 = .ok (.aload_n 0, 1) := by decide +kernel
theorem dX1_remember_10 : decode cX1_remember 10 = .ok (.aload_n 0, 1) := by decide +kernel
theorem dX1_remember_11 : decode cX1_remember 11 = .ok (.getfield 22, 3) := by decide +kernel
theorem dX1_remember_14 : decode cX1_remember 14 = .ok (.iconst 1, 1) := by decide +kernel
theorem dX1_remember_15 : decode cX1_remember 15 = .ok (.iadd, 1) := by decide +kernel
theorem dX1_remember_16 : decode cX1_remember 16 = .ok (.bipush 8, 2) := by decide +kernel
theorem dX1_remember_18 : decode cX1_remember 18 = .ok (.irem, 1) := by decide +kernel
theorem dX1_remember_19 : decode cX1_remember 19 = .ok (.putfield 22, 3) := by decide +kernel
theorem dX1_remember_22 : decode cX1_remember 22 = .ok (.aload_n 0, 1) := by decide +kernel
theorem dX1_remember_23 : decode cX1_remember 23 = .ok (.dup, 1) := by decide +kernel
theorem dX1_remember_24 : decode cX1_remember 24 = .ok (.getfield 18, 3) := by decide +kernel
theorem dX1_remember_27 : decode cX1_remember 27 = .ok (.iconst 1, 1) := by decide +kernel
theorem dX1_remember_28 : decode cX1_remember 28 = .ok (.isub, 1) := by decide +kernel
theorem dX1_remember_29 : decode cX1_remember 29 = .ok (.putfield 18, 3) := by decide +kernel
theorem dX1_remember_32 : decode cX1_remember 32 = .ok (.aload_n 0, 1) := by decide +kernel
theorem dX1_remember_33 : decode cX1_remember 33 = .ok (.aload_n 0, 1) := by decide +kernel
theorem dX1_remember_34 : decode cX1_remember 34 = .ok (.getfield 18, 3) := by decide +kernel
theorem dX1_remember_37 : decode cX1_remember 37 = .ok (.invokevirtual 25, 3) := by decide +kernel
theorem dX1_remember_40 : decode cX1_remember 40 = .ok (.astore_n 2, 1) := by decide +kernel
theorem dX1_remember_41 : decode cX1_remember 41 = .ok (.aload_n 2, 1) := by decide +kernel
theorem dX1_remember_42 : decode cX1_remember 42 = .ok (.ifnull 8, 3) := by decide +kernel
theorem dX1_remember_45 : decode cX1_remember 45 = .ok (.aload_n 2, 1) := by decide +kernel
theorem dX1_remember_46 : decode cX1_remember 46 = .ok (.aload_n 1, 1) := by decide +kernel
theorem dX1_remember_47 : decode cX1_remember 47 = .ok (.invokevirtual 29, 3) := by decide +kernel
theorem dX1_remember_50 : decode cX1_remember 50 = .ok (.aload_n 0, 1) := by decide +kernel
theorem dX1_remember_51 : decode cX1_remember 51 = .ok (.dup, 1) := by decide +kernel
theorem dX1_remember_52 : decode cX1_remember 52 = .ok (.getfield 18, 3) := by decide +kernel
theorem dX1_remember_55 : decode cX1_remember 55 = .ok (.iconst 1, 1) := by decide +kernel
theorem dX1_remember_56 : decode cX1_remember 56 = .ok (.iadd, 1) := by decide +kernel
theorem dX1_remember_57 : decode cX1_remember 57 = .ok (.putfield 18, 3) := by decide +kernel
theorem dX1_remember_60 : decode cX1_remember 60 = .ok (.return_, 1) := by decide +kernel
theorem dX1_restore_0 : decode cX1_restore 0 = .ok (.aload_n 0, 1) := by decide +kernel
theorem dX1_restore_1 : decode cX1_restore 1 = .ok (.dup, 1) := by decide +kernel
theorem dX1_restore_2 : decode cX1_restore 2 = .ok (.getfield 18, 3) := by decide +kernel
theorem dX1_restore_5 : decode cX1_restore 5 = .ok (.iconst 1, 1) := by decide +kernel
theorem dX1_restore_6 : decode cX1_restore 6 = .ok (.isub, 1) := by decide +kernel
theorem dX1_restore_7 : decode cX1_restore 7 = .ok (.putfield 18, 3) := by decide +kernel
theorem dX1_restore_10 : decode cX1_restore 10 = .ok (.aload_n 0, 1) := by decide +kernel
theorem dX1_restore_11 : decode cX1_restore 11 = .ok (.aload_n 0, 1) := by decide +kernel
theorem dX1_restore_12 : decode cX1_restore 12 = .ok (.getfield 18, 3) := by decide +kernel
theorem dX1_restore_15 : decode cX1_restore 15 = .ok (.invokevirtual 25, 3) := by decide +kernel
theorem dX1_restore_18 : decode cX1_restore 18 = .ok (.astore_n 2, 1) := by decide +kernel
theorem dX1_restore_19 : decode cX1_restore 19 = .ok (.aload_n 2, 1) := by decide +kernel
theorem dX1_restore_20 : decode cX1_restore 20 = .ok (.ifnull 8, 3) := by decide +kernel
theorem dX1_restore_23 : decode cX1_restore 23 = .ok (.aload_n 1, 1) := by decide +kernel
theorem dX1_restore_24 : decode cX1_restore 24 = .ok (.aload_n 2, 1) := by decide +kernel
theorem dX1_restore_25 : decode cX1_restore 25 = .ok (.invokevirtual 29, 3) := by decide +kernel
theorem dX1_restore_28 : decode cX1_restore 28 = .ok (.return_, 1) := by decide +kernel
theorem dX1_slotAt_0 : decode cX1_slotAt 0 = .ok (.aload_n 0, 1) := by decide +kernel
theorem dX1_slotAt_1 : decode cX1_slotAt 1 = .ok (.getfield 22, 3) := by decide +kernel
theorem dX1_slotAt_4 : decode cX1_slotAt 4 = .ok (.iload_n 1, 1) := by decide +kernel
theorem dX1_slotAt_5 : decode cX1_slotAt 5 = .ok (.iadd, 1) := by decide +kernel
theorem dX1_slotAt_6 : decode cX1_slotAt 6 = .ok (.bipush 8, 2) := by decide +kernel
theorem dX1_slotAt_8 : decode cX1_slotAt 8 = .ok (.irem, 1) := by decide +kernel
theorem dX1_slotAt_9 : decode cX1_slotAt 9 = .ok (.istore_n 2, 1) := by decide +kernel
theorem dX1_slotAt_10 : decode cX1_slotAt 10 = .ok (.iload_n 2, 1) := by decide +kernel
theorem dX1_slotAt_11 : decode cX1_slotAt 11 = .ok (.ifCond .lt 21, 3) := by decide +kernel
theorem dX1_slotAt_14 : decode cX1_slotAt 14 = .ok (.iload_n 2, 1) := by decide +kernel
theorem dX1_slotAt_15 : decode cX1_slotAt 15 = .ok (.aload_n 0, 1) := by decide +kernel
theorem dX1_slotAt_16 : decode cX1_slotAt 16 = .ok (.getfield 11, 3) := by decide +kernel
theorem dX1_slotAt_19 : decode cX1_slotAt 19 = .ok (.arraylength, 1) := by decide +kernel
theorem dX1_slotAt_20 : decode cX1_slotAt 20 = .ok (.if_icmp .ge 12, 3) := by decide +kernel
theorem dX1_slotAt_23 : decode cX1_slotAt 23 = .ok (.aload_n 0, 1) := by decide +kernel
theorem dX1_slotAt_24 : decode cX1_slotAt 24 = .ok (.getfield 11, 3) := by decide +kernel
theorem dX1_slotAt_27 : decode cX1_slotAt 27 = .ok (.iload_n 2, 1) := by decide +kernel
theorem dX1_slotAt_28 : decode cX1_slotAt 28 = .ok (.aaload, 1) := by decide +kernel
theorem dX1_slotAt_29 : decode cX1_slotAt 29 = .ok (.goto 4, 3) := by decide +kernel
theorem dX1_slotAt_32 : decode cX1_slotAt 32 = .ok (.aconst_null, 1) := by decide +kernel
theorem dX1_slotAt_33 : decode cX1_slotAt 33 = .ok (.areturn, 1) := by decide +kernel
theorem dX2_init_0 : decode cX2_init 0 = .ok (.aload_n 0, 1) := by decide +kernel
theorem dX2_init_1 : decode cX2_init 1 = .ok (.invokespecial 3, 3) := by decide +kernel
theorem dX2_init_4 : decode cX2_init 4 = .ok (.aload_n 0, 1) := by decide +kernel
theorem dX2_init_5 : decode cX2_init 5 = .ok (.new 9, 3) := by decide +kernel
theorem dX2_init_8 : decode cX2_init 8 = .ok (.dup, 1) := by decide +kernel
theorem dX2_init_9 : decode cX2_init 9 = .ok (.invokespecial 11, 3) := by decide +kernel
theorem dX2_init_12 : decode cX2_init 12 = .ok (.putfield 12, 3) := by decide +kernel
theorem dX2_init_15 : decode cX2_init 15 = .ok (.return_, 1) := by decide +kernel
theorem dX2_measureBy_0 : decode cX2_measureBy 0 = .ok (.aload_n 0, 1) := by decide +kernel
theorem dX2_measureBy_1 : decode cX2_measureBy 1 = .ok (.aload_n 1, 1) := by decide +kernel
theorem dX2_measureBy_2 : decode cX2_measureBy 2 = .ok (.getfield 18, 3) := by decide +kernel
theorem dX2_measureBy_5 : decode cX2_measureBy 5 = .ok (.putfield 24, 3) := by decide +kernel
theorem dX2_measureBy_8 : decode cX2_measureBy 8 = .ok (.aload_n 0, 1) := by decide +kernel
theorem dX2_measureBy_9 : decode cX2_measureBy 9 = .ok (.aload_n 1, 1) := by decide +kernel
theorem dX2_measureBy_10 : decode cX2_measureBy 10 = .ok (.getfield 27, 3) := by decide +kernel
theorem dX2_measureBy_13 : decode cX2_measureBy 13 = .ok (.putfield 30, 3) := by decide +kernel
theorem dX2_measureBy_16 : decode cX2_measureBy 16 = .ok (.aload_n 0, 1) := by decide +kernel
theorem dX2_measureBy_17 : decode cX2_measureBy 17 = .ok (.aload_n 1, 1) := by decide +kernel
theorem dX2_measureBy_18 : decode cX2_measureBy 18 = .ok (.invokevirtual 31, 3) := by decide +kernel
theorem dX2_measureBy_21 : decode cX2_measureBy 21 = .ok (.putfield 35, 3) := by decide +kernel
theorem dX2_measureBy_24 : decode cX2_measureBy 24 = .ok (.aload_n 0, 1) := by decide +kernel
theorem dX2_measureBy_25 : decode cX2_measureBy 25 = .ok (.aload_n 1, 1) := by decide +kernel
theorem dX2_measureBy_26 : decode cX2_measureBy 26 = .ok (.invokevirtual 38, 3) := by decide +kernel
theorem dX2_measureBy_29 : decode cX2_measureBy 29 = .ok (.putfield 41, 3) := by decide +kernel
theorem dX2_measureBy_32 : decode cX2_measureBy 32 = .ok (.aload_n 0, 1) := by decide +kernel
theorem dX2_measureBy_33 : decode cX2_measureBy 33 = .ok (.aload_n 1, 1) := by decide +kernel
theorem dX2_measureBy_34 : decode cX2_measureBy 34 = .ok (.invokevirtual 44, 3) := by decide +kernel
theorem dX2_measureBy_37 : decode cX2_measureBy 37 = .ok (.putfield 47, 3) := by decide +kernel
theorem dX2_measureBy_40 : decode cX2_measureBy 40 = .ok (.aload_n 0, 1) := by decide +kernel
theorem dX2_measureBy_41 : decode cX2_measureBy 41 = .ok (.aload_n 1, 1) := by decide +kernel
theorem dX2_measureBy_42 : decode cX2_measureBy 42 = .ok (.getfield 50, 3) := by decide +kernel
theorem dX2_measureBy_45 : decode cX2_measureBy 45 = .ok (.putfield 53, 3) := by decide +kernel
theorem dX2_measureBy_48 : decode cX2_measureBy 48 = .ok (.aload_n 0, 1) := by decide +kernel
theorem dX2_measureBy_49 : decode cX2_measureBy 49 = .ok (.aload_n 1, 1) := by decide +kernel
theorem dX2_measureBy_50 : decode cX2_measureBy 50 = .ok (.getfield 54, 3) := by decide +kernel
theorem dX2_measureBy_53 : decode cX2_measureBy 53 = .ok (.putfield 57, 3) := by decide +kernel
theorem dX2_measureBy_56 : decode cX2_measureBy 56 = .ok (.aload_n 0, 1) := by decide +kernel
theorem dX2_measureBy_57 : decode cX2_measureBy 57 = .ok (.aload_n 1, 1) := by decide +kernel
theorem dX2_measureBy_58 : decode cX2_measureBy 58 = .ok (.getfield 58, 3) := by decide +kernel
theorem dX2_measureBy_61 : decode cX2_measureBy 61 = .ok (.i2f, 1) := by decide +kernel
theorem dX2_measureBy_62 : decode cX2_measureBy 62 = .ok (.ldc 61, 2) := by decide +kernel
theorem dX2_measureBy_64 : decode cX2_measureBy 64 = .ok (.fdiv, 1) := by decide +kernel
theorem dX2_measureBy_65 : decode cX2_measureBy 65 = .ok (.putfield 62, 3) := by decide +kernel
theorem dX2_measureBy_68 : decode cX2_measureBy 68 = .ok (.return_, 1) := by decide +kernel
theorem dX2_beginAt_0 : decode cX2_beginAt 0 = .ok (.aload_n 0, 1) := by decide +kernel
theorem dX2_beginAt_1 : decode cX2_beginAt 1 = .ok (.iload_n 1, 1) := by decide +kernel
theorem dX2_beginAt_2 : decode cX2_beginAt 2 = .ok (.putfield 66, 3) := by decide +kernel
theorem dX2_beginAt_5 : decode cX2_beginAt 5 = .ok (.aload_n 0, 1) := by decide +kernel
theorem dX2_beginAt_6 : decode cX2_beginAt 6 = .ok (.iload_n 1, 1) := by decide +kernel
theorem dX2_beginAt_7 : decode cX2_beginAt 7 = .ok (.iconst 1, 1) := by decide +kernel
theorem dX2_beginAt_8 : decode cX2_beginAt 8 = .ok (.isub, 1) := by decide +kernel
theorem dX2_beginAt_9 : decode cX2_beginAt 9 = .ok (.putfield 69, 3) := by decide +kernel
theorem dX2_beginAt_12 : decode cX2_beginAt 12 = .ok (.aload_n 0, 1) := by decide +kernel
theorem dX2_beginAt_13 : decode cX2_beginAt 13 = .ok (.iload_n 1, 1) := by decide +kernel
theorem dX2_beginAt_14 : decode cX2_beginAt 14 = .ok (.ifCond .le 19, 3) := by decide +kernel
theorem dX2_beginAt_17 : decode cX2_beginAt 17 = .ok (.aload_n 0, 1) := by decide +kernel
theorem dX2_beginAt_18 : decode cX2_beginAt 18 = .ok (.getfield 12, 3) := by decide +kernel
theorem dX2_beginAt_21 : decode cX2_beginAt 21 = .ok (.getfield 72, 3) := by decide +kernel
theorem dX2_beginAt_24 : decode cX2_beginAt 24 = .ok (.iload_n 1, 1) := by decide +kernel
theorem dX2_beginAt_25 : decode cX2_beginAt 25 = .ok (.iconst 1, 1) := by decide +kernel
theorem dX2_beginAt_26 : decode cX2_beginAt 26 = .ok (.isub, 1) := by decide +kernel
theorem dX2_beginAt_27 : decode cX2_beginAt 27 = .ok (.invokestatic 76, 3) := by decide +kernel
theorem dX2_beginAt_30 : decode cX2_beginAt 30 = .ok (.goto 4, 3) := by decide +kernel
theorem dX2_beginAt_33 : decode cX2_beginAt 33 = .ok (.iconst 0, 1) := by decide +kernel
theorem dX2_beginAt_34 : decode cX2_beginAt 34 = .ok (.putfield 80, 3) := by decide +kernel
theorem dX2_beginAt_37 : decode cX2_beginAt 37 = .ok (.aload_n 0, 1) := by decide +kernel
theorem dX2_beginAt_38 : decode cX2_beginAt 38 = .ok (.iconst 0, 1) := by decide +kernel
theorem dX2_beginAt_39 : decode cX2_beginAt 39 = .ok (.putfield 83, 3) := by decide +kernel
theorem dX2_beginAt_42 : decode cX2_beginAt 42 = .ok (.aload_n 0, 1) := by decide +kernel
theorem dX2_beginAt_43 : decode cX2_beginAt 43 = .ok (.iconst 0, 1) := by decide +kernel
theorem dX2_beginAt_44 : decode cX2_beginAt 44 = .ok (.putfield 86, 3) := by decide +kernel
theorem dX2_beginAt_47 : decode cX2_beginAt 47 = .ok (.return_, 1) := by decide +kernel
theorem dX2_grow_0 : decode cX2_grow 0 = .ok (.aload_n 0, 1) := by decide +kernel
theorem dX2_grow_1 : decode cX2_grow 1 = .ok (.getfield 69, 3) := by decide +kernel
theorem dX2_grow_4 : decode cX2_grow 4 = .ok (.aload_n 0, 1) := by decide +kernel
theorem dX2_grow_5 : decode cX2_grow 5 = .ok (.getfield 66, 3) := by decide +kernel
theorem dX2_grow_8 : decode cX2_grow 8 = .ok (.if_icmp .lt 20, 3) := by decide +kernel
theorem dX2_grow_11 : decode cX2_grow 11 = .ok (.aload_n 0, 1) := by decide +kernel
theorem dX2_grow_12 : decode cX2_grow 12 = .ok (.getfield 89, 3) := by decide +kernel
theorem dX2_grow_15 : decode cX2_grow 15 = .ok (.ifCond .ne 13, 3) := by decide +kernel
theorem dX2_grow_18 : decode cX2_grow 18 = .ok (.aload_n 0, 1) := by decide +kernel
theorem dX2_grow_19 : decode cX2_grow 19 = .ok (.dup, 1) := by decide +kernel
theorem dX2_grow_20 : decode cX2_grow 20 = .ok (.getfield 86, 3) := by decide +kernel
theorem dX2_grow_23 : decode cX2_grow 23 = .ok (.iconst 1, 1) := by decide +kernel
theorem dX2_grow_24 : decode cX2_grow 24 = .ok (.iadd, 1) := by decide +kernel
theorem dX2_grow_25 : decode cX2_grow 25 = .ok (.putfield 86, 3) := by decide +kernel
theorem dX2_grow_28 : decode cX2_grow 28 = .ok (.aload_n 0, 1) := by decide +kernel
theorem dX2_grow_29 : decode cX2_grow 29 = .ok (.dup, 1) := by decide +kernel
theorem dX2_grow_30 : decode cX2_grow 30 = .ok (.getfield 69, 3) := by decide +kernel
theorem dX2_grow_33 : decode cX2_grow 33 = .ok (.iconst 1, 1) := by decide +kernel
theorem dX2_grow_34 : decode cX2_grow 34 = .ok (.iadd, 1) := by decide +kernel
theorem dX2_grow_35 : decode cX2_grow 35 = .ok (.putfield 69, 3) := by decide +kernel
theorem dX2_grow_38 : decode cX2_grow 38 = .ok (.aload_n 0, 1) := by decide +kernel
theorem dX2_grow_39 : decode cX2_grow 39 = .ok (.dup, 1) := by decide +kernel
theorem dX2_grow_40 : decode cX2_grow 40 = .ok (.getfield 83, 3) := by decide +kernel
theorem dX2_grow_43 : decode cX2_grow 43 = .ok (.aload_n 0, 1) := by decide +kernel
theorem dX2_grow_44 : decode cX2_grow 44 = .ok (.getfield 12, 3) := by decide +kernel
theorem dX2_grow_47 : decode cX2_grow 47 = .ok (.getfield 92, 3) := by decide +kernel
theorem dX2_grow_50 : decode cX2_grow 50 = .ok (.aload_n 0, 1) := by decide +kernel
theorem dX2_grow_51 : decode cX2_grow 51 = .ok (.getfield 69, 3) := by decide +kernel
theorem dX2_grow_54 : decode cX2_grow 54 = .ok (.invokestatic 76, 3) := by decide +kernel
theorem dX2_grow_57 : decode cX2_grow 57 = .ok (.iadd, 1) := by decide +kernel
theorem dX2_grow_58 : decode cX2_grow 58 = .ok (.putfield 83, 3) := by decide +kernel
theorem dX2_grow_61 : decode cX2_grow 61 = .ok (.aload_n 0, 1) := by decide +kernel
theorem dX2_grow_62 : decode cX2_grow 62 = .ok (.aload_n 0, 1) := by decide +kernel
theorem dX2_grow_63 : decode cX2_grow 63 = .ok (.getfield 12, 3) := by decide +kernel
theorem dX2_grow_66 : decode cX2_grow 66 = .ok (.getfield 72, 3) := by decide +kernel
theorem dX2_grow_69 : decode cX2_grow 69 = .ok (.aload_n 0, 1) := by decide +kernel
theorem dX2_grow_70 : decode cX2_grow 70 = .ok (.getfield 69, 3) := by decide +kernel
theorem dX2_grow_73 : decode cX2_grow 73 = .ok (.invokestatic 76, 3) := by decide +kernel
theorem dX2_grow_76 : decode cX2_grow 76 = .ok (.putfield 89, 3) := by decide +kernel
theorem dX2_grow_79 : decode cX2_grow 79 = .ok (.aload_n 0, 1) := by decide +kernel
theorem dX2_grow_80 : decode cX2_grow 80 = .ok (.aload_n 0, 1) := by decide +kernel
theorem dX2_grow_81 : decode cX2_grow 81 = .ok (.getfield 12, 3) := by decide +kernel
theorem dX2_grow_84 : decode cX2_grow 84 = .ok (.getfield 95, 3) := by decide +kernel
theorem dX2_grow_87 : decode cX2_grow 87 = .ok (.aload_n 0, 1) := by decide +kernel
theorem dX2_grow_88 : decode cX2_grow 88 = .ok (.getfield 69, 3) := by decide +kernel
theorem dX2_grow_91 : decode cX2_grow 91 = .ok (.invokestatic 76, 3) := by decide +kernel
theorem dX2_grow_94 : decode cX2_grow 94 = .ok (.aload_n 0, 1) := by decide +kernel
theorem dX2_grow_95 : decode cX2_grow 95 = .ok (.getfield 12, 3) := by decide +kernel
theorem dX2_grow_98 : decode cX2_grow 98 = .ok (.getfield 95, 3) := by decide +kernel
theorem dX2_grow_101 : decode cX2_grow 101 = .ok (.aload_n 0, 1) := by decide +kernel
theorem dX2_grow_102 : decode cX2_grow 102 = .ok (.getfield 66, 3) := by decide +kernel
theorem dX2_grow_105 : decode cX2_grow 105 = .ok (.invokestatic 76, 3) := by decide +kernel
theorem dX2_grow_108 : decode cX2_grow 108 = .ok (.isub, 1) := by decide +kernel
theorem dX2_grow_109 : decode cX2_grow 109 = .ok (.iconst 1, 1) := by decide +kernel
theorem dX2_grow_110 : decode cX2_grow 110 = .ok (.iadd, 1) := by decide +kernel
theorem dX2_grow_111 : decode cX2_grow 111 = .ok (.putfield 98, 3) := by decide +kernel
theorem dX2_grow_114 : decode cX2_grow 114 = .ok (.aload_n 0, 1) := by decide +kernel
theorem dX2_grow_115 : decode cX2_grow 115 = .ok (.aload_n 0, 1) := by decide +kernel
theorem dX2_grow_116 : decode cX2_grow 116 = .ok (.getfield 83, 3) := by decide +kernel
theorem dX2_grow_119 : decode cX2_grow 119 = .ok (.aload_n 0, 1) := by decide +kernel
theorem dX2_grow_120 : decode cX2_grow 120 = .ok (.getfield 86, 3) := by decide +kernel
theorem dX2_grow_123 : decode cX2_grow 123 = .ok (.aload_n 0, 1) := by decide +kernel
theorem dX2_grow_124 : decode cX2_grow 124 = .ok (.getfield 30, 3) := by decide +kernel
theorem dX2_grow_127 : decode cX2_grow 127 = .ok (.imul, 1) := by decide +kernel
theorem dX2_grow_128 : decode cX2_grow 128 = .ok (.iadd, 1) := by decide +kernel
theorem dX2_grow_129 : decode cX2_grow 129 = .ok (.aload_n 0, 1) := by decide +kernel
theorem dX2_grow_130 : decode cX2_grow 130 = .ok (.getfield 89, 3) := by decide +kernel
theorem dX2_grow_133 : decode cX2_grow 133 = .ok (.iconst 1, 1) := by decide +kernel
theorem dX2_grow_134 : decode cX2_grow 134 = .ok (.if_icmp .ne 7, 3) := by decide +kernel
theorem dX2_grow_137 : decode cX2_grow 137 = .ok (.iconst 2, 1) := by decide +kernel
theorem dX2_grow_138 : decode cX2_grow 138 = .ok (.goto 4, 3) := by decide +kernel
theorem dX2_grow_141 : decode cX2_grow 141 = .ok (.iconst 0, 1) := by decide +kernel
theorem dX2_grow_142 : decode cX2_grow 142 = .ok (.iadd, 1) := by decide +kernel
theorem dX2_grow_143 : decode cX2_grow 143 = .ok (.putfield 101, 3) := by decide +kernel
theorem dX2_grow_146 : decode cX2_grow 146 = .ok (.aload_n 0, 1) := by decide +kernel
theorem dX2_grow_147 : decode cX2_grow 147 = .ok (.aload_n 0, 1) := by decide +kernel
theorem dX2_grow_148 : decode cX2_grow 148 = .ok (.invokevirtual 104, 3) := by decide +kernel
theorem dX2_grow_151 : decode cX2_grow 151 = .ok (.putfield 108, 3) := by decide +kernel
theorem dX2_grow_154 : decode cX2_grow 154 = .ok (.return_, 1) := by decide +kernel
theorem dX2_fragmentCount_0 : decode cX2_fragmentCount 0 = .ok (.aload_n 0, 1) := by decide +kernel
theorem dX2_fragmentCount_1 : decode cX2_fragmentCount 1 = .ok (.getfield 69, 3) := by decide +kernel
theorem dX2_fragmentCount_4 : decode cX2_fragmentCount 4 = .ok (.aload_n 0, 1) := by decide +kernel
theorem dX2_fragmentCount_5 : decode cX2_fragmentCount 5 = .ok (.getfield 66, 3) := by decide +kernel
theorem dX2_fragmentCount_8 : decode cX2_fragmentCount 8 = .ok (.isub, 1) := by decide +kernel
theorem dX2_fragmentCount_9 : decode cX2_fragmentCount 9 = .ok (.iconst 1, 1) := by decide +kernel
theorem dX2_fragmentCount_10 : decode cX2_fragmentCount 10 = .ok (.iadd, 1) := by decide +kernel
theorem dX2_fragmentCount_11 : decode cX2_fragmentCount 11 = .ok (.ireturn, 1) := by decide +kernel
theorem dX2_isFull_0 : decode cX2_isFull 0 = .ok (.aload_n 0, 1) := by decide +kernel
theorem dX2_isFull_1 : decode cX2_isFull 1 = .ok (.getfield 89, 3) := by decide +kernel
theorem dX2_isFull_4 : decode cX2_isFull 4 = .ok (.iconst 2, 1) := by decide +kernel
theorem dX2_isFull_5 : decode cX2_isFull 5 = .ok (.if_icmp .eq 29, 3) := by decide +kernel
theorem dX2_isFull_8 : decode cX2_isFull 8 = .ok (.aload_n 0, 1) := by decide +kernel
theorem dX2_isFull_9 : decode cX2_isFull 9 = .ok (.getfield 83, 3) := by decide +kernel
theorem dX2_isFull_12 : decode cX2_isFull 12 = .ok (.aload_n 0, 1) := by decide +kernel
theorem dX2_isFull_13 : decode cX2_isFull 13 = .ok (.getfield 86, 3) := by decide +kernel
theorem dX2_isFull_16 : decode cX2_isFull 16 = .ok (.aload_n 0, 1) := by decide +kernel
theorem dX2_isFull_17 : decode cX2_isFull 17 = .ok (.getfield 30, 3) := by decide +kernel
theorem dX2_isFull_20 : decode cX2_isFull 20 = .ok (.aload_n 0, 1) := by decide +kernel
theorem dX2_isFull_21 : decode cX2_isFull 21 = .ok (.getfield 41, 3) := by decide +kernel
theorem dX2_isFull_24 : decode cX2_isFull 24 = .ok (.isub, 1) := by decide +kernel
theorem dX2_isFull_25 : decode cX2_isFull 25 = .ok (.imul, 1) := by decide +kernel
theorem dX2_isFull_26 : decode cX2_isFull 26 = .ok (.iadd, 1) := by decide +kernel
theorem dX2_isFull_27 : decode cX2_isFull 27 = .ok (.aload_n 0, 1) := by decide +kernel
theorem dX2_isFull_28 : decode cX2_isFull 28 = .ok (.getfield 24, 3) := by decide +kernel
theorem dX2_isFull_31 : decode cX2_isFull 31 = .ok (.if_icmp .le 7, 3) := by decide +kernel
theorem dX2_isFull_34 : decode cX2_isFull 34 = .ok (.iconst 1, 1) := by decide +kernel
theorem dX2_isFull_35 : decode cX2_isFull 35 = .ok (.goto 4, 3) := by decide +kernel
theorem dX2_isFull_38 : decode cX2_isFull 38 = .ok (.iconst 0, 1) := by decide +kernel
theorem dX2_isFull_39 : decode cX2_isFull 39 = .ok (.ireturn, 1) := by decide +kernel
theorem dX2_fits_0 : decode cX2_fits 0 = .ok (.aload_n 0, 1) := by decide +kernel
theorem dX2_fits_1 : decode cX2_fits 1 = .ok (.getfield 108, 3) := by decide +kernel
theorem dX2_fits_4 : decode cX2_fits 4 = .ok (.ldc 111, 2) := by decide +kernel
theorem dX2_fits_6 : decode cX2_fits 6 = .ok (.fcmp .l, 1) := by decide +kernel
theorem dX2_fits_7 : decode cX2_fits 7 = .ok (.ifCond .lt 19, 3) := by decide +kernel
theorem dX2_fits_10 : decode cX2_fits 10 = .ok (.aload_n 0, 1) := by decide +kernel
theorem dX2_fits_11 : decode cX2_fits 11 = .ok (.getfield 108, 3) := by decide +kernel
theorem dX2_fits_14 : decode cX2_fits 14 = .ok (.aload_n 0, 1) := by decide +kernel
theorem dX2_fits_15 : decode cX2_fits 15 = .ok (.getfield 62, 3) := by decide +kernel
theorem dX2_fits_18 : decode cX2_fits 18 = .ok (.fcmp .g, 1) := by decide +kernel
theorem dX2_fits_19 : decode cX2_fits 19 = .ok (.ifCond .gt 7, 3) := by decide +kernel
theorem dX2_fits_22 : decode cX2_fits 22 = .ok (.iconst 1, 1) := by decide +kernel
theorem dX2_fits_23 : decode cX2_fits 23 = .ok (.goto 4, 3) := by decide +kernel
theorem dX2_fits_26 : decode cX2_fits 26 = .ok (.iconst 0, 1) := by decide +kernel
theorem dX2_fits_27 : decode cX2_fits 27 = .ok (.ireturn, 1) := by decide +kernel
theorem dX2_badnessOfLine_0 : decode cX2_badnessOfLine 0 = .ok (.aload_n 0, 1) := by decide +kernel
theorem dX2_badnessOfLine_1 : decode cX2_badnessOfLine 1 = .ok (.getfield 108, 3) := by decide +kernel
theorem dX2_badnessOfLine_4 : decode cX2_badnessOfLine 4 = .ok (.fconst 0, 1) := by decide +kernel
theorem dX2_badnessOfLine_5 : decode cX2_badnessOfLine 5 = .ok (.fcmp .g, 1) := by decide +kernel
theorem dX2_badnessOfLine_6 : decode cX2_badnessOfLine 6 = .ok (.ifCond .ge 11, 3) := by decide +kernel
theorem dX2_badnessOfLine_9 : decode cX2_badnessOfLine 9 = .ok (.aload_n 0, 1) := by decide +kernel
theorem dX2_badnessOfLine_10 : decode cX2_badnessOfLine 10 = .ok (.getfield 108, 3) := by decide +kernel
theorem dX2_badnessOfLine_13 : decode cX2_badnessOfLine 13 = .ok (.fneg, 1) := by decide +kernel
theorem dX2_badnessOfLine_14 : decode cX2_badnessOfLine 14 = .ok (.goto 7, 3) := by decide +kernel
theorem dX2_badnessOfLine_17 : decode cX2_badnessOfLine 17 = .ok (.aload_n 0, 1) := by decide +kernel
theorem dX2_badnessOfLine_18 : decode cX2_badnessOfLine 18 = .ok (.getfield 108, 3) := by decide +kernel
theorem dX2_badnessOfLine_21 : decode cX2_badnessOfLine 21 = .ok (.fstore_n 1, 1) := by decide +kernel
theorem dX2_badnessOfLine_22 : decode cX2_badnessOfLine 22 = .ok (.fload_n 1, 1) := by decide +kernel
theorem dX2_badnessOfLine_23 : decode cX2_badnessOfLine 23 = .ok (.fload_n 1, 1) := by decide +kernel
theorem dX2_badnessOfLine_24 : decode cX2_badnessOfLine 24 = .ok (.fmul, 1) := by decide +kernel
theorem dX2_badnessOfLine_25 : decode cX2_badnessOfLine 25 = .ok (.fload_n 1, 1) := by decide +kernel
theorem dX2_badnessOfLine_26 : decode cX2_badnessOfLine 26 = .ok (.fmul, 1) := by decide +kernel
theorem dX2_badnessOfLine_27 : decode cX2_badnessOfLine 27 = .ok (.ldc 112, 2) := by decide +kernel
theorem dX2_badnessOfLine_29 : decode cX2_badnessOfLine 29 = .ok (.fmul, 1) := by decide +kernel
theorem dX2_badnessOfLine_30 : decode cX2_badnessOfLine 30 = .ok (.freturn, 1) := by decide +kernel
theorem dX2_demeritsOfLine_0 : decode cX2_demeritsOfLine 0 = .ok (.aload_n 0, 1) := by decide +kernel
theorem dX2_demeritsOfLine_1 : decode cX2_demeritsOfLine 1 = .ok (.getfield 89, 3) := by decide +kernel
theorem dX2_demeritsOfLine_4 : decode cX2_demeritsOfLine 4 = .ok (.iconst 1, 1) := by decide +kernel
theorem dX2_demeritsOfLine_5 : decode cX2_demeritsOfLine 5 = .ok (.if_icmp .ne 11, 3) := by decide +kernel
theorem dX2_demeritsOfLine_8 : decode cX2_demeritsOfLine 8 = .ok (.aload_n 0, 1) := by decide +kernel
theorem dX2_demeritsOfLine_9 : decode cX2_demeritsOfLine 9 = .ok (.getfield 47, 3) := by decide +kernel
theorem dX2_demeritsOfLine_12 : decode cX2_demeritsOfLine 12 = .ok (.i2f, 1) := by decide +kernel
theorem dX2_demeritsOfLine_13 : decode cX2_demeritsOfLine 13 = .ok (.goto 4, 3) := by decide +kernel
theorem dX2_demeritsOfLine_16 : decode cX2_demeritsOfLine 16 = .ok (.fconst 0, 1) := by decide +kernel
theorem dX2_demeritsOfLine_17 : decode cX2_demeritsOfLine 17 = .ok (.fstore_n 1, 1) := by decide +kernel
theorem dX2_demeritsOfLine_18 : decode cX2_demeritsOfLine 18 = .ok (.aload_n 0, 1) := by decide +kernel
theorem dX2_demeritsOfLine_19 : decode cX2_demeritsOfLine 19 = .ok (.fconst 1, 1) := by decide +kernel
theorem dX2_demeritsOfLine_20 : decode cX2_demeritsOfLine 20 = .ok (.aload_n 0, 1) := by decide +kernel
theorem dX2_demeritsOfLine_21 : decode cX2_demeritsOfLine 21 = .ok (.invokevirtual 113, 3) := by decide +kernel
theorem dX2_demeritsOfLine_24 : decode cX2_demeritsOfLine 24 = .ok (.fadd, 1) := by decide +kernel
theorem dX2_demeritsOfLine_25 : decode cX2_demeritsOfLine 25 = .ok (.fload_n 1, 1) := by decide +kernel
theorem dX2_demeritsOfLine_26 : decode cX2_demeritsOfLine 26 = .ok (.invokevirtual 116, 3) := by decide +kernel
theorem dX2_demeritsOfLine_29 : decode cX2_demeritsOfLine 29 = .ok (.fstore_n 2, 1) := by decide +kernel
theorem dX2_demeritsOfLine_30 : decode cX2_demeritsOfLine 30 = .ok (.aload_n 0, 1) := by decide +kernel
theorem dX2_demeritsOfLine_31 : decode cX2_demeritsOfLine 31 = .ok (.getfield 89, 3) := by decide +kernel
theorem dX2_demeritsOfLine_34 : decode cX2_demeritsOfLine 34 = .ok (.iconst 1, 1) := by decide +kernel
theorem dX2_demeritsOfLine_35 : decode cX2_demeritsOfLine 35 = .ok (.if_icmp .ne 16, 3) := by decide +kernel
theorem dX2_demeritsOfLine_38 : decode cX2_demeritsOfLine 38 = .ok (.aload_n 0, 1) := by decide +kernel
theorem dX2_demeritsOfLine_39 : decode cX2_demeritsOfLine 39 = .ok (.getfield 80, 3) := by decide +kernel
theorem dX2_demeritsOfLine_42 : decode cX2_demeritsOfLine 42 = .ok (.iconst 1, 1) := by decide +kernel
theorem dX2_demeritsOfLine_43 : decode cX2_demeritsOfLine 43 = .ok (.if_icmp .ne 8, 3) := by decide +kernel
theorem dX2_demeritsOfLine_46 : decode cX2_demeritsOfLine 46 = .ok (.fload_n 2, 1) := by decide +kernel
theorem dX2_demeritsOfLine_47 : decode cX2_demeritsOfLine 47 = .ok (.ldc 120, 2) := by decide +kernel
theorem dX2_demeritsOfLine_49 : decode cX2_demeritsOfLine 49 = .ok (.fadd, 1) := by decide +kernel
theorem dX2_demeritsOfLine_50 : decode cX2_demeritsOfLine 50 = .ok (.fstore_n 2, 1) := by decide +kernel
theorem dX2_demeritsOfLine_51 : decode cX2_demeritsOfLine 51 = .ok (.aload_n 0, 1) := by decide +kernel
theorem dX2_demeritsOfLine_52 : decode cX2_demeritsOfLine 52 = .ok (.invokevirtual 121, 3) := by decide +kernel
theorem dX2_demeritsOfLine_55 : decode cX2_demeritsOfLine 55 = .ok (.ifCond .eq 14, 3) := by decide +kernel
theorem dX2_demeritsOfLine_58 : decode cX2_demeritsOfLine 58 = .ok (.fload_n 2, 1) := by decide +kernel
theorem dX2_demeritsOfLine_59 : decode cX2_demeritsOfLine 59 = .ok (.aload_n 0, 1) := by decide +kernel
theorem dX2_demeritsOfLine_60 : decode cX2_demeritsOfLine 60 = .ok (.getfield 57, 3) := by decide +kernel
theorem dX2_demeritsOfLine_63 : decode cX2_demeritsOfLine 63 = .ok (.i2f, 1) := by decide +kernel
theorem dX2_demeritsOfLine_64 : decode cX2_demeritsOfLine 64 = .ok (.ldc 125, 2) := by decide +kernel
theorem dX2_demeritsOfLine_66 : decode cX2_demeritsOfLine 66 = .ok (.fmul, 1) := by decide +kernel
theorem dX2_demeritsOfLine_67 : decode cX2_demeritsOfLine 67 = .ok (.fadd, 1) := by decide +kernel
theorem dX2_demeritsOfLine_68 : decode cX2_demeritsOfLine 68 = .ok (.fstore_n 2, 1) := by decide +kernel
theorem dX2_demeritsOfLine_69 : decode cX2_demeritsOfLine 69 = .ok (.fload_n 2, 1) := by decide +kernel
theorem dX2_demeritsOfLine_70 : decode cX2_demeritsOfLine 70 = .ok (.freturn, 1) := by decide +kernel
theorem dX2_isWidow_0 : decode cX2_isWidow 0 = .ok (.aload_n 0, 1) := by decide +kernel
theorem dX2_isWidow_1 : decode cX2_isWidow 1 = .ok (.getfield 98, 3) := by decide +kernel
theorem dX2_isWidow_4 : decode cX2_isWidow 4 = .ok (.iconst 1, 1) := by decide +kernel
theorem dX2_isWidow_5 : decode cX2_isWidow 5 = .ok (.if_icmp .ne 30, 3) := by decide +kernel
theorem dX2_isWidow_8 : decode cX2_isWidow 8 = .ok (.aload_n 0, 1) := by decide +kernel
theorem dX2_isWidow_9 : decode cX2_isWidow 9 = .ok (.getfield 89, 3) := by decide +kernel
theorem dX2_isWidow_12 : decode cX2_isWidow 12 = .ok (.iconst 2, 1) := by decide +kernel
theorem dX2_isWidow_13 : decode cX2_isWidow 13 = .ok (.if_icmp .lt 22, 3) := by decide +kernel
theorem dX2_isWidow_16 : decode cX2_isWidow 16 = .ok (.aload_n 0, 1) := by decide +kernel
theorem dX2_isWidow_17 : decode cX2_isWidow 17 = .ok (.getfield 66, 3) := by decide +kernel
theorem dX2_isWidow_20 : decode cX2_isWidow 20 = .ok (.ifCond .le 15, 3) := by decide +kernel
theorem dX2_isWidow_23 : decode cX2_isWidow 23 = .ok (.aload_n 0, 1) := by decide +kernel
theorem dX2_isWidow_24 : decode cX2_isWidow 24 = .ok (.getfield 80, 3) := by decide +kernel
theorem dX2_isWidow_27 : decode cX2_isWidow 27 = .ok (.iconst 2, 1) := by decide +kernel
theorem dX2_isWidow_28 : decode cX2_isWidow 28 = .ok (.if_icmp .ge 7, 3) := by decide +kernel
theorem dX2_isWidow_31 : decode cX2_isWidow 31 = .ok (.iconst 1, 1) := by decide +kernel
theorem dX2_isWidow_32 : decode cX2_isWidow 32 = .ok (.goto 4, 3) := by decide +kernel
theorem dX2_isWidow_35 : decode cX2_isWidow 35 = .ok (.iconst 0, 1) := by decide +kernel
theorem dX2_isWidow_36 : decode cX2_isWidow 36 = .ok (.ireturn, 1) := by decide +kernel
theorem dX2_ratioOfLine_0 : decode cX2_ratioOfLine 0 = .ok (.aload_n 0, 1) := by decide +kernel
theorem dX2_ratioOfLine_1 : decode cX2_ratioOfLine 1 = .ok (.getfield 24, 3) := by decide +kernel
theorem dX2_ratioOfLine_4 : decode cX2_ratioOfLine 4 = .ok (.aload_n 0, 1) := by decide +kernel
theorem dX2_ratioOfLine_5 : decode cX2_ratioOfLine 5 = .ok (.getfield 101, 3) := by decide +kernel
theorem dX2_ratioOfLine_8 : decode cX2_ratioOfLine 8 = .ok (.isub, 1) := by decide +kernel
theorem dX2_ratioOfLine_9 : decode cX2_ratioOfLine 9 = .ok (.istore_n 1, 1) := by decide +kernel
theorem dX2_ratioOfLine_10 : decode cX2_ratioOfLine 10 = .ok (.iload_n 1, 1) := by decide +kernel
theorem dX2_ratioOfLine_11 : decode cX2_ratioOfLine 11 = .ok (.ifCond .eq 15, 3) := by decide +kernel
theorem dX2_ratioOfLine_14 : decode cX2_ratioOfLine 14 = .ok (.iload_n 1, 1) := by decide +kernel
theorem dX2_ratioOfLine_15 : decode cX2_ratioOfLine 15 = .ok (.ifCond .le 13, 3) := by decide +kernel
theorem dX2_ratioOfLine_18 : decode cX2_ratioOfLine 18 = .ok (.aload_n 0, 1) := by decide +kernel
theorem dX2_ratioOfLine_19 : decode cX2_ratioOfLine 19 = .ok (.getfield 89, 3) := by decide +kernel
theorem dX2_ratioOfLine_22 : decode cX2_ratioOfLine 22 = .ok (.iconst 2, 1) := by decide +kernel
theorem dX2_ratioOfLine_23 : decode cX2_ratioOfLine 23 = .ok (.if_icmp .lt 5, 3) := by decide +kernel
theorem dX2_ratioOfLine_26 : decode cX2_ratioOfLine 26 = .ok (.fconst 0, 1) := by decide +kernel
theorem dX2_ratioOfLine_27 : decode cX2_ratioOfLine 27 = .ok (.freturn, 1) := by decide +kernel
theorem dX2_ratioOfLine_28 : decode cX2_ratioOfLine 28 = .ok (.aload_n 0, 1) := by decide +kernel
theorem dX2_ratioOfLine_29 : decode cX2_ratioOfLine 29 = .ok (.getfield 86, 3) := by decide +kernel
theorem dX2_ratioOfLine_32 : decode cX2_ratioOfLine 32 = .ok (.iload_n 1, 1) := by decide +kernel
theorem dX2_ratioOfLine_33 : decode cX2_ratioOfLine 33 = .ok (.ifCond .le 10, 3) := by decide +kernel
theorem dX2_ratioOfLine_36 : decode cX2_ratioOfLine 36 = .ok (.aload_n 0, 1) := by decide +kernel
theorem dX2_ratioOfLine_37 : decode cX2_ratioOfLine 37 = .ok (.getfield 35, 3) := by decide +kernel
theorem dX2_ratioOfLine_40 : decode cX2_ratioOfLine 40 = .ok (.goto 7, 3) := by decide +kernel
theorem dX2_ratioOfLine_43 : decode cX2_ratioOfLine 43 = .ok (.aload_n 0, 1) := by decide +kernel
theorem dX2_ratioOfLine_44 : decode cX2_ratioOfLine 44 = .ok (.getfield 41, 3) := by decide +kernel
theorem dX2_ratioOfLine_47 : decode cX2_ratioOfLine 47 = .ok (.imul, 1) := by decide +kernel
theorem dX2_ratioOfLine_48 : decode cX2_ratioOfLine 48 = .ok (.istore_n 2, 1) := by decide +kernel
theorem dX2_ratioOfLine_49 : decode cX2_ratioOfLine 49 = .ok (.iload_n 2, 1) := by decide +kernel
theorem dX2_ratioOfLine_50 : decode cX2_ratioOfLine 50 = .ok (.ifCond .ne 15, 3) := by decide +kernel
theorem dX2_ratioOfLine_53 : decode cX2_ratioOfLine 53 = .ok (.iload_n 1, 1) := by decide +kernel
theorem dX2_ratioOfLine_54 : decode cX2_ratioOfLine 54 = .ok (.ifCond .le 8, 3) := by decide +kernel
theorem dX2_ratioOfLine_57 : decode cX2_ratioOfLine 57 = .ok (.ldc 126, 2) := by decide +kernel
theorem dX2_ratioOfLine_59 : decode cX2_ratioOfLine 59 = .ok (.goto 5, 3) := by decide +kernel
theorem dX2_ratioOfLine_62 : decode cX2_ratioOfLine 62 = .ok (.ldc 127, 2) := by decide +kernel
theorem dX2_ratioOfLine_64 : decode cX2_ratioOfLine 64 = .ok (.freturn, 1) := by decide +kernel
theorem dX2_ratioOfLine_65 : decode cX2_ratioOfLine 65 = .ok (.iload_n 1, 1) := by decide +kernel
theorem dX2_ratioOfLine_66 : decode cX2_ratioOfLine 66 = .ok (.i2f, 1) := by decide +kernel
theorem dX2_ratioOfLine_67 : decode cX2_ratioOfLine 67 = .ok (.iload_n 2, 1) := by decide +kernel
theorem dX2_ratioOfLine_68 : decode cX2_ratioOfLine 68 = .ok (.i2f, 1) := by decide +kernel
theorem dX2_ratioOfLine_69 : decode cX2_ratioOfLine 69 = .ok (.fdiv, 1) := by decide +kernel
theorem dX2_ratioOfLine_70 : decode cX2_ratioOfLine 70 = .ok (.freturn, 1) := by decide +kernel
theorem dX2_demeritsByManner_0 : decode cX2_demeritsByManner 0 = .ok (.aload_n 0, 1) := by decide +kernel
theorem dX2_demeritsByManner_1 : decode cX2_demeritsByManner 1 = .ok (.getfield 53, 3) := by decide +kernel
theorem dX2_demeritsByManner_4 : decode cX2_demeritsByManner 4 = .ok (.ifCond .ne 11, 3) := by decide +kernel
theorem dX2_demeritsByManner_7 : decode cX2_demeritsByManner 7 = .ok (.fload_n 1, 1) := by decide +kernel
theorem dX2_demeritsByManner_8 : decode cX2_demeritsByManner 8 = .ok (.fload_n 1, 1) := by decide +kernel
theorem dX2_demeritsByManner_9 : decode cX2_demeritsByManner 9 = .ok (.fmul, 1) := by decide +kernel
theorem dX2_demeritsByManner_10 : decode cX2_demeritsByManner 10 = .ok (.fload_n 2, 1) := by decide +kernel
theorem dX2_demeritsByManner_11 : decode cX2_demeritsByManner 11 = .ok (.fload_n 2, 1) := by decide +kernel
theorem dX2_demeritsByManner_12 : decode cX2_demeritsByManner 12 = .ok (.fmul, 1) := by decide +kernel
theorem dX2_demeritsByManner_13 : decode cX2_demeritsByManner 13 = .ok (.fadd, 1) := by decide +kernel
theorem dX2_demeritsByManner_14 : decode cX2_demeritsByManner 14 = .ok (.freturn, 1) := by decide +kernel
theorem dX2_demeritsByManner_15 : decode cX2_demeritsByManner 15 = .ok (.fload_n 1, 1) := by decide +kernel
theorem dX2_demeritsByManner_16 : decode cX2_demeritsByManner 16 = .ok (.fload_n 2, 1) := by decide +kernel
theorem dX2_demeritsByManner_17 : decode cX2_demeritsByManner 17 = .ok (.fadd, 1) := by decide +kernel
theorem dX2_demeritsByManner_18 : decode cX2_demeritsByManner 18 = .ok (.fstore_n 3, 1) := by decide +kernel
theorem dX2_demeritsByManner_19 : decode cX2_demeritsByManner 19 = .ok (.aload_n 0, 1) := by decide +kernel
theorem dX2_demeritsByManner_20 : decode cX2_demeritsByManner 20 = .ok (.getfield 53, 3) := by decide +kernel
theorem dX2_demeritsByManner_23 : decode cX2_demeritsByManner 23 = .ok (.iconst 1, 1) := by decide +kernel
theorem dX2_demeritsByManner_24 : decode cX2_demeritsByManner 24 = .ok (.if_icmp .ne 9, 3) := by decide +kernel
theorem dX2_demeritsByManner_27 : decode cX2_demeritsByManner 27 = .ok (.fload_n 3, 1) := by decide +kernel
theorem dX2_demeritsByManner_28 : decode cX2_demeritsByManner 28 = .ok (.fload_n 3, 1) := by decide +kernel
theorem dX2_demeritsByManner_29 : decode cX2_demeritsByManner 29 = .ok (.fmul, 1) := by decide +kernel
theorem dX2_demeritsByManner_30 : decode cX2_demeritsByManner 30 = .ok (.goto 4, 3) := by decide +kernel
theorem dX2_demeritsByManner_33 : decode cX2_demeritsByManner 33 = .ok (.fload_n 3, 1) := by decide +kernel
theorem dX2_demeritsByManner_34 : decode cX2_demeritsByManner 34 = .ok (.freturn, 1) := by decide +kernel
theorem dX3_init_0 : decode cX3_init 0 = .ok (.aload_n 0, 1) := by decide +kernel
theorem dX3_init_1 : decode cX3_init 1 = .ok (.invokespecial 3, 3) := by decide +kernel
theorem dX3_init_4 : decode cX3_init 4 = .ok (.aload_n 0, 1) := by decide +kernel
theorem dX3_init_5 : decode cX3_init 5 = .ok (.getstatic 9, 3) := by decide +kernel
theorem dX3_init_8 : decode cX3_init 8 = .ok (.invokevirtual 13, 3) := by decide +kernel
theorem dX3_init_11 : decode cX3_init 11 = .ok (.checkcast 14, 3) := by decide +kernel
theorem dX3_init_14 : decode cX3_init 14 = .ok (.putfield 18, 3) := by decide +kernel
theorem dX3_init_17 : decode cX3_init 17 = .ok (.aload_n 0, 1) := by decide +kernel
theorem dX3_init_18 : decode cX3_init 18 = .ok (.new 23, 3) := by decide +kernel
theorem dX3_init_21 : decode cX3_init 21 = .ok (.dup, 1) := by decide +kernel
theorem dX3_init_22 : decode cX3_init 22 = .ok (.invokespecial 25, 3) := by decide +kernel
theorem dX3_init_25 : decode cX3_init 25 = .ok (.putfield 26, 3) := by decide +kernel
theorem dX3_init_28 : decode cX3_init 28 = .ok (.aload_n 0, 1) := by decide +kernel
theorem dX3_init_29 : decode cX3_init 29 = .ok (.new 30, 3) := by decide +kernel
theorem dX3_init_32 : decode cX3_init 32 = .ok (.dup, 1) := by decide +kernel
theorem dX3_init_33 : decode cX3_init 33 = .ok (.invokespecial 32, 3) := by decide +kernel
theorem dX3_init_36 : decode cX3_init 36 = .ok (.putfield 33, 3) := by decide +kernel
theorem dX3_init_39 : decode cX3_init 39 = .ok (.aload_n 0, 1) := by decide +kernel
theorem dX3_init_40 : decode cX3_init 40 = .ok (.bipush 30, 2) := by decide +kernel
theorem dX3_init_42 : decode cX3_init 42 = .ok (.putfield 37, 3) := by decide +kernel
theorem dX3_init_45 : decode cX3_init 45 = .ok (.aload_n 0, 1) := by decide +kernel
theorem dX3_init_46 : decode cX3_init 46 = .ok (.iconst 3, 1) := by decide +kernel
theorem dX3_init_47 : decode cX3_init 47 = .ok (.putfield 41, 3) := by decide +kernel
theorem dX3_init_50 : decode cX3_init 50 = .ok (.aload_n 0, 1) := by decide +kernel
theorem dX3_init_51 : decode cX3_init 51 = .ok (.iconst 2, 1) := by decide +kernel
theorem dX3_init_52 : decode cX3_init 52 = .ok (.putfield 44, 3) := by decide +kernel
theorem dX3_init_55 : decode cX3_init 55 = .ok (.aload_n 0, 1) := by decide +kernel
theorem dX3_init_56 : decode cX3_init 56 = .ok (.iconst 1, 1) := by decide +kernel
theorem dX3_init_57 : decode cX3_init 57 = .ok (.putfield 47, 3) := by decide +kernel
theorem dX3_init_60 : decode cX3_init 60 = .ok (.aload_n 0, 1) := by decide +kernel
theorem dX3_init_61 : decode cX3_init 61 = .ok (.bipush 12, 2) := by decide +kernel
theorem dX3_init_63 : decode cX3_init 63 = .ok (.putfield 50, 3) := by decide +kernel
theorem dX3_init_66 : decode cX3_init 66 = .ok (.aload_n 0, 1) := by decide +kernel
theorem dX3_init_67 : decode cX3_init 67 = .ok (.bipush 50, 2) := by decide +kernel
theorem dX3_init_69 : decode cX3_init 69 = .ok (.putfield 53, 3) := by decide +kernel
theorem dX3_init_72 : decode cX3_init 72 = .ok (.aload_n 0, 1) := by decide +kernel
theorem dX3_init_73 : decode cX3_init 73 = .ok (.iconst 1, 1) := by decide +kernel
theorem dX3_init_74 : decode cX3_init 74 = .ok (.putfield 56, 3) := by decide +kernel
theorem dX3_init_77 : decode cX3_init 77 = .ok (.return_, 1) := by decide +kernel
theorem dX3_become_0 : decode cX3_become 0 = .ok (.aload_n 1, 1) := by decide +kernel
theorem dX3_become_1 : decode cX3_become 1 = .ok (.getfield 18, 3) := by decide +kernel
theorem dX3_become_4 : decode cX3_become 4 = .ok (.aload_n 0, 1) := by decide +kernel
theorem dX3_become_5 : decode cX3_become 5 = .ok (.getfield 18, 3) := by decide +kernel
theorem dX3_become_8 : decode cX3_become 8 = .ok (.invokestatic 59, 3) := by decide +kernel
theorem dX3_become_11 : decode cX3_become 11 = .ok (.aload_n 0, 1) := by decide +kernel
theorem dX3_become_12 : decode cX3_become 12 = .ok (.getfield 26, 3) := by decide +kernel
theorem dX3_become_15 : decode cX3_become 15 = .ok (.aload_n 1, 1) := by decide +kernel
theorem dX3_become_16 : decode cX3_become 16 = .ok (.getfield 26, 3) := by decide +kernel
theorem dX3_become_19 : decode cX3_become 19 = .ok (.invokevirtual 63, 3) := by decide +kernel
theorem dX3_become_22 : decode cX3_become 22 = .ok (.aload_n 0, 1) := by decide +kernel
theorem dX3_become_23 : decode cX3_become 23 = .ok (.getfield 33, 3) := by decide +kernel
theorem dX3_become_26 : decode cX3_become 26 = .ok (.aload_n 1, 1) := by decide +kernel
theorem dX3_become_27 : decode cX3_become 27 = .ok (.getfield 33, 3) := by decide +kernel
theorem dX3_become_30 : decode cX3_become 30 = .ok (.invokevirtual 67, 3) := by decide +kernel
theorem dX3_become_33 : decode cX3_become 33 = .ok (.aload_n 0, 1) := by decide +kernel
theorem dX3_become_34 : decode cX3_become 34 = .ok (.aload_n 1, 1) := by decide +kernel
theorem dX3_become_35 : decode cX3_become 35 = .ok (.getfield 41, 3) := by decide +kernel
theorem dX3_become_38 : decode cX3_become 38 = .ok (.aload_n 1, 1) := by decide +kernel
theorem dX3_become_39 : decode cX3_become 39 = .ok (.getfield 44, 3) := by decide +kernel
theorem dX3_become_42 : decode cX3_become 42 = .ok (.aload_n 1, 1) := by decide +kernel
theorem dX3_become_43 : decode cX3_become 43 = .ok (.getfield 47, 3) := by decide +kernel
theorem dX3_become_46 : decode cX3_become 46 = .ok (.invokevirtual 70, 3) := by decide +kernel
theorem dX3_become_49 : decode cX3_become 49 = .ok (.aload_n 0, 1) := by decide +kernel
theorem dX3_become_50 : decode cX3_become 50 = .ok (.aload_n 1, 1) := by decide +kernel
theorem dX3_become_51 : decode cX3_become 51 = .ok (.getfield 37, 3) := by decide +kernel
theorem dX3_become_54 : decode cX3_become 54 = .ok (.putfield 37, 3) := by decide +kernel
theorem dX3_become_57 : decode cX3_become 57 = .ok (.aload_n 0, 1) := by decide +kernel
theorem dX3_become_58 : decode cX3_become 58 = .ok (.aload_n 1, 1) := by decide +kernel
theorem dX3_become_59 : decode cX3_become 59 = .ok (.getfield 50, 3) := by decide +kernel
theorem dX3_become_62 : decode cX3_become 62 = .ok (.putfield 50, 3) := by decide +kernel
theorem dX3_become_65 : decode cX3_become 65 = .ok (.aload_n 0, 1) := by decide +kernel
theorem dX3_become_66 : decode cX3_become 66 = .ok (.aload_n 1, 1) := by decide +kernel
theorem dX3_become_67 : decode cX3_become 67 = .ok (.getfield 53, 3) := by decide +kernel
theorem dX3_become_70 : decode cX3_become 70 = .ok (.putfield 53, 3) := by decide +kernel
theorem dX3_become_73 : decode cX3_become 73 = .ok (.aload_n 0, 1) := by decide +kernel
theorem dX3_become_74 : decode cX3_become 74 = .ok (.aload_n 1, 1) := by decide +kernel
theorem dX3_become_75 : decode cX3_become 75 = .ok (.getfield 56, 3) := by decide +kernel
theorem dX3_become_78 : decode cX3_become 78 = .ok (.putfield 56, 3) := by decide +kernel
theorem dX3_become_81 : decode cX3_become 81 = .ok (.aload_n 0, 1) := by decide +kernel
theorem dX3_become_82 : decode cX3_become 82 = .ok (.aload_n 1, 1) := by decide +kernel
theorem dX3_become_83 : decode cX3_become 83 = .ok (.getfield 74, 3) := by decide +kernel
theorem dX3_become_86 : decode cX3_become 86 = .ok (.putfield 74, 3) := by decide +kernel
theorem dX3_become_89 : decode cX3_become 89 = .ok (.aload_n 0, 1) := by decide +kernel
theorem dX3_become_90 : decode cX3_become 90 = .ok (.aload_n 1, 1) := by decide +kernel
theorem dX3_become_91 : decode cX3_become 91 = .ok (.getfield 77, 3) := by decide +kernel
theorem dX3_become_94 : decode cX3_become 94 = .ok (.putfield 77, 3) := by decide +kernel
theorem dX3_become_97 : decode cX3_become 97 = .ok (.aload_n 0, 1) := by decide +kernel
theorem dX3_become_98 : decode cX3_become 98 = .ok (.aload_n 1, 1) := by decide +kernel
theorem dX3_become_99 : decode cX3_become 99 = .ok (.getfield 80, 3) := by decide +kernel
theorem dX3_become_102 : decode cX3_become 102 = .ok (.putfield 80, 3) := by decide +kernel
theorem dX3_become_105 : decode cX3_become 105 = .ok (.return_, 1) := by decide +kernel
theorem dX3_takeGlue_0 : decode cX3_takeGlue 0 = .ok (.aload_n 0, 1) := by decide +kernel
theorem dX3_takeGlue_1 : decode cX3_takeGlue 1 = .ok (.iload_n 1, 1) := by decide +kernel
theorem dX3_takeGlue_2 : decode cX3_takeGlue 2 = .ok (.putfield 41, 3) := by decide +kernel
theorem dX3_takeGlue_5 : decode cX3_takeGlue 5 = .ok (.aload_n 0, 1) := by decide +kernel
theorem dX3_takeGlue_6 : decode cX3_takeGlue 6 = .ok (.iload_n 2, 1) := by decide +kernel
theorem dX3_takeGlue_7 : decode cX3_takeGlue 7 = .ok (.putfield 44, 3) := by decide +kernel
theorem dX3_takeGlue_10 : decode cX3_takeGlue 10 = .ok (.aload_n 0, 1) := by decide +kernel
theorem dX3_takeGlue_11 : decode cX3_takeGlue 11 = .ok (.iload_n 3, 1) := by decide +kernel
theorem dX3_takeGlue_12 : decode cX3_takeGlue 12 = .ok (.putfield 47, 3) := by decide +kernel
theorem dX3_takeGlue_15 : decode cX3_takeGlue 15 = .ok (.return_, 1) := by decide +kernel
theorem dX3_widthOf_0 : decode cX3_widthOf 0 = .ok (.aload_n 0, 1) := by decide +kernel
theorem dX3_widthOf_1 : decode cX3_widthOf 1 = .ok (.getfield 26, 3) := by decide +kernel
theorem dX3_widthOf_4 : decode cX3_widthOf 4 = .ok (.iload_n 1, 1) := by decide +kernel
theorem dX3_widthOf_5 : decode cX3_widthOf 5 = .ok (.invokevirtual 83, 3) := by decide +kernel
theorem dX3_widthOf_8 : decode cX3_widthOf 8 = .ok (.lstore_n 2, 1) := by decide +kernel
theorem dX3_widthOf_9 : decode cX3_widthOf 9 = .ok (.iconst 0, 1) := by decide +kernel
theorem dX3_widthOf_10 : decode cX3_widthOf 10 = .ok (.istore 4, 2) := by decide +kernel
theorem dX3_widthOf_12 : decode cX3_widthOf 12 = .ok (.iconst 0, 1) := by decide +kernel
theorem dX3_widthOf_13 : decode cX3_widthOf 13 = .ok (.istore 5, 2) := by decide +kernel
theorem dX3_widthOf_15 : decode cX3_widthOf 15 = .ok (.iload 5, 2) := by decide +kernel
theorem dX3_widthOf_17 : decode cX3_widthOf 17 = .ok (.aload_n 0, 1) := by decide +kernel
theorem dX3_widthOf_18 : decode cX3_widthOf 18 = .ok (.getfield 26, 3) := by decide +kernel
theorem dX3_widthOf_21 : decode cX3_widthOf 21 = .ok (.iload_n 1, 1) := by decide +kernel
theorem dX3_widthOf_22 : decode cX3_widthOf 22 = .ok (.invokevirtual 87, 3) := by decide +kernel
theorem dX3_widthOf_25 : decode cX3_widthOf 25 = .ok (.if_icmp .ge 27, 3) := by decide +kernel
theorem dX3_widthOf_28 : decode cX3_widthOf 28 = .ok (.iload 4, 2) := by decide +kernel
theorem dX3_widthOf_30 : decode cX3_widthOf 30 = .ok (.aload_n 0, 1) := by decide +kernel
theorem dX3_widthOf_31 : decode cX3_widthOf 31 = .ok (.getfield 18, 3) := by decide +kernel
theorem dX3_widthOf_34 : decode cX3_widthOf 34 = .ok (.lload_n 2, 1) := by decide +kernel
theorem dX3_widthOf_35 : decode cX3_widthOf 35 = .ok (.iload 5, 2) := by decide +kernel
theorem dX3_widthOf_37 : decode cX3_widthOf 37 = .ok (.invokestatic 91, 3) := by decide +kernel
theorem dX3_widthOf_40 : decode cX3_widthOf 40 = .ok (.invokestatic 95, 3) := by decide +kernel
theorem dX3_widthOf_43 : decode cX3_widthOf 43 = .ok (.iadd, 1) := by decide +kernel
theorem dX3_widthOf_44 : decode cX3_widthOf 44 = .ok (.istore 4, 2) := by decide +kernel
theorem dX3_widthOf_46 : decode cX3_widthOf 46 = .ok (.iinc 5 1, 3) := by decide +kernel
theorem dX3_widthOf_49 : decode cX3_widthOf 49 = .ok (.goto (-34), 3) := by decide +kernel
theorem dX3_widthOf_52 : decode cX3_widthOf 52 = .ok (.iload 4, 2) := by decide +kernel
theorem dX3_widthOf_54 : decode cX3_widthOf 54 = .ok (.ireturn, 1) := by decide +kernel
theorem dX3_hyphenPlaces_0 : decode cX3_hyphenPlaces 0 = .ok (.aload_n 0, 1) := by decide +kernel
theorem dX3_hyphenPlaces_1 : decode cX3_hyphenPlaces 1 = .ok (.getfield 26, 3) := by decide +kernel
theorem dX3_hyphenPlaces_4 : decode cX3_hyphenPlaces 4 = .ok (.iload_n 1, 1) := by decide +kernel
theorem dX3_hyphenPlaces_5 : decode cX3_hyphenPlaces 5 = .ok (.invokevirtual 87, 3) := by decide +kernel
theorem dX3_hyphenPlaces_8 : decode cX3_hyphenPlaces 8 = .ok (.istore_n 2, 1) := by decide +kernel
theorem dX3_hyphenPlaces_9 : decode cX3_hyphenPlaces 9 = .ok (.aload_n 0, 1) := by decide +kernel
theorem dX3_hyphenPlaces_10 : decode cX3_hyphenPlaces 10 = .ok (.getfield 26, 3) := by decide +kernel
theorem dX3_hyphenPlaces_13 : decode cX3_hyphenPlaces 13 = .ok (.iload_n 1, 1) := by decide +kernel
theorem dX3_hyphenPlaces_14 : decode cX3_hyphenPlaces 14 = .ok (.invokevirtual 83, 3) := by decide +kernel
theorem dX3_hyphenPlaces_17 : decode cX3_hyphenPlaces 17 = .ok (.lstore_n 3, 1) := by decide +kernel
theorem dX3_hyphenPlaces_18 : decode cX3_hyphenPlaces 18 = .ok (.iconst 0, 1) := by decide +kernel
theorem dX3_hyphenPlaces_19 : decode cX3_hyphenPlaces 19 = .ok (.istore 5, 2) := by decide +kernel
theorem dX3_hyphenPlaces_21 : decode cX3_hyphenPlaces 21 = .ok (.aload_n 0, 1) := by decide +kernel
theorem dX3_hyphenPlaces_22 : decode cX3_hyphenPlaces 22 = .ok (.iload_n 2, 1) := by decide +kernel
theorem dX3_hyphenPlaces_23 : decode cX3_hyphenPlaces 23 = .ok (.invokevirtual 99, 3) := by decide +kernel
theorem dX3_hyphenPlaces_26 : decode cX3_hyphenPlaces 26 = .ok (.ifCond .ne 6, 3) := by decide +kernel
theorem dX3_hyphenPlaces_29 : decode cX3_hyphenPlaces 29 = .ok (.iload 5, 2) := by decide +kernel
theorem dX3_hyphenPlaces_31 : decode cX3_hyphenPlaces 31 = .ok (.ireturn, 1) := by decide +kernel
theorem dX3_hyphenPlaces_32 : decode cX3_hyphenPlaces 32 = .ok (.iconst 2, 1) := by decide +kernel
theorem dX3_hyphenPlaces_33 : decode cX3_hyphenPlaces 33 = .ok (.istore 6, 2) := by decide +kernel
theorem dX3_hyphenPlaces_35 : decode cX3_hyphenPlaces 35 = .ok (.iload 6, 2) := by decide +kernel
theorem dX3_hyphenPlaces_37 : decode cX3_hyphenPlaces 37 = .ok (.iload_n 2, 1) := by decide +kernel
theorem dX3_hyphenPlaces_38 : decode cX3_hyphenPlaces 38 = .ok (.iconst 2, 1) := by decide +kernel
theorem dX3_hyphenPlaces_39 : decode cX3_hyphenPlaces 39 = .ok (.isub, 1) := by decide +kernel
theorem dX3_hyphenPlaces_40 : decode cX3_hyphenPlaces 40 = .ok (.if_icmp .gt 34, 3) := by decide +kernel
theorem dX3_hyphenPlaces_43 : decode cX3_hyphenPlaces 43 = .ok (.aload_n 0, 1) := by decide +kernel
theorem dX3_hyphenPlaces_44 : decode cX3_hyphenPlaces 44 = .ok (.getfield 33, 3) := by decide +kernel
theorem dX3_hyphenPlaces_47 : decode cX3_hyphenPlaces 47 = .ok (.lload_n 3, 1) := by decide +kernel
theorem dX3_hyphenPlaces_48 : decode cX3_hyphenPlaces 48 = .ok (.iload 6, 2) := by decide +kernel
theorem dX3_hyphenPlaces_50 : decode cX3_hyphenPlaces 50 = .ok (.invokevirtual 103, 3) := by decide +kernel
theorem dX3_hyphenPlaces_53 : decode cX3_hyphenPlaces 53 = .ok (.iconst 2, 1) := by decide +kernel
theorem dX3_hyphenPlaces_54 : decode cX3_hyphenPlaces 54 = .ok (.irem, 1) := by decide +kernel
theorem dX3_hyphenPlaces_55 : decode cX3_hyphenPlaces 55 = .ok (.iconst 1, 1) := by decide +kernel
theorem dX3_hyphenPlaces_56 : decode cX3_hyphenPlaces 56 = .ok (.if_icmp .ne 12, 3) := by decide +kernel
theorem dX3_hyphenPlaces_59 : decode cX3_hyphenPlaces 59 = .ok (.iload 5, 2) := by decide +kernel
theorem dX3_hyphenPlaces_61 : decode cX3_hyphenPlaces 61 = .ok (.iconst 1, 1) := by decide +kernel
theorem dX3_hyphenPlaces_62 : decode cX3_hyphenPlaces 62 = .ok (.iload 6, 2) := by decide +kernel
theorem dX3_hyphenPlaces_64 : decode cX3_hyphenPlaces 64 = .ok (.ishl, 1) := by decide +kernel
theorem dX3_hyphenPlaces_65 : decode cX3_hyphenPlaces 65 = .ok (.ior, 1) := by decide +kernel
theorem dX3_hyphenPlaces_66 : decode cX3_hyphenPlaces 66 = .ok (.istore 5, 2) := by decide +kernel
theorem dX3_hyphenPlaces_68 : decode cX3_hyphenPlaces 68 = .ok (.iinc 6 1, 3) := by decide +kernel
theorem dX3_hyphenPlaces_71 : decode cX3_hyphenPlaces 71 = .ok (.goto (-36), 3) := by decide +kernel
theorem dX3_hyphenPlaces_74 : decode cX3_hyphenPlaces 74 = .ok (.iload 5, 2) := by decide +kernel
theorem dX3_hyphenPlaces_76 : decode cX3_hyphenPlaces 76 = .ok (.ireturn, 1) := by decide +kernel
theorem dX3_stretchOfGlue_0 : decode cX3_stretchOfGlue 0 = .ok (.aload_n 0, 1) := by decide +kernel
theorem dX3_stretchOfGlue_1 : decode cX3_stretchOfGlue 1 = .ok (.getfield 77, 3) := by decide +kernel
theorem dX3_stretchOfGlue_4 : decode cX3_stretchOfGlue 4 = .ok (.iconst 5, 1) := by decide +kernel
theorem dX3_stretchOfGlue_5 : decode cX3_stretchOfGlue 5 = .ok (.if_icmp .ne 15, 3) := by decide +kernel
theorem dX3_stretchOfGlue_8 : decode cX3_stretchOfGlue 8 = .ok (.iconst 2, 1) := by decide +kernel
theorem dX3_stretchOfGlue_9 : decode cX3_stretchOfGlue 9 = .ok (.aload_n 0, 1) := by decide +kernel
theorem dX3_stretchOfGlue_10 : decode cX3_stretchOfGlue 10 = .ok (.getfield 44, 3) := by decide +kernel
theorem dX3_stretchOfGlue_13 : decode cX3_stretchOfGlue 13 = .ok (.aload_n 0, 1) := by decide +kernel
theorem dX3_stretchOfGlue_14 : decode cX3_stretchOfGlue 14 = .ok (.getfield 80, 3) := by decide +kernel
theorem dX3_stretchOfGlue_17 : decode cX3_stretchOfGlue 17 = .ok (.iadd, 1) := by decide +kernel
theorem dX3_stretchOfGlue_18 : decode cX3_stretchOfGlue 18 = .ok (.imul, 1) := by decide +kernel
theorem dX3_stretchOfGlue_19 : decode cX3_stretchOfGlue 19 = .ok (.ireturn, 1) := by decide +kernel
theorem dX3_stretchOfGlue_20 : decode cX3_stretchOfGlue 20 = .ok (.aload_n 0, 1) := by decide +kernel
theorem dX3_stretchOfGlue_21 : decode cX3_stretchOfGlue 21 = .ok (.getfield 77, 3) := by decide +kernel
theorem dX3_stretchOfGlue_24 : decode cX3_stretchOfGlue 24 = .ok (.iconst 1, 1) := by decide +kernel
theorem dX3_stretchOfGlue_25 : decode cX3_stretchOfGlue 25 = .ok (.if_icmp .eq 11, 3) := by decide +kernel
theorem dX3_stretchOfGlue_28 : decode cX3_stretchOfGlue 28 = .ok (.aload_n 0, 1) := by decide +kernel
theorem dX3_stretchOfGlue_29 : decode cX3_stretchOfGlue 29 = .ok (.getfield 77, 3) := by decide +kernel
theorem dX3_stretchOfGlue_32 : decode cX3_stretchOfGlue 32 = .ok (.iconst 3, 1) := by decide +kernel
theorem dX3_stretchOfGlue_33 : decode cX3_stretchOfGlue 33 = .ok (.if_icmp .ne 15, 3) := by decide +kernel
theorem dX3_stretchOfGlue_36 : decode cX3_stretchOfGlue 36 = .ok (.aload_n 0, 1) := by decide +kernel
theorem dX3_stretchOfGlue_37 : decode cX3_stretchOfGlue 37 = .ok (.getfield 44, 3) := by decide +kernel
theorem dX3_stretchOfGlue_40 : decode cX3_stretchOfGlue 40 = .ok (.aload_n 0, 1) := by decide +kernel
theorem dX3_stretchOfGlue_41 : decode cX3_stretchOfGlue 41 = .ok (.getfield 80, 3) := by decide +kernel
theorem dX3_stretchOfGlue_44 : decode cX3_stretchOfGlue 44 = .ok (.iadd, 1) := by decide +kernel
theorem dX3_stretchOfGlue_45 : decode cX3_stretchOfGlue 45 = .ok (.goto 7, 3) := by decide +kernel
theorem dX3_stretchOfGlue_48 : decode cX3_stretchOfGlue 48 = .ok (.aload_n 0, 1) := by decide +kernel
theorem dX3_stretchOfGlue_49 : decode cX3_stretchOfGlue 49 = .ok (.getfield 44, 3) := by decide +kernel
theorem dX3_stretchOfGlue_52 : decode cX3_stretchOfGlue 52 = .ok (.ireturn, 1) := by decide +kernel
theorem dX3_shrinkOfGlue_0 : decode cX3_shrinkOfGlue 0 = .ok (.aload_n 0, 1) := by decide +kernel
theorem dX3_shrinkOfGlue_1 : decode cX3_shrinkOfGlue 1 = .ok (.invokevirtual 106, 3) := by decide +kernel
theorem dX3_shrinkOfGlue_4 : decode cX3_shrinkOfGlue 4 = .ok (.ifCond .eq 19, 3) := by decide +kernel
theorem dX3_shrinkOfGlue_7 : decode cX3_shrinkOfGlue 7 = .ok (.aload_n 0, 1) := by decide +kernel
theorem dX3_shrinkOfGlue_8 : decode cX3_shrinkOfGlue 8 = .ok (.getfield 47, 3) := by decide +kernel
theorem dX3_shrinkOfGlue_11 : decode cX3_shrinkOfGlue 11 = .ok (.iconst 1, 1) := by decide +kernel
theorem dX3_shrinkOfGlue_12 : decode cX3_shrinkOfGlue 12 = .ok (.iadd, 1) := by decide +kernel
theorem dX3_shrinkOfGlue_13 : decode cX3_shrinkOfGlue 13 = .ok (.aload_n 0, 1) := by decide +kernel
theorem dX3_shrinkOfGlue_14 : decode cX3_shrinkOfGlue 14 = .ok (.getfield 41, 3) := by decide +kernel
theorem dX3_shrinkOfGlue_17 : decode cX3_shrinkOfGlue 17 = .ok (.invokestatic 110, 3) := by decide +kernel
theorem dX3_shrinkOfGlue_20 : decode cX3_shrinkOfGlue 20 = .ok (.goto 7, 3) := by decide +kernel
theorem dX3_shrinkOfGlue_23 : decode cX3_shrinkOfGlue 23 = .ok (.aload_n 0, 1) := by decide +kernel
theorem dX3_shrinkOfGlue_24 : decode cX3_shrinkOfGlue 24 = .ok (.getfield 47, 3) := by decide +kernel
theorem dX3_shrinkOfGlue_27 : decode cX3_shrinkOfGlue 27 = .ok (.ireturn, 1) := by decide +kernel
theorem dX3_penaltyOfHyphen_0 : decode cX3_penaltyOfHyphen 0 = .ok (.aload_n 0, 1) := by decide +kernel
theorem dX3_penaltyOfHyphen_1 : decode cX3_penaltyOfHyphen 1 = .ok (.getfield 77, 3) := by decide +kernel
theorem dX3_penaltyOfHyphen_4 : decode cX3_penaltyOfHyphen 4 = .ok (.iconst 5, 1) := by decide +kernel
theorem dX3_penaltyOfHyphen_5 : decode cX3_penaltyOfHyphen 5 = .ok (.if_icmp .ne 13, 3) := by decide +kernel
theorem dX3_penaltyOfHyphen_8 : decode cX3_penaltyOfHyphen 8 = .ok (.aload_n 0, 1) := by decide +kernel
theorem dX3_penaltyOfHyphen_9 : decode cX3_penaltyOfHyphen 9 = .ok (.getfield 53, 3) := by decide +kernel
theorem dX3_penaltyOfHyphen_12 : decode cX3_penaltyOfHyphen 12 = .ok (.aload_n 0, 1) := by decide +kernel
theorem dX3_penaltyOfHyphen_13 : decode cX3_penaltyOfHyphen 13 = .ok (.getfield 80, 3) := by decide +kernel
theorem dX3_penaltyOfHyphen_16 : decode cX3_penaltyOfHyphen 16 = .ok (.iadd, 1) := by decide +kernel
theorem dX3_penaltyOfHyphen_17 : decode cX3_penaltyOfHyphen 17 = .ok (.ireturn, 1) := by decide +kernel
theorem dX3_penaltyOfHyphen_18 : decode cX3_penaltyOfHyphen 18 = .ok (.aload_n 0, 1) := by decide +kernel
theorem dX3_penaltyOfHyphen_19 : decode cX3_penaltyOfHyphen 19 = .ok (.invokevirtual 106, 3) := by decide +kernel
theorem dX3_penaltyOfHyphen_22 : decode cX3_penaltyOfHyphen 22 = .ok (.ifCond .eq 12, 3) := by decide +kernel
theorem dX3_penaltyOfHyphen_25 : decode cX3_penaltyOfHyphen 25 = .ok (.aload_n 0, 1) := by decide +kernel
theorem dX3_penaltyOfHyphen_26 : decode cX3_penaltyOfHyphen 26 = .ok (.getfield 53, 3) := by decide +kernel
theorem dX3_penaltyOfHyphen_29 : decode cX3_penaltyOfHyphen 29 = .ok (.iconst 2, 1) := by decide +kernel
theorem dX3_penaltyOfHyphen_30 : decode cX3_penaltyOfHyphen 30 = .ok (.idiv, 1) := by decide +kernel
theorem dX3_penaltyOfHyphen_31 : decode cX3_penaltyOfHyphen 31 = .ok (.goto 7, 3) := by decide +kernel
theorem dX3_penaltyOfHyphen_34 : decode cX3_penaltyOfHyphen 34 = .ok (.aload_n 0, 1) := by decide +kernel
theorem dX3_penaltyOfHyphen_35 : decode cX3_penaltyOfHyphen 35 = .ok (.getfield 53, 3) := by decide +kernel
theorem dX3_penaltyOfHyphen_38 : decode cX3_penaltyOfHyphen 38 = .ok (.ireturn, 1) := by decide +kernel
theorem dX3_isTight_0 : decode cX3_isTight 0 = .ok (.aload_n 0, 1) := by decide +kernel
theorem dX3_isTight_1 : decode cX3_isTight 1 = .ok (.getfield 77, 3) := by decide +kernel
theorem dX3_isTight_4 : decode cX3_isTight 4 = .ok (.iconst 2, 1) := by decide +kernel
theorem dX3_isTight_5 : decode cX3_isTight 5 = .ok (.if_icmp .eq 11, 3) := by decide +kernel
theorem dX3_isTight_8 : decode cX3_isTight 8 = .ok (.aload_n 0, 1) := by decide +kernel
theorem dX3_isTight_9 : decode cX3_isTight 9 = .ok (.getfield 77, 3) := by decide +kernel
theorem dX3_isTight_12 : decode cX3_isTight 12 = .ok (.iconst 4, 1) := by decide +kernel
theorem dX3_isTight_13 : decode cX3_isTight 13 = .ok (.if_icmp .ne 7, 3) := by decide +kernel
theorem dX3_isTight_16 : decode cX3_isTight 16 = .ok (.iconst 1, 1) := by decide +kernel
theorem dX3_isTight_17 : decode cX3_isTight 17 = .ok (.goto 4, 3) := by decide +kernel
theorem dX3_isTight_20 : decode cX3_isTight 20 = .ok (.iconst 0, 1) := by decide +kernel
theorem dX3_isTight_21 : decode cX3_isTight 21 = .ok (.ireturn, 1) := by decide +kernel
theorem dX3_mayHyphenate_0 : decode cX3_mayHyphenate 0 = .ok (.aload_n 0, 1) := by decide +kernel
theorem dX3_mayHyphenate_1 : decode cX3_mayHyphenate 1 = .ok (.getfield 77, 3) := by decide +kernel
theorem dX3_mayHyphenate_4 : decode cX3_mayHyphenate 4 = .ok (.iconst 3, 1) := by decide +kernel
theorem dX3_mayHyphenate_5 : decode cX3_mayHyphenate 5 = .ok (.if_icmp .eq 23, 3) := by decide +kernel
theorem dX3_mayHyphenate_8 : decode cX3_mayHyphenate 8 = .ok (.aload_n 0, 1) := by decide +kernel
theorem dX3_mayHyphenate_9 : decode cX3_mayHyphenate 9 = .ok (.getfield 77, 3) := by decide +kernel
theorem dX3_mayHyphenate_12 : decode cX3_mayHyphenate 12 = .ok (.iconst 4, 1) := by decide +kernel
theorem dX3_mayHyphenate_13 : decode cX3_mayHyphenate 13 = .ok (.if_icmp .ne 11, 3) := by decide +kernel
theorem dX3_mayHyphenate_16 : decode cX3_mayHyphenate 16 = .ok (.iload_n 1, 1) := by decide +kernel
theorem dX3_mayHyphenate_17 : decode cX3_mayHyphenate 17 = .ok (.aload_n 0, 1) := by decide +kernel
theorem dX3_mayHyphenate_18 : decode cX3_mayHyphenate 18 = .ok (.getfield 80, 3) := by decide +kernel
theorem dX3_mayHyphenate_21 : decode cX3_mayHyphenate 21 = .ok (.if_icmp .le 7, 3) := by decide +kernel
theorem dX3_mayHyphenate_24 : decode cX3_mayHyphenate 24 = .ok (.iconst 1, 1) := by decide +kernel
theorem dX3_mayHyphenate_25 : decode cX3_mayHyphenate 25 = .ok (.goto 4, 3) := by decide +kernel
theorem dX3_mayHyphenate_28 : decode cX3_mayHyphenate 28 = .ok (.iconst 0, 1) := by decide +kernel
theorem dX3_mayHyphenate_29 : decode cX3_mayHyphenate 29 = .ok (.ireturn, 1) := by decide +kernel
theorem dX4_init_0 : decode cX4_init 0 = .ok (.aload_n 0, 1) := by decide +kernel
theorem dX4_init_1 : decode cX4_init 1 = .ok (.invokespecial 3, 3) := by decide +kernel
theorem dX4_init_4 : decode cX4_init 4 = .ok (.aload_n 0, 1) := by decide +kernel
theorem dX4_init_5 : decode cX4_init 5 = .ok (.bipush 8, 2) := by decide +kernel
theorem dX4_init_7 : decode cX4_init 7 = .ok (.newarray .long, 2) := by decide +kernel
theorem dX4_init_9 : decode cX4_init 9 = .ok (.putfield 9, 3) := by decide +kernel
theorem dX4_init_12 : decode cX4_init 12 = .ok (.aload_n 0, 1) := by decide +kernel
theorem dX4_init_13 : decode cX4_init 13 = .ok (.bipush 8, 2) := by decide +kernel
theorem dX4_init_15 : decode cX4_init 15 = .ok (.newarray .int, 2) := by decide +kernel
theorem dX4_init_17 : decode cX4_init 17 = .ok (.putfield 15, 3) := by decide +kernel
theorem dX4_init_20 : decode cX4_init 20 = .ok (.aload_n 0, 1) := by decide +kernel
theorem dX4_init_21 : decode cX4_init 21 = .ok (.bipush 8, 2) := by decide +kernel
theorem dX4_init_23 : decode cX4_init 23 = .ok (.newarray .int, 2) := by decide +kernel
theorem dX4_init_25 : decode cX4_init 25 = .ok (.putfield 19, 3) := by decide +kernel
theorem dX4_init_28 : decode cX4_init 28 = .ok (.aload_n 0, 1) := by decide +kernel
theorem dX4_init_29 : decode cX4_init 29 = .ok (.bipush 8, 2) := by decide +kernel
theorem dX4_init_31 : decode cX4_init 31 = .ok (.newarray .int, 2) := by decide +kernel
theorem dX4_init_33 : decode cX4_init 33 = .ok (.putfield 22, 3) := by decide +kernel
theorem dX4_init_36 : decode cX4_init 36 = .ok (.return_, 1) := by decide +kernel
theorem dX4_become_0 : decode cX4_become 0 = .ok (.aload_n 1, 1) := by decide +kernel
theorem dX4_become_1 : decode cX4_become 1 = .ok (.getfield 9, 3) := by decide +kernel
theorem dX4_become_4 : decode cX4_become 4 = .ok (.aload_n 0, 1) := by decide +kernel
theorem dX4_become_5 : decode cX4_become 5 = .ok (.getfield 9, 3) := by decide +kernel
theorem dX4_become_8 : decode cX4_become 8 = .ok (.invokestatic 25, 3) := by decide +kernel
theorem dX4_become_11 : decode cX4_become 11 = .ok (.aload_n 1, 1) := by decide +kernel
theorem dX4_become_12 : decode cX4_become 12 = .ok (.getfield 15, 3) := by decide +kernel
theorem dX4_become_15 : decode cX4_become 15 = .ok (.aload_n 0, 1) := by decide +kernel
theorem dX4_become_16 : decode cX4_become 16 = .ok (.getfield 15, 3) := by decide +kernel
theorem dX4_become_19 : decode cX4_become 19 = .ok (.invokestatic 29, 3) := by decide +kernel
theorem dX4_become_22 : decode cX4_become 22 = .ok (.aload_n 1, 1) := by decide +kernel
theorem dX4_become_23 : decode cX4_become 23 = .ok (.getfield 19, 3) := by decide +kernel
theorem dX4_become_26 : decode cX4_become 26 = .ok (.aload_n 0, 1) := by decide +kernel
theorem dX4_become_27 : decode cX4_become 27 = .ok (.getfield 19, 3) := by decide +kernel
theorem dX4_become_30 : decode cX4_become 30 = .ok (.invokestatic 29, 3) := by decide +kernel
theorem dX4_become_33 : decode cX4_become 33 = .ok (.aload_n 1, 1) := by decide +kernel
theorem dX4_become_34 : decode cX4_become 34 = .ok (.getfield 22, 3) := by decide +kernel
theorem dX4_become_37 : decode cX4_become 37 = .ok (.aload_n 0, 1) := by decide +kernel
theorem dX4_become_38 : decode cX4_become 38 = .ok (.getfield 22, 3) := by decide +kernel
theorem dX4_become_41 : decode cX4_become 41 = .ok (.invokestatic 29, 3) := by decide +kernel
theorem dX4_become_44 : decode cX4_become 44 = .ok (.aload_n 0, 1) := by decide +kernel
theorem dX4_become_45 : decode cX4_become 45 = .ok (.aload_n 1, 1) := by decide +kernel
theorem dX4_become_46 : decode cX4_become 46 = .ok (.getfield 33, 3) := by decide +kernel
theorem dX4_become_49 : decode cX4_become 49 = .ok (.putfield 33, 3) := by decide +kernel
theorem dX4_become_52 : decode cX4_become 52 = .ok (.return_, 1) := by decide +kernel
theorem dX4_has_0 : decode cX4_has 0 = .ok (.iload_n 1, 1) := by decide +kernel
theorem dX4_has_1 : decode cX4_has 1 = .ok (.ifCond .lt 15, 3) := by decide +kernel
theorem dX4_has_4 : decode cX4_has 4 = .ok (.iload_n 1, 1) := by decide +kernel
theorem dX4_has_5 : decode cX4_has 5 = .ok (.aload_n 0, 1) := by decide +kernel
theorem dX4_has_6 : decode cX4_has 6 = .ok (.getfield 33, 3) := by decide +kernel
theorem dX4_has_9 : decode cX4_has 9 = .ok (.if_icmp .ge 7, 3) := by decide +kernel
theorem dX4_has_12 : decode cX4_has 12 = .ok (.iconst 1, 1) := by decide +kernel
theorem dX4_has_13 : decode cX4_has 13 = .ok (.goto 4, 3) := by decide +kernel
theorem dX4_has_16 : decode cX4_has 16 = .ok (.iconst 0, 1) := by decide +kernel
theorem dX4_has_17 : decode cX4_has 17 = .ok (.ireturn, 1) := by decide +kernel
theorem dX4_firstLetter_0 : decode cX4_firstLetter 0 = .ok (.aload_n 0, 1) := by decide +kernel
theorem dX4_firstLetter_1 : decode cX4_firstLetter 1 = .ok (.iload_n 1, 1) := by decide +kernel
theorem dX4_firstLetter_2 : decode cX4_firstLetter 2 = .ok (.invokevirtual 37, 3) := by decide +kernel
theorem dX4_firstLetter_5 : decode cX4_firstLetter 5 = .ok (.iconst 0, 1) := by decide +kernel
theorem dX4_firstLetter_6 : decode cX4_firstLetter 6 = .ok (.invokestatic 41, 3) := by decide +kernel
theorem dX4_firstLetter_9 : decode cX4_firstLetter 9 = .ok (.ireturn, 1) := by decide +kernel
theorem dX4_hasRoomFor_0 : decode cX4_hasRoomFor 0 = .ok (.aload_n 0, 1) := by decide +kernel
theorem dX4_hasRoomFor_1 : decode cX4_hasRoomFor 1 = .ok (.lload_n 1, 1) := by decide +kernel
theorem dX4_hasRoomFor_2 : decode cX4_hasRoomFor 2 = .ok (.iload_n 3, 1) := by decide +kernel
theorem dX4_hasRoomFor_3 : decode cX4_hasRoomFor 3 = .ok (.invokevirtual 45, 3) := by decide +kernel
theorem dX4_hasRoomFor_6 : decode cX4_hasRoomFor 6 = .ok (.bipush 8, 2) := by decide +kernel
theorem dX4_hasRoomFor_8 : decode cX4_hasRoomFor 8 = .ok (.if_icmp .ge 7, 3) := by decide +kernel
theorem dX4_hasRoomFor_11 : decode cX4_hasRoomFor 11 = .ok (.iconst 1, 1) := by decide +kernel
theorem dX4_hasRoomFor_12 : decode cX4_hasRoomFor 12 = .ok (.goto 4, 3) := by decide +kernel
theorem dX4_hasRoomFor_15 : decode cX4_hasRoomFor 15 = .ok (.iconst 0, 1) := by decide +kernel
theorem dX4_hasRoomFor_16 : decode cX4_hasRoomFor 16 = .ok (.ireturn, 1) := by decide +kernel
theorem dX4_take_0 : decode cX4_take 0 = .ok (.aload_n 0, 1) := by decide +kernel
theorem dX4_take_1 : decode cX4_take 1 = .ok (.lload_n 1, 1) := by decide +kernel
theorem dX4_take_2 : decode cX4_take 2 = .ok (.iload 4, 2) := by decide +kernel
theorem dX4_take_4 : decode cX4_take 4 = .ok (.invokevirtual 45, 3) := by decide +kernel
theorem dX4_take_7 : decode cX4_take 7 = .ok (.istore 6, 2) := by decide +kernel
theorem dX4_take_9 : decode cX4_take 9 = .ok (.iload 6, 2) := by decide +kernel
theorem dX4_take_11 : decode cX4_take 11 = .ok (.ifCond .lt 21, 3) := by decide +kernel
theorem dX4_take_14 : decode cX4_take 14 = .ok (.iload 6, 2) := by decide +kernel
theorem dX4_take_16 : decode cX4_take 16 = .ok (.aload_n 0, 1) := by decide +kernel
theorem dX4_take_17 : decode cX4_take 17 = .ok (.getfield 9, 3) := by decide +kernel
theorem dX4_take_20 : decode cX4_take 20 = .ok (.arraylength, 1) := by decide +kernel
theorem dX4_take_21 : decode cX4_take 21 = .ok (.if_icmp .ge 11, 3) := by decide +kernel
theorem dX4_take_24 : decode cX4_take 24 = .ok (.aload_n 0, 1) := by decide +kernel
theorem dX4_take_25 : decode cX4_take 25 = .ok (.getfield 9, 3) := by decide +kernel
theorem dX4_take_28 : decode cX4_take 28 = .ok (.iload 6, 2) := by decide +kernel
theorem dX4_take_30 : decode cX4_take 30 = .ok (.lload_n 1, 1) := by decide +kernel
theorem dX4_take_31 : decode cX4_take 31 = .ok (.lastore, 1) := by decide +kernel
theorem dX4_take_32 : decode cX4_take 32 = .ok (.aload_n 0, 1) := by decide +kernel
theorem dX4_take_33 : decode cX4_take 33 = .ok (.getfield 15, 3) := by decide +kernel
theorem dX4_take_36 : decode cX4_take 36 = .ok (.iload 6, 2) := by decide +kernel
theorem dX4_take_38 : decode cX4_take 38 = .ok (.iload_n 3, 1) := by decide +kernel
theorem dX4_take_39 : decode cX4_take 39 = .ok (.invokestatic 48, 3) := by decide +kernel
theorem dX4_take_42 : decode cX4_take 42 = .ok (.aload_n 0, 1) := by decide +kernel
theorem dX4_take_43 : decode cX4_take 43 = .ok (.getfield 19, 3) := by decide +kernel
theorem dX4_take_46 : decode cX4_take 46 = .ok (.iload 6, 2) := by decide +kernel
theorem dX4_take_48 : decode cX4_take 48 = .ok (.iload 4, 2) := by decide +kernel
theorem dX4_take_50 : decode cX4_take 50 = .ok (.invokestatic 48, 3) := by decide +kernel
theorem dX4_take_53 : decode cX4_take 53 = .ok (.aload_n 0, 1) := by decide +kernel
theorem dX4_take_54 : decode cX4_take 54 = .ok (.getfield 22, 3) := by decide +kernel
theorem dX4_take_57 : decode cX4_take 57 = .ok (.iload 6, 2) := by decide +kernel
theorem dX4_take_59 : decode cX4_take 59 = .ok (.iload 5, 2) := by decide +kernel
theorem dX4_take_61 : decode cX4_take 61 = .ok (.invokestatic 48, 3) := by decide +kernel
theorem dX4_take_64 : decode cX4_take 64 = .ok (.aload_n 0, 1) := by decide +kernel
theorem dX4_take_65 : decode cX4_take 65 = .ok (.aload_n 0, 1) := by decide +kernel
theorem dX4_take_66 : decode cX4_take 66 = .ok (.getfield 33, 3) := by decide +kernel
theorem dX4_take_69 : decode cX4_take 69 = .ok (.iload 6, 2) := by decide +kernel
theorem dX4_take_71 : decode cX4_take 71 = .ok (.iconst 1, 1) := by decide +kernel
theorem dX4_take_72 : decode cX4_take 72 = .ok (.iadd, 1) := by decide +kernel
theorem dX4_take_73 : decode cX4_take 73 = .ok (.invokestatic 52, 3) := by decide +kernel
theorem dX4_take_76 : decode cX4_take 76 = .ok (.putfield 33, 3) := by decide +kernel
theorem dX4_take_79 : decode cX4_take 79 = .ok (.aload_n 0, 1) := by decide +kernel
theorem dX4_take_80 : decode cX4_take 80 = .ok (.getfield 33, 3) := by decide +kernel
theorem dX4_take_83 : decode cX4_take 83 = .ok (.ireturn, 1) := by decide +kernel
theorem dX4_greatestValue_0 : decode cX4_greatestValue 0 = .ok (.iconst 0, 1) := by decide +kernel
theorem dX4_greatestValue_1 : decode cX4_greatestValue 1 = .ok (.istore 4, 2) := by decide +kernel
theorem dX4_greatestValue_3 : decode cX4_greatestValue 3 = .ok (.iconst 0, 1) := by decide +kernel
theorem dX4_greatestValue_4 : decode cX4_greatestValue 4 = .ok (.istore 5, 2) := by decide +kernel
theorem dX4_greatestValue_6 : decode cX4_greatestValue 6 = .ok (.iload 5, 2) := by decide +kernel
theorem dX4_greatestValue_8 : decode cX4_greatestValue 8 = .ok (.aload_n 0, 1) := by decide +kernel
theorem dX4_greatestValue_9 : decode cX4_greatestValue 9 = .ok (.getfield 33, 3) := by decide +kernel
theorem dX4_greatestValue_12 : decode cX4_greatestValue 12 = .ok (.if_icmp .ge 79, 3) := by decide +kernel
theorem dX4_greatestValue_15 : decode cX4_greatestValue 15 = .ok (.iload_n 3, 1) := by decide +kernel
theorem dX4_greatestValue_16 : decode cX4_greatestValue 16 = .ok (.aload_n 0, 1) := by decide +kernel
theorem dX4_greatestValue_17 : decode cX4_greatestValue 17 = .ok (.getfield 19, 3) := by decide +kernel
theorem dX4_greatestValue_20 : decode cX4_greatestValue 20 = .ok (.iload 5, 2) := by decide +kernel
theorem dX4_greatestValue_22 : decode cX4_greatestValue 22 = .ok (.invokestatic 58, 3) := by decide +kernel
theorem dX4_greatestValue_25 : decode cX4_greatestValue 25 = .ok (.isub, 1) := by decide +kernel
theorem dX4_greatestValue_26 : decode cX4_greatestValue 26 = .ok (.istore 6, 2) := by decide +kernel
theorem dX4_greatestValue_28 : decode cX4_greatestValue 28 = .ok (.lconst 1, 1) := by decide +kernel
theorem dX4_greatestValue_29 : decode cX4_greatestValue 29 = .ok (.iconst 4, 1) := by decide +kernel
theorem dX4_greatestValue_30 : decode cX4_greatestValue 30 = .ok (.aload_n 0, 1) := by decide +kernel
theorem dX4_greatestValue_31 : decode cX4_greatestValue 31 = .ok (.getfield 15, 3) := by decide +kernel
theorem dX4_greatestValue_34 : decode cX4_greatestValue 34 = .ok (.iload 5, 2) := by decide +kernel
theorem dX4_greatestValue_36 : decode cX4_greatestValue 36 = .ok (.invokestatic 58, 3) := by decide +kernel
theorem dX4_greatestValue_39 : decode cX4_greatestValue 39 = .ok (.imul, 1) := by decide +kernel
theorem dX4_greatestValue_40 : decode cX4_greatestValue 40 = .ok (.lshl, 1) := by decide +kernel
theorem dX4_greatestValue_41 : decode cX4_greatestValue 41 = .ok (.lconst 1, 1) := by decide +kernel
theorem dX4_greatestValue_42 : decode cX4_greatestValue 42 = .ok (.lsub, 1) := by decide +kernel
theorem dX4_greatestValue_43 : decode cX4_greatestValue 43 = .ok (.lstore 7, 2) := by decide +kernel
theorem dX4_greatestValue_45 : decode cX4_greatestValue 45 = .ok (.iload 6, 2) := by decide +kernel
theorem dX4_greatestValue_47 : decode cX4_greatestValue 47 = .ok (.ifCond .lt 38, 3) := by decide +kernel
theorem dX4_greatestValue_50 : decode cX4_greatestValue 50 = .ok (.lload_n 1, 1) := by decide +kernel
theorem dX4_greatestValue_51 : decode cX4_greatestValue 51 = .ok (.iconst 4, 1) := by decide +kernel
theorem dX4_greatestValue_52 : decode cX4_greatestValue 52 = .ok (.iload 6, 2) := by decide +kernel
theorem dX4_greatestValue_54 : decode cX4_greatestValue 54 = .ok (.imul, 1) := by decide +kernel
theorem dX4_greatestValue_55 : decode cX4_greatestValue 55 = .ok (.lushr, 1) := by decide +kernel
theorem dX4_greatestValue_56 : decode cX4_greatestValue 56 = .ok (.lload 7, 2) := by decide +kernel
theorem dX4_greatestValue_58 : decode cX4_greatestValue 58 = .ok (.land, 1) := by decide +kernel
theorem dX4_greatestValue_59 : decode cX4_greatestValue 59 = .ok (.aload_n 0, 1) := by decide +kernel
theorem dX4_greatestValue_60 : decode cX4_greatestValue 60 = .ok (.iload 5, 2) := by decide +kernel
theorem dX4_greatestValue_62 : decode cX4_greatestValue 62 = .ok (.invokevirtual 37, 3) := by decide +kernel
theorem dX4_greatestValue_65 : decode cX4_greatestValue 65 = .ok (.lcmp, 1) := by decide +kernel
theorem dX4_greatestValue_66 : decode cX4_greatestValue 66 = .ok (.ifCond .ne 19, 3) := by decide +kernel
theorem dX4_greatestValue_69 : decode cX4_greatestValue 69 = .ok (.iload 4, 2) := by decide +kernel
theorem dX4_greatestValue_71 : decode cX4_greatestValue 71 = .ok (.aload_n 0, 1) := by decide +kernel
theorem dX4_greatestValue_72 : decode cX4_greatestValue 72 = .ok (.getfield 22, 3) := by decide +kernel
theorem dX4_greatestValue_75 : decode cX4_greatestValue 75 = .ok (.iload 5, 2) := by decide +kernel
theorem dX4_greatestValue_77 : decode cX4_greatestValue 77 = .ok (.invokestatic 58, 3) := by decide +kernel
theorem dX4_greatestValue_80 : decode cX4_greatestValue 80 = .ok (.invokestatic 52, 3) := by decide +kernel
theorem dX4_greatestValue_83 : decode cX4_greatestValue 83 = .ok (.istore 4, 2) := by decide +kernel
theorem dX4_greatestValue_85 : decode cX4_greatestValue 85 = .ok (.iinc 5 1, 3) := by decide +kernel
theorem dX4_greatestValue_88 : decode cX4_greatestValue 88 = .ok (.goto (-82), 3) := by decide +kernel
theorem dX4_greatestValue_91 : decode cX4_greatestValue 91 = .ok (.iload 4, 2) := by decide +kernel
theorem dX4_greatestValue_93 : decode cX4_greatestValue 93 = .ok (.ireturn, 1) := by decide +kernel
theorem dX4_numberFor_0 : decode cX4_numberFor 0 = .ok (.iconst 0, 1) := by decide +kernel
theorem dX4_numberFor_1 : decode cX4_numberFor 1 = .ok (.istore 4, 2) := by decide +kernel
theorem dX4_numberFor_3 : decode cX4_numberFor 3 = .ok (.iload 4, 2) := by decide +kernel
theorem dX4_numberFor_5 : decode cX4_numberFor 5 = .ok (.aload_n 0, 1) := by decide +kernel
theorem dX4_numberFor_6 : decode cX4_numberFor 6 = .ok (.getfield 33, 3) := by decide +kernel
theorem dX4_numberFor_9 : decode cX4_numberFor 9 = .ok (.if_icmp .ge 36, 3) := by decide +kernel
theorem dX4_numberFor_12 : decode cX4_numberFor 12 = .ok (.aload_n 0, 1) := by decide +kernel
theorem dX4_numberFor_13 : decode cX4_numberFor 13 = .ok (.iload 4, 2) := by decide +kernel
theorem dX4_numberFor_15 : decode cX4_numberFor 15 = .ok (.invokevirtual 37, 3) := by decide +kernel
theorem dX4_numberFor_18 : decode cX4_numberFor 18 = .ok (.lload_n 1, 1) := by decide +kernel
theorem dX4_numberFor_19 : decode cX4_numberFor 19 = .ok (.lcmp, 1) := by decide +kernel
theorem dX4_numberFor_20 : decode cX4_numberFor 20 = .ok (.ifCond .ne 19, 3) := by decide +kernel
theorem dX4_numberFor_23 : decode cX4_numberFor 23 = .ok (.aload_n 0, 1) := by decide +kernel
theorem dX4_numberFor_24 : decode cX4_numberFor 24 = .ok (.getfield 19, 3) := by decide +kernel
theorem dX4_numberFor_27 : decode cX4_numberFor 27 = .ok (.iload 4, 2) := by decide +kernel
theorem dX4_numberFor_29 : decode cX4_numberFor 29 = .ok (.invokestatic 58, 3) := by decide +kernel
theorem dX4_numberFor_32 : decode cX4_numberFor 32 = .ok (.iload_n 3, 1) := by decide +kernel
theorem dX4_numberFor_33 : decode cX4_numberFor 33 = .ok (.if_icmp .ne 6, 3) := by decide +kernel
theorem dX4_numberFor_36 : decode cX4_numberFor 36 = .ok (.iload 4, 2) := by decide +kernel
theorem dX4_numberFor_38 : decode cX4_numberFor 38 = .ok (.ireturn, 1) := by decide +kernel
theorem dX4_numberFor_39 : decode cX4_numberFor 39 = .ok (.iinc 4 1, 3) := by decide +kernel
theorem dX4_numberFor_42 : decode cX4_numberFor 42 = .ok (.goto (-39), 3) := by decide +kernel
theorem dX4_numberFor_45 : decode cX4_numberFor 45 = .ok (.aload_n 0, 1) := by decide +kernel
theorem dX4_numberFor_46 : decode cX4_numberFor 46 = .ok (.getfield 33, 3) := by decide +kernel
theorem dX4_numberFor_49 : decode cX4_numberFor 49 = .ok (.ireturn, 1) := by decide +kernel
theorem dX4_spellingOf_0 : decode cX4_spellingOf 0 = .ok (.iload_n 1, 1) := by decide +kernel
theorem dX4_spellingOf_1 : decode cX4_spellingOf 1 = .ok (.ifCond .lt 21, 3) := by decide +kernel
theorem dX4_spellingOf_4 : decode cX4_spellingOf 4 = .ok (.iload_n 1, 1) := by decide +kernel
theorem dX4_spellingOf_5 : decode cX4_spellingOf 5 = .ok (.aload_n 0, 1) := by decide +kernel
theorem dX4_spellingOf_6 : decode cX4_spellingOf 6 = .ok (.getfield 9, 3) := by decide +kernel
theorem dX4_spellingOf_9 : decode cX4_spellingOf 9 = .ok (.arraylength, 1) := by decide +kernel
theorem dX4_spellingOf_10 : decode cX4_spellingOf 10 = .ok (.if_icmp .ge 12, 3) := by decide +kernel
theorem dX4_spellingOf_13 : decode cX4_spellingOf 13 = .ok (.aload_n 0, 1) := by decide +kernel
theorem dX4_spellingOf_14 : decode cX4_spellingOf 14 = .ok (.getfield 9, 3) := by decide +kernel
theorem dX4_spellingOf_17 : decode cX4_spellingOf 17 = .ok (.iload_n 1, 1) := by decide +kernel
theorem dX4_spellingOf_18 : decode cX4_spellingOf 18 = .ok (.laload, 1) := by decide +kernel
theorem dX4_spellingOf_19 : decode cX4_spellingOf 19 = .ok (.goto 4, 3) := by decide +kernel
theorem dX4_spellingOf_22 : decode cX4_spellingOf 22 = .ok (.lconst 0, 1) := by decide +kernel
theorem dX4_spellingOf_23 : decode cX4_spellingOf 23 = .ok (.lreturn, 1) := by decide +kernel
theorem dX5_init_0 : decode cX5_init 0 = .ok (.aload_n 0, 1) := by decide +kernel
theorem dX5_init_1 : decode cX5_init 1 = .ok (.invokespecial 3, 3) := by decide +kernel
theorem dX5_init_4 : decode cX5_init 4 = .ok (.aload_n 0, 1) := by decide +kernel
theorem dX5_init_5 : decode cX5_init 5 = .ok (.bipush 96, 2) := by decide +kernel
theorem dX5_init_7 : decode cX5_init 7 = .ok (.newarray .int, 2) := by decide +kernel
theorem dX5_init_9 : decode cX5_init 9 = .ok (.putfield 9, 3) := by decide +kernel
theorem dX5_init_12 : decode cX5_init 12 = .ok (.return_, 1) := by decide +kernel
theorem dX5_isFull_0 : decode cX5_isFull 0 = .ok (.aload_n 0, 1) := by decide +kernel
theorem dX5_isFull_1 : decode cX5_isFull 1 = .ok (.getfield 15, 3) := by decide +kernel
theorem dX5_isFull_4 : decode cX5_isFull 4 = .ok (.bipush 96, 2) := by decide +kernel
theorem dX5_isFull_6 : decode cX5_isFull 6 = .ok (.if_icmp .lt 7, 3) := by decide +kernel
theorem dX5_isFull_9 : decode cX5_isFull 9 = .ok (.iconst 1, 1) := by decide +kernel
theorem dX5_isFull_10 : decode cX5_isFull 10 = .ok (.goto 4, 3) := by decide +kernel
theorem dX5_isFull_13 : decode cX5_isFull 13 = .ok (.iconst 0, 1) := by decide +kernel
theorem dX5_isFull_14 : decode cX5_isFull 14 = .ok (.ireturn, 1) := by decide +kernel
theorem dX5_take_0 : decode cX5_take 0 = .ok (.aload_n 0, 1) := by decide +kernel
theorem dX5_take_1 : decode cX5_take 1 = .ok (.getfield 9, 3) := by decide +kernel
theorem dX5_take_4 : decode cX5_take 4 = .ok (.aload_n 0, 1) := by decide +kernel
theorem dX5_take_5 : decode cX5_take 5 = .ok (.getfield 15, 3) := by decide +kernel
theorem dX5_take_8 : decode cX5_take 8 = .ok (.iload_n 1, 1) := by decide +kernel
theorem dX5_take_9 : decode cX5_take 9 = .ok (.invokestatic 19, 3) := by decide +kernel
theorem dX5_take_12 : decode cX5_take 12 = .ok (.aload_n 0, 1) := by decide +kernel
theorem dX5_take_13 : decode cX5_take 13 = .ok (.dup, 1) := by decide +kernel
theorem dX5_take_14 : decode cX5_take 14 = .ok (.getfield 15, 3) := by decide +kernel
theorem dX5_take_17 : decode cX5_take 17 = .ok (.iconst 1, 1) := by decide +kernel
theorem dX5_take_18 : decode cX5_take 18 = .ok (.iadd, 1) := by decide +kernel
theorem dX5_take_19 : decode cX5_take 19 = .ok (.putfield 15, 3) := by decide +kernel
theorem dX5_take_22 : decode cX5_take 22 = .ok (.aload_n 0, 1) := by decide +kernel
theorem dX5_take_23 : decode cX5_take 23 = .ok (.getfield 15, 3) := by decide +kernel
theorem dX5_take_26 : decode cX5_take 26 = .ok (.ireturn, 1) := by decide +kernel
theorem dX5_forget_0 : decode cX5_forget 0 = .ok (.aload_n 0, 1) := by decide +kernel
theorem dX5_forget_1 : decode cX5_forget 1 = .ok (.iconst 0, 1) := by decide +kernel
theorem dX5_forget_2 : decode cX5_forget 2 = .ok (.putfield 15, 3) := by decide +kernel
theorem dX5_forget_5 : decode cX5_forget 5 = .ok (.return_, 1) := by decide +kernel
theorem dX5_misspelt_0 : decode cX5_misspelt 0 = .ok (.aload_n 0, 1) := by decide +kernel
theorem dX5_misspelt_1 : decode cX5_misspelt 1 = .ok (.iconst 0, 1) := by decide +kernel
theorem dX5_misspelt_2 : decode cX5_misspelt 2 = .ok (.putfield 23, 3) := by decide +kernel
theorem dX5_misspelt_5 : decode cX5_misspelt 5 = .ok (.aload_n 0, 1) := by decide +kernel
theorem dX5_misspelt_6 : decode cX5_misspelt 6 = .ok (.invokevirtual 26, 3) := by decide +kernel
theorem dX5_misspelt_9 : decode cX5_misspelt 9 = .ok (.ifCond .ne 8, 3) := by decide +kernel
theorem dX5_misspelt_12 : decode cX5_misspelt 12 = .ok (.aload_n 0, 1) := by decide +kernel
theorem dX5_misspelt_13 : decode cX5_misspelt 13 = .ok (.getfield 23, 3) := by decide +kernel
theorem dX5_misspelt_16 : decode cX5_misspelt 16 = .ok (.ireturn, 1) := by decide +kernel
theorem dX5_misspelt_17 : decode cX5_misspelt 17 = .ok (.iconst 1, 1) := by decide +kernel
theorem dX5_misspelt_18 : decode cX5_misspelt 18 = .ok (.istore_n 1, 1) := by decide +kernel
theorem dX5_misspelt_19 : decode cX5_misspelt 19 = .ok (.iload_n 1, 1) := by decide +kernel
theorem dX5_misspelt_20 : decode cX5_misspelt 20 = .ok (.bipush 96, 2) := by decide +kernel
theorem dX5_misspelt_22 : decode cX5_misspelt 22 = .ok (.if_icmp .ge 32, 3) := by decide +kernel
theorem dX5_misspelt_25 : decode cX5_misspelt 25 = .ok (.aload_n 0, 1) := by decide +kernel
theorem dX5_misspelt_26 : decode cX5_misspelt 26 = .ok (.getfield 23, 3) := by decide +kernel
theorem dX5_misspelt_29 : decode cX5_misspelt 29 = .ok (.aload_n 0, 1) := by decide +kernel
theorem dX5_misspelt_30 : decode cX5_misspelt 30 = .ok (.getfield 15, 3) := by decide +kernel
theorem dX5_misspelt_33 : decode cX5_misspelt 33 = .ok (.if_icmp .ge 21, 3) := by decide +kernel
theorem dX5_misspelt_36 : decode cX5_misspelt 36 = .ok (.aload_n 0, 1) := by decide +kernel
theorem dX5_misspelt_37 : decode cX5_misspelt 37 = .ok (.invokevirtual 26, 3) := by decide +kernel
theorem dX5_misspelt_40 : decode cX5_misspelt 40 = .ok (.ifCond .ne 8, 3) := by decide +kernel
theorem dX5_misspelt_43 : decode cX5_misspelt 43 = .ok (.aload_n 0, 1) := by decide +kernel
theorem dX5_misspelt_44 : decode cX5_misspelt 44 = .ok (.getfield 23, 3) := by decide +kernel
theorem dX5_misspelt_47 : decode cX5_misspelt 47 = .ok (.ireturn, 1) := by decide +kernel
theorem dX5_misspelt_48 : decode cX5_misspelt 48 = .ok (.iinc 1 1, 3) := by decide +kernel
theorem dX5_misspelt_51 : decode cX5_misspelt 51 = .ok (.goto (-32), 3) := by decide +kernel
theorem dX5_misspelt_54 : decode cX5_misspelt 54 = .ok (.iconst (-1), 1) := by decide +kernel
theorem dX5_misspelt_55 : decode cX5_misspelt 55 = .ok (.ireturn, 1) := by decide +kernel
theorem dX5_tellTo_0 : decode cX5_tellTo 0 = .ok (.aload_n 0, 1) := by decide +kernel
theorem dX5_tellTo_1 : decode cX5_tellTo 1 = .ok (.iconst 0, 1) := by decide +kernel
theorem dX5_tellTo_2 : decode cX5_tellTo 2 = .ok (.putfield 23, 3) := by decide +kernel
theorem dX5_tellTo_5 : decode cX5_tellTo 5 = .ok (.aload_n 0, 1) := by decide +kernel
theorem dX5_tellTo_6 : decode cX5_tellTo 6 = .ok (.iconst 0, 1) := by decide +kernel
theorem dX5_tellTo_7 : decode cX5_tellTo 7 = .ok (.putfield 30, 3) := by decide +kernel
theorem dX5_tellTo_10 : decode cX5_tellTo 10 = .ok (.iconst 0, 1) := by decide +kernel
theorem dX5_tellTo_11 : decode cX5_tellTo 11 = .ok (.istore_n 2, 1) := by decide +kernel
theorem dX5_tellTo_12 : decode cX5_tellTo 12 = .ok (.iload_n 2, 1) := by decide +kernel
theorem dX5_tellTo_13 : decode cX5_tellTo 13 = .ok (.bipush 96, 2) := by decide +kernel
theorem dX5_tellTo_15 : decode cX5_tellTo 15 = .ok (.if_icmp .ge 55, 3) := by decide +kernel
theorem dX5_tellTo_18 : decode cX5_tellTo 18 = .ok (.aload_n 0, 1) := by decide +kernel
theorem dX5_tellTo_19 : decode cX5_tellTo 19 = .ok (.getfield 23, 3) := by decide +kernel
theorem dX5_tellTo_22 : decode cX5_tellTo 22 = .ok (.aload_n 0, 1) := by decide +kernel
theorem dX5_tellTo_23 : decode cX5_tellTo 23 = .ok (.getfield 15, 3) := by decide +kernel
theorem dX5_tellTo_26 : decode cX5_tellTo 26 = .ok (.if_icmp .ge 44, 3) := by decide +kernel
theorem dX5_tellTo_29 : decode cX5_tellTo 29 = .ok (.aload_n 0, 1) := by decide +kernel
theorem dX5_tellTo_30 : decode cX5_tellTo 30 = .ok (.getfield 23, 3) := by decide +kernel
theorem dX5_tellTo_33 : decode cX5_tellTo 33 = .ok (.istore_n 3, 1) := by decide +kernel
theorem dX5_tellTo_34 : decode cX5_tellTo 34 = .ok (.aload_n 0, 1) := by decide +kernel
theorem dX5_tellTo_35 : decode cX5_tellTo 35 = .ok (.aload_n 1, 1) := by decide +kernel
theorem dX5_tellTo_36 : decode cX5_tellTo 36 = .ok (.invokevirtual 33, 3) := by decide +kernel
theorem dX5_tellTo_39 : decode cX5_tellTo 39 = .ok (.ifCond .ne 5, 3) := by decide +kernel
theorem dX5_tellTo_42 : decode cX5_tellTo 42 = .ok (.iload_n 3, 1) := by decide +kernel
theorem dX5_tellTo_43 : decode cX5_tellTo 43 = .ok (.ireturn, 1) := by decide +kernel
theorem dX5_tellTo_44 : decode cX5_tellTo 44 = .ok (.aload_n 0, 1) := by decide +kernel
theorem dX5_tellTo_45 : decode cX5_tellTo 45 = .ok (.dup, 1) := by decide +kernel
theorem dX5_tellTo_46 : decode cX5_tellTo 46 = .ok (.getfield 23, 3) := by decide +kernel
theorem dX5_tellTo_49 : decode cX5_tellTo 49 = .ok (.iconst 1, 1) := by decide +kernel
theorem dX5_tellTo_50 : decode cX5_tellTo 50 = .ok (.iadd, 1) := by decide +kernel
theorem dX5_tellTo_51 : decode cX5_tellTo 51 = .ok (.putfield 23, 3) := by decide +kernel
theorem dX5_tellTo_54 : decode cX5_tellTo 54 = .ok (.aload_n 0, 1) := by decide +kernel
theorem dX5_tellTo_55 : decode cX5_tellTo 55 = .ok (.dup, 1) := by decide +kernel
theorem dX5_tellTo_56 : decode cX5_tellTo 56 = .ok (.getfield 30, 3) := by decide +kernel
theorem dX5_tellTo_59 : decode cX5_tellTo 59 = .ok (.iconst 1, 1) := by decide +kernel
theorem dX5_tellTo_60 : decode cX5_tellTo 60 = .ok (.iadd, 1) := by decide +kernel
theorem dX5_tellTo_61 : decode cX5_tellTo 61 = .ok (.putfield 30, 3) := by decide +kernel
theorem dX5_tellTo_64 : decode cX5_tellTo 64 = .ok (.iinc 2 1, 3) := by decide +kernel
theorem dX5_tellTo_67 : decode cX5_tellTo 67 = .ok (.goto (-55), 3) := by decide +kernel
theorem dX5_tellTo_70 : decode cX5_tellTo 70 = .ok (.iconst (-1), 1) := by decide +kernel
theorem dX5_tellTo_71 : decode cX5_tellTo 71 = .ok (.ireturn, 1) := by decide +kernel
theorem dX5_here_0 : decode cX5_here 0 = .ok (.aload_n 0, 1) := by decide +kernel
theorem dX5_here_1 : decode cX5_here 1 = .ok (.getfield 23, 3) := by decide +kernel
theorem dX5_here_4 : decode cX5_here 4 = .ok (.aload_n 0, 1) := by decide +kernel
theorem dX5_here_5 : decode cX5_here 5 = .ok (.getfield 15, 3) := by decide +kernel
theorem dX5_here_8 : decode cX5_here 8 = .ok (.if_icmp .ge 17, 3) := by decide +kernel
theorem dX5_here_11 : decode cX5_here 11 = .ok (.aload_n 0, 1) := by decide +kernel
theorem dX5_here_12 : decode cX5_here 12 = .ok (.getfield 9, 3) := by decide +kernel
theorem dX5_here_15 : decode cX5_here 15 = .ok (.aload_n 0, 1) := by decide +kernel
theorem dX5_here_16 : decode cX5_here 16 = .ok (.getfield 23, 3) := by decide +kernel
theorem dX5_here_19 : decode cX5_here 19 = .ok (.invokestatic 37, 3) := by decide +kernel
theorem dX5_here_22 : decode cX5_here 22 = .ok (.goto 4, 3) := by decide +kernel
theorem dX5_here_25 : decode cX5_here 25 = .ok (.iconst (-1), 1) := by decide +kernel
theorem dX5_here_26 : decode cX5_here 26 = .ok (.ireturn, 1) := by decide +kernel
theorem dX5_isLetterHere_0 : decode cX5_isLetterHere 0 = .ok (.aload_n 0, 1) := by decide +kernel
theorem dX5_isLetterHere_1 : decode cX5_isLetterHere 1 = .ok (.invokevirtual 41, 3) := by decide +kernel
theorem dX5_isLetterHere_4 : decode cX5_isLetterHere 4 = .ok (.bipush 97, 2) := by decide +kernel
theorem dX5_isLetterHere_6 : decode cX5_isLetterHere 6 = .ok (.if_icmp .lt 16, 3) := by decide +kernel
theorem dX5_isLetterHere_9 : decode cX5_isLetterHere 9 = .ok (.aload_n 0, 1) := by decide +kernel
theorem dX5_isLetterHere_10 : decode cX5_isLetterHere 10 = .ok (.invokevirtual 41, 3) := by decide +kernel
theorem dX5_isLetterHere_13 : decode cX5_isLetterHere 13 = .ok (.bipush 104, 2) := by decide +kernel
theorem dX5_isLetterHere_15 : decode cX5_isLetterHere 15 = .ok (.if_icmp .gt 7, 3) := by decide +kernel
theorem dX5_isLetterHere_18 : decode cX5_isLetterHere 18 = .ok (.iconst 1, 1) := by decide +kernel
theorem dX5_isLetterHere_19 : decode cX5_isLetterHere 19 = .ok (.goto 4, 3) := by decide +kernel
theorem dX5_isLetterHere_22 : decode cX5_isLetterHere 22 = .ok (.iconst 0, 1) := by decide +kernel
theorem dX5_isLetterHere_23 : decode cX5_isLetterHere 23 = .ok (.ireturn, 1) := by decide +kernel
theorem dX5_isDigitHere_0 : decode cX5_isDigitHere 0 = .ok (.aload_n 0, 1) := by decide +kernel
theorem dX5_isDigitHere_1 : decode cX5_isDigitHere 1 = .ok (.invokevirtual 41, 3) := by decide +kernel
theorem dX5_isDigitHere_4 : decode cX5_isDigitHere 4 = .ok (.bipush 48, 2) := by decide +kernel
theorem dX5_isDigitHere_6 : decode cX5_isDigitHere 6 = .ok (.if_icmp .lt 16, 3) := by decide +kernel
theorem dX5_isDigitHere_9 : decode cX5_isDigitHere 9 = .ok (.aload_n 0, 1) := by decide +kernel
theorem dX5_isDigitHere_10 : decode cX5_isDigitHere 10 = .ok (.invokevirtual 41, 3) := by decide +kernel
theorem dX5_isDigitHere_13 : decode cX5_isDigitHere 13 = .ok (.bipush 57, 2) := by decide +kernel
theorem dX5_isDigitHere_15 : decode cX5_isDigitHere 15 = .ok (.if_icmp .gt 7, 3) := by decide +kernel
theorem dX5_isDigitHere_18 : decode cX5_isDigitHere 18 = .ok (.iconst 1, 1) := by decide +kernel
theorem dX5_isDigitHere_19 : decode cX5_isDigitHere 19 = .ok (.goto 4, 3) := by decide +kernel
theorem dX5_isDigitHere_22 : decode cX5_isDigitHere 22 = .ok (.iconst 0, 1) := by decide +kernel
theorem dX5_isDigitHere_23 : decode cX5_isDigitHere 23 = .ok (.ireturn, 1) := by decide +kernel
theorem dX5_readStatement_0 : decode cX5_readStatement 0 = .ok (.aload_n 0, 1) := by decide +kernel
theorem dX5_readStatement_1 : decode cX5_readStatement 1 = .ok (.invokevirtual 41, 3) := by decide +kernel
theorem dX5_readStatement_4 : decode cX5_readStatement 4 = .ok (.istore_n 1, 1) := by decide +kernel
theorem dX5_readStatement_5 : decode cX5_readStatement 5 = .ok (.iload_n 1, 1) := by decide +kernel
theorem dX5_readStatement_6 : decode cX5_readStatement 6 = .ok (.invokestatic 45, 3) := by decide +kernel
theorem dX5_readStatement_9 : decode cX5_readStatement 9 = .ok (.ifCond .ge 5, 3) := by decide +kernel
theorem dX5_readStatement_12 : decode cX5_readStatement 12 = .ok (.iconst 0, 1) := by decide +kernel
theorem dX5_readStatement_13 : decode cX5_readStatement 13 = .ok (.ireturn, 1) := by decide +kernel
theorem dX5_readStatement_14 : decode cX5_readStatement 14 = .ok (.aload_n 0, 1) := by decide +kernel
theorem dX5_readStatement_15 : decode cX5_readStatement 15 = .ok (.dup, 1) := by decide +kernel
theorem dX5_readStatement_16 : decode cX5_readStatement 16 = .ok (.getfield 23, 3) := by decide +kernel
theorem dX5_readStatement_19 : decode cX5_readStatement 19 = .ok (.iconst 1, 1) := by decide +kernel
theorem dX5_readStatement_20 : decode cX5_readStatement 20 = .ok (.iadd, 1) := by decide +kernel
theorem dX5_readStatement_21 : decode cX5_readStatement 21 = .ok (.putfield 23, 3) := by decide +kernel
theorem dX5_readStatement_24 : decode cX5_readStatement 24 = .ok (.iload_n 1, 1) := by decide +kernel
theorem dX5_readStatement_25 : decode cX5_readStatement 25 = .ok (.bipush 119, 2) := by decide +kernel
theorem dX5_readStatement_27 : decode cX5_readStatement 27 = .ok (.if_icmp .ne 14, 3) := by decide +kernel
theorem dX5_readStatement_30 : decode cX5_readStatement 30 = .ok (.aload_n 0, 1) := by decide +kernel
theorem dX5_readStatement_31 : decode cX5_readStatement 31 = .ok (.bipush 12, 2) := by decide +kernel
theorem dX5_readStatement_33 : decode cX5_readStatement 33 = .ok (.invokevirtual 49, 3) := by decide +kernel
theorem dX5_readStatement_36 : decode cX5_readStatement 36 = .ok (.ifCond .ne 5, 3) := by decide +kernel
theorem dX5_readStatement_39 : decode cX5_readStatement 39 = .ok (.iconst 0, 1) := by decide +kernel
theorem dX5_readStatement_40 : decode cX5_readStatement 40 = .ok (.ireturn, 1) := by decide +kernel
theorem dX5_readStatement_41 : decode cX5_readStatement 41 = .ok (.iload_n 1, 1) := by decide +kernel
theorem dX5_readStatement_42 : decode cX5_readStatement 42 = .ok (.bipush 112, 2) := by decide +kernel
theorem dX5_readStatement_44 : decode cX5_readStatement 44 = .ok (.if_icmp .ne 13, 3) := by decide +kernel
theorem dX5_readStatement_47 : decode cX5_readStatement 47 = .ok (.aload_n 0, 1) := by decide +kernel
theorem dX5_readStatement_48 : decode cX5_readStatement 48 = .ok (.iconst 3, 1) := by decide +kernel
theorem dX5_readStatement_49 : decode cX5_readStatement 49 = .ok (.invokevirtual 49, 3) := by decide +kernel
theorem dX5_readStatement_52 : decode cX5_readStatement 52 = .ok (.ifCond .ne 5, 3) := by decide +kernel
theorem dX5_readStatement_55 : decode cX5_readStatement 55 = .ok (.iconst 0, 1) := by decide +kernel
theorem dX5_readStatement_56 : decode cX5_readStatement 56 = .ok (.ireturn, 1) := by decide +kernel
theorem dX5_readStatement_57 : decode cX5_readStatement 57 = .ok (.aload_n 0, 1) := by decide +kernel
theorem dX5_readStatement_58 : decode cX5_readStatement 58 = .ok (.iload_n 1, 1) := by decide +kernel
theorem dX5_readStatement_59 : decode cX5_readStatement 59 = .ok (.invokestatic 45, 3) := by decide +kernel
theorem dX5_readStatement_62 : decode cX5_readStatement 62 = .ok (.invokevirtual 53, 3) := by decide +kernel
theorem dX5_readStatement_65 : decode cX5_readStatement 65 = .ok (.ifCond .eq 12, 3) := by decide +kernel
theorem dX5_readStatement_68 : decode cX5_readStatement 68 = .ok (.aload_n 0, 1) := by decide +kernel
theorem dX5_readStatement_69 : decode cX5_readStatement 69 = .ok (.invokevirtual 41, 3) := by decide +kernel
theorem dX5_readStatement_72 : decode cX5_readStatement 72 = .ok (.bipush 59, 2) := by decide +kernel
theorem dX5_readStatement_74 : decode cX5_readStatement 74 = .ok (.if_icmp .eq 5, 3) := by decide +kernel
theorem dX5_readStatement_77 : decode cX5_readStatement 77 = .ok (.iconst 0, 1) := by decide +kernel
theorem dX5_readStatement_78 : decode cX5_readStatement 78 = .ok (.ireturn, 1) := by decide +kernel
theorem dX5_readStatement_79 : decode cX5_readStatement 79 = .ok (.aload_n 0, 1) := by decide +kernel
theorem dX5_readStatement_80 : decode cX5_readStatement 80 = .ok (.dup, 1) := by decide +kernel
theorem dX5_readStatement_81 : decode cX5_readStatement 81 = .ok (.getfield 23, 3) := by decide +kernel
theorem dX5_readStatement_84 : decode cX5_readStatement 84 = .ok (.iconst 1, 1) := by decide +kernel
theorem dX5_readStatement_85 : decode cX5_readStatement 85 = .ok (.iadd, 1) := by decide +kernel
theorem dX5_readStatement_86 : decode cX5_readStatement 86 = .ok (.putfield 23, 3) := by decide +kernel
theorem dX5_readStatement_89 : decode cX5_readStatement 89 = .ok (.iconst 1, 1) := by decide +kernel
theorem dX5_readStatement_90 : decode cX5_readStatement 90 = .ok (.ireturn, 1) := by decide +kernel
theorem dX5_digitsBehind_0 : decode cX5_digitsBehind 0 = .ok (.iload_n 0, 1) := by decide +kernel
theorem dX5_digitsBehind_1 : decode cX5_digitsBehind 1 = .ok (.tableswitch 91 103 119 #[89, 87, 91, 91, 87, 87, 85, 83, 85, 87, 91, 91, 91, 87, 91, 91, 83], 83) := by decide +kernel
theorem dX5_digitsBehind_84 : decode cX5_digitsBehind 84 = .ok (.iconst 0, 1) := by decide +kernel
theorem dX5_digitsBehind_85 : decode cX5_digitsBehind 85 = .ok (.ireturn, 1) := by decide +kernel
theorem dX5_digitsBehind_86 : decode cX5_digitsBehind 86 = .ok (.iconst 1, 1) := by decide +kernel
theorem dX5_digitsBehind_87 : decode cX5_digitsBehind 87 = .ok (.ireturn, 1) := by decide +kernel
theorem dX5_digitsBehind_88 : decode cX5_digitsBehind 88 = .ok (.iconst 2, 1) := by decide +kernel
theorem dX5_digitsBehind_89 : decode cX5_digitsBehind 89 = .ok (.ireturn, 1) := by decide +kernel
theorem dX5_digitsBehind_90 : decode cX5_digitsBehind 90 = .ok (.iconst 3, 1) := by decide +kernel
theorem dX5_digitsBehind_91 : decode cX5_digitsBehind 91 = .ok (.ireturn, 1) := by decide +kernel
theorem dX5_digitsBehind_92 : decode cX5_digitsBehind 92 = .ok (.iconst (-1), 1) := by decide +kernel
theorem dX5_digitsBehind_93 : decode cX5_digitsBehind 93 = .ok (.ireturn, 1) := by decide +kernel
theorem dX5_readLetters_0 : decode cX5_readLetters 0 = .ok (.iconst 0, 1) := by decide +kernel
theorem dX5_readLetters_1 : decode cX5_readLetters 1 = .ok (.istore_n 2, 1) := by decide +kernel
theorem dX5_readLetters_2 : decode cX5_readLetters 2 = .ok (.iload_n 2, 1) := by decide +kernel
theorem dX5_readLetters_3 : decode cX5_readLetters 3 = .ok (.iload_n 1, 1) := by decide +kernel
theorem dX5_readLetters_4 : decode cX5_readLetters 4 = .ok (.if_icmp .ge 26, 3) := by decide +kernel
theorem dX5_readLetters_7 : decode cX5_readLetters 7 = .ok (.aload_n 0, 1) := by decide +kernel
theorem dX5_readLetters_8 : decode cX5_readLetters 8 = .ok (.invokevirtual 56, 3) := by decide +kernel
theorem dX5_readLetters_11 : decode cX5_readLetters 11 = .ok (.ifCond .eq 19, 3) := by decide +kernel
theorem dX5_readLetters_14 : decode cX5_readLetters 14 = .ok (.aload_n 0, 1) := by decide +kernel
theorem dX5_readLetters_15 : decode cX5_readLetters 15 = .ok (.dup, 1) := by decide +kernel
theorem dX5_readLetters_16 : decode cX5_readLetters 16 = .ok (.getfield 23, 3) := by decide +kernel
theorem dX5_readLetters_19 : decode cX5_readLetters 19 = .ok (.iconst 1, 1) := by decide +kernel
theorem dX5_readLetters_20 : decode cX5_readLetters 20 = .ok (.iadd, 1) := by decide +kernel
theorem dX5_readLetters_21 : decode cX5_readLetters 21 = .ok (.putfield 23, 3) := by decide +kernel
theorem dX5_readLetters_24 : decode cX5_readLetters 24 = .ok (.iinc 2 1, 3) := by decide +kernel
theorem dX5_readLetters_27 : decode cX5_readLetters 27 = .ok (.goto (-25), 3) := by decide +kernel
theorem dX5_readLetters_30 : decode cX5_readLetters 30 = .ok (.iload_n 2, 1) := by decide +kernel
theorem dX5_readLetters_31 : decode cX5_readLetters 31 = .ok (.ifCond .le 7, 3) := by decide +kernel
theorem dX5_readLetters_34 : decode cX5_readLetters 34 = .ok (.iconst 1, 1) := by decide +kernel
theorem dX5_readLetters_35 : decode cX5_readLetters 35 = .ok (.goto 4, 3) := by decide +kernel
theorem dX5_readLetters_38 : decode cX5_readLetters 38 = .ok (.iconst 0, 1) := by decide +kernel
theorem dX5_readLetters_39 : decode cX5_readLetters 39 = .ok (.ireturn, 1) := by decide +kernel
theorem dX5_readDigits_0 : decode cX5_readDigits 0 = .ok (.iconst 0, 1) := by decide +kernel
theorem dX5_readDigits_1 : decode cX5_readDigits 1 = .ok (.istore_n 2, 1) := by decide +kernel
theorem dX5_readDigits_2 : decode cX5_readDigits 2 = .ok (.iload_n 2, 1) := by decide +kernel
theorem dX5_readDigits_3 : decode cX5_readDigits 3 = .ok (.iload_n 1, 1) := by decide +kernel
theorem dX5_readDigits_4 : decode cX5_readDigits 4 = .ok (.if_icmp .ge 28, 3) := by decide +kernel
theorem dX5_readDigits_7 : decode cX5_readDigits 7 = .ok (.aload_n 0, 1) := by decide +kernel
theorem dX5_readDigits_8 : decode cX5_readDigits 8 = .ok (.invokevirtual 59, 3) := by decide +kernel
theorem dX5_readDigits_11 : decode cX5_readDigits 11 = .ok (.ifCond .ne 5, 3) := by decide +kernel
theorem dX5_readDigits_14 : decode cX5_readDigits 14 = .ok (.iconst 0, 1) := by decide +kernel
theorem dX5_readDigits_15 : decode cX5_readDigits 15 = .ok (.ireturn, 1) := by decide +kernel
theorem dX5_readDigits_16 : decode cX5_readDigits 16 = .ok (.aload_n 0, 1) := by decide +kernel
theorem dX5_readDigits_17 : decode cX5_readDigits 17 = .ok (.dup, 1) := by decide +kernel
theorem dX5_readDigits_18 : decode cX5_readDigits 18 = .ok (.getfield 23, 3) := by decide +kernel
theorem dX5_readDigits_21 : decode cX5_readDigits 21 = .ok (.iconst 1, 1) := by decide +kernel
theorem dX5_readDigits_22 : decode cX5_readDigits 22 = .ok (.iadd, 1) := by decide +kernel
theorem dX5_readDigits_23 : decode cX5_readDigits 23 = .ok (.putfield 23, 3) := by decide +kernel
theorem dX5_readDigits_26 : decode cX5_readDigits 26 = .ok (.iinc 2 1, 3) := by decide +kernel
theorem dX5_readDigits_29 : decode cX5_readDigits 29 = .ok (.goto (-27), 3) := by decide +kernel
theorem dX5_readDigits_32 : decode cX5_readDigits 32 = .ok (.iconst 1, 1) := by decide +kernel
theorem dX5_readDigits_33 : decode cX5_readDigits 33 = .ok (.ireturn, 1) := by decide +kernel
theorem dX5_tellStatement_0 : decode cX5_tellStatement 0 = .ok (.aload_n 0, 1) := by decide +kernel
theorem dX5_tellStatement_1 : decode cX5_tellStatement 1 = .ok (.invokevirtual 41, 3) := by decide +kernel
theorem dX5_tellStatement_4 : decode cX5_tellStatement 4 = .ok (.istore_n 2, 1) := by decide +kernel
theorem dX5_tellStatement_5 : decode cX5_tellStatement 5 = .ok (.aload_n 0, 1) := by decide +kernel
theorem dX5_tellStatement_6 : decode cX5_tellStatement 6 = .ok (.dup, 1) := by decide +kernel
theorem dX5_tellStatement_7 : decode cX5_tellStatement 7 = .ok (.getfield 23, 3) := by decide +kernel
theorem dX5_tellStatement_10 : decode cX5_tellStatement 10 = .ok (.iconst 1, 1) := by decide +kernel
theorem dX5_tellStatement_11 : decode cX5_tellStatement 11 = .ok (.iadd, 1) := by decide +kernel
theorem dX5_tellStatement_12 : decode cX5_tellStatement 12 = .ok (.putfield 23, 3) := by decide +kernel
theorem dX5_tellStatement_15 : decode cX5_tellStatement 15 = .ok (.iload_n 2, 1) := by decide +kernel
theorem dX5_tellStatement_16 : decode cX5_tellStatement 16 = .ok (.lookupswitch 91 #[(103, 79), (107, 85), (110, 61), (112, 70), (119, 52)], 52) := by decide +kernel
theorem dX5_tellStatement_68 : decode cX5_tellStatement 68 = .ok (.aload_n 0, 1) := by decide +kernel
theorem dX5_tellStatement_69 : decode cX5_tellStatement 69 = .ok (.aload_n 1, 1) := by decide +kernel
theorem dX5_tellStatement_70 : decode cX5_tellStatement 70 = .ok (.getfield 62, 3) := by decide +kernel
theorem dX5_tellStatement_73 : decode cX5_tellStatement 73 = .ok (.invokevirtual 68, 3) := by decide +kernel
theorem dX5_tellStatement_76 : decode cX5_tellStatement 76 = .ok (.ireturn, 1) := by decide +kernel
theorem dX5_tellStatement_77 : decode cX5_tellStatement 77 = .ok (.aload_n 0, 1) := by decide +kernel
theorem dX5_tellStatement_78 : decode cX5_tellStatement 78 = .ok (.aload_n 1, 1) := by decide +kernel
theorem dX5_tellStatement_79 : decode cX5_tellStatement 79 = .ok (.getfield 62, 3) := by decide +kernel
theorem dX5_tellStatement_82 : decode cX5_tellStatement 82 = .ok (.invokevirtual 72, 3) := by decide +kernel
theorem dX5_tellStatement_85 : decode cX5_tellStatement 85 = .ok (.ireturn, 1) := by decide +kernel
theorem dX5_tellStatement_86 : decode cX5_tellStatement 86 = .ok (.aload_n 0, 1) := by decide +kernel
theorem dX5_tellStatement_87 : decode cX5_tellStatement 87 = .ok (.aload_n 1, 1) := by decide +kernel
theorem dX5_tellStatement_88 : decode cX5_tellStatement 88 = .ok (.getfield 75, 3) := by decide +kernel
theorem dX5_tellStatement_91 : decode cX5_tellStatement 91 = .ok (.invokevirtual 79, 3) := by decide +kernel
theorem dX5_tellStatement_94 : decode cX5_tellStatement 94 = .ok (.ireturn, 1) := by decide +kernel
theorem dX5_tellStatement_95 : decode cX5_tellStatement 95 = .ok (.aload_n 0, 1) := by decide +kernel
theorem dX5_tellStatement_96 : decode cX5_tellStatement 96 = .ok (.aload_n 1, 1) := by decide +kernel
theorem dX5_tellStatement_97 : decode cX5_tellStatement 97 = .ok (.invokevirtual 83, 3) := by decide +kernel
theorem dX5_tellStatement_100 : decode cX5_tellStatement 100 = .ok (.ireturn, 1) := by decide +kernel
theorem dX5_tellStatement_101 : decode cX5_tellStatement 101 = .ok (.aload_n 0, 1) := by decide +kernel
theorem dX5_tellStatement_102 : decode cX5_tellStatement 102 = .ok (.aload_n 1, 1) := by decide +kernel
theorem dX5_tellStatement_103 : decode cX5_tellStatement 103 = .ok (.invokevirtual 86, 3) := by decide +kernel
theorem dX5_tellStatement_106 : decode cX5_tellStatement 106 = .ok (.ireturn, 1) := by decide +kernel
theorem dX5_tellStatement_107 : decode cX5_tellStatement 107 = .ok (.aload_n 0, 1) := by decide +kernel
theorem dX5_tellStatement_108 : decode cX5_tellStatement 108 = .ok (.iload_n 2, 1) := by decide +kernel
theorem dX5_tellStatement_109 : decode cX5_tellStatement 109 = .ok (.aload_n 1, 1) := by decide +kernel
theorem dX5_tellStatement_110 : decode cX5_tellStatement 110 = .ok (.invokevirtual 89, 3) := by decide +kernel
theorem dX5_tellStatement_113 : decode cX5_tellStatement 113 = .ok (.ireturn, 1) := by decide +kernel
theorem dX5_tellWord_0 : decode cX5_tellWord 0 = .ok (.lconst 0, 1) := by decide +kernel
theorem dX5_tellWord_1 : decode cX5_tellWord 1 = .ok (.lstore_n 2, 1) := by decide +kernel
theorem dX5_tellWord_2 : decode cX5_tellWord 2 = .ok (.iconst 0, 1) := by decide +kernel
theorem dX5_tellWord_3 : decode cX5_tellWord 3 = .ok (.istore 4, 2) := by decide +kernel
theorem dX5_tellWord_5 : decode cX5_tellWord 5 = .ok (.iload 4, 2) := by decide +kernel
theorem dX5_tellWord_7 : decode cX5_tellWord 7 = .ok (.bipush 12, 2) := by decide +kernel
theorem dX5_tellWord_9 : decode cX5_tellWord 9 = .ok (.if_icmp .ge 40, 3) := by decide +kernel
theorem dX5_tellWord_12 : decode cX5_tellWord 12 = .ok (.aload_n 0, 1) := by decide +kernel
theorem dX5_tellWord_13 : decode cX5_tellWord 13 = .ok (.invokevirtual 56, 3) := by decide +kernel
theorem dX5_tellWord_16 : decode cX5_tellWord 16 = .ok (.ifCond .eq 33, 3) := by decide +kernel
theorem dX5_tellWord_19 : decode cX5_tellWord 19 = .ok (.lload_n 2, 1) := by decide +kernel
theorem dX5_tellWord_20 : decode cX5_tellWord 20 = .ok (.iload 4, 2) := by decide +kernel
theorem dX5_tellWord_22 : decode cX5_tellWord 22 = .ok (.aload_n 0, 1) := by decide +kernel
theorem dX5_tellWord_23 : decode cX5_tellWord 23 = .ok (.invokevirtual 41, 3) := by decide +kernel
theorem dX5_tellWord_26 : decode cX5_tellWord 26 = .ok (.bipush 97, 2) := by decide +kernel
theorem dX5_tellWord_28 : decode cX5_tellWord 28 = .ok (.isub, 1) := by decide +kernel
theorem dX5_tellWord_29 : decode cX5_tellWord 29 = .ok (.invokestatic 93, 3) := by decide +kernel
theorem dX5_tellWord_32 : decode cX5_tellWord 32 = .ok (.lstore_n 2, 1) := by decide +kernel
theorem dX5_tellWord_33 : decode cX5_tellWord 33 = .ok (.aload_n 0, 1) := by decide +kernel
theorem dX5_tellWord_34 : decode cX5_tellWord 34 = .ok (.dup, 1) := by decide +kernel
theorem dX5_tellWord_35 : decode cX5_tellWord 35 = .ok (.getfield 23, 3) := by decide +kernel
theorem dX5_tellWord_38 : decode cX5_tellWord 38 = .ok (.iconst 1, 1) := by decide +kernel
theorem dX5_tellWord_39 : decode cX5_tellWord 39 = .ok (.iadd, 1) := by decide +kernel
theorem dX5_tellWord_40 : decode cX5_tellWord 40 = .ok (.putfield 23, 3) := by decide +kernel
theorem dX5_tellWord_43 : decode cX5_tellWord 43 = .ok (.iinc 4 1, 3) := by decide +kernel
theorem dX5_tellWord_46 : decode cX5_tellWord 46 = .ok (.goto (-41), 3) := by decide +kernel
theorem dX5_tellWord_49 : decode cX5_tellWord 49 = .ok (.aload_n 1, 1) := by decide +kernel
theorem dX5_tellWord_50 : decode cX5_tellWord 50 = .ok (.invokevirtual 97, 3) := by decide +kernel
theorem dX5_tellWord_53 : decode cX5_tellWord 53 = .ok (.ifCond .eq 5, 3) := by decide +kernel
theorem dX5_tellWord_56 : decode cX5_tellWord 56 = .ok (.iconst 0, 1) := by decide +kernel
theorem dX5_tellWord_57 : decode cX5_tellWord 57 = .ok (.ireturn, 1) := by decide +kernel
theorem dX5_tellWord_58 : decode cX5_tellWord 58 = .ok (.aload_n 1, 1) := by decide +kernel
theorem dX5_tellWord_59 : decode cX5_tellWord 59 = .ok (.lload_n 2, 1) := by decide +kernel
theorem dX5_tellWord_60 : decode cX5_tellWord 60 = .ok (.iload 4, 2) := by decide +kernel
theorem dX5_tellWord_62 : decode cX5_tellWord 62 = .ok (.invokevirtual 102, 3) := by decide +kernel
theorem dX5_tellWord_65 : decode cX5_tellWord 65 = .ok (.pop, 1) := by decide +kernel
theorem dX5_tellWord_66 : decode cX5_tellWord 66 = .ok (.iconst 1, 1) := by decide +kernel
theorem dX5_tellWord_67 : decode cX5_tellWord 67 = .ok (.ireturn, 1) := by decide +kernel
theorem dX5_tellForced_0 : decode cX5_tellForced 0 = .ok (.aload_n 1, 1) := by decide +kernel
theorem dX5_tellForced_1 : decode cX5_tellForced 1 = .ok (.getfield 106, 3) := by decide +kernel
theorem dX5_tellForced_4 : decode cX5_tellForced 4 = .ok (.ifCond .ne 5, 3) := by decide +kernel
theorem dX5_tellForced_7 : decode cX5_tellForced 7 = .ok (.iconst 0, 1) := by decide +kernel
theorem dX5_tellForced_8 : decode cX5_tellForced 8 = .ok (.ireturn, 1) := by decide +kernel
theorem dX5_tellForced_9 : decode cX5_tellForced 9 = .ok (.aload_n 1, 1) := by decide +kernel
theorem dX5_tellForced_10 : decode cX5_tellForced 10 = .ok (.aload_n 1, 1) := by decide +kernel
theorem dX5_tellForced_11 : decode cX5_tellForced 11 = .ok (.getfield 106, 3) := by decide +kernel
theorem dX5_tellForced_14 : decode cX5_tellForced 14 = .ok (.iconst 1, 1) := by decide +kernel
theorem dX5_tellForced_15 : decode cX5_tellForced 15 = .ok (.isub, 1) := by decide +kernel
theorem dX5_tellForced_16 : decode cX5_tellForced 16 = .ok (.invokevirtual 107, 3) := by decide +kernel
theorem dX5_tellForced_19 : decode cX5_tellForced 19 = .ok (.pop, 1) := by decide +kernel
theorem dX5_tellForced_20 : decode cX5_tellForced 20 = .ok (.iconst 1, 1) := by decide +kernel
theorem dX5_tellForced_21 : decode cX5_tellForced 21 = .ok (.ireturn, 1) := by decide +kernel
theorem dX5_tellPattern_0 : decode cX5_tellPattern 0 = .ok (.lconst 0, 1) := by decide +kernel
theorem dX5_tellPattern_1 : decode cX5_tellPattern 1 = .ok (.lstore_n 2, 1) := by decide +kernel
theorem dX5_tellPattern_2 : decode cX5_tellPattern 2 = .ok (.iconst 0, 1) := by decide +kernel
theorem dX5_tellPattern_3 : decode cX5_tellPattern 3 = .ok (.istore 4, 2) := by decide +kernel
theorem dX5_tellPattern_5 : decode cX5_tellPattern 5 = .ok (.iload 4, 2) := by decide +kernel
theorem dX5_tellPattern_7 : decode cX5_tellPattern 7 = .ok (.iconst 3, 1) := by decide +kernel
theorem dX5_tellPattern_8 : decode cX5_tellPattern 8 = .ok (.if_icmp .ge 40, 3) := by decide +kernel
theorem dX5_tellPattern_11 : decode cX5_tellPattern 11 = .ok (.aload_n 0, 1) := by decide +kernel
theorem dX5_tellPattern_12 : decode cX5_tellPattern 12 = .ok (.invokevirtual 56, 3) := by decide +kernel
theorem dX5_tellPattern_15 : decode cX5_tellPattern 15 = .ok (.ifCond .eq 33, 3) := by decide +kernel
theorem dX5_tellPattern_18 : decode cX5_tellPattern 18 = .ok (.lload_n 2, 1) := by decide +kernel
theorem dX5_tellPattern_19 : decode cX5_tellPattern 19 = .ok (.iload 4, 2) := by decide +kernel
theorem dX5_tellPattern_21 : decode cX5_tellPattern 21 = .ok (.aload_n 0, 1) := by decide +kernel
theorem dX5_tellPattern_22 : decode cX5_tellPattern 22 = .ok (.invokevirtual 41, 3) := by decide +kernel
theorem dX5_tellPattern_25 : decode cX5_tellPattern 25 = .ok (.bipush 97, 2) := by decide +kernel
theorem dX5_tellPattern_27 : decode cX5_tellPattern 27 = .ok (.isub, 1) := by decide +kernel
theorem dX5_tellPattern_28 : decode cX5_tellPattern 28 = .ok (.invokestatic 93, 3) := by decide +kernel
theorem dX5_tellPattern_31 : decode cX5_tellPattern 31 = .ok (.lstore_n 2, 1) := by decide +kernel
theorem dX5_tellPattern_32 : decode cX5_tellPattern 32 = .ok (.aload_n 0, 1) := by decide +kernel
theorem dX5_tellPattern_33 : decode cX5_tellPattern 33 = .ok (.dup, 1) := by decide +kernel
theorem dX5_tellPattern_34 : decode cX5_tellPattern 34 = .ok (.getfield 23, 3) := by decide +kernel
theorem dX5_tellPattern_37 : decode cX5_tellPattern 37 = .ok (.iconst 1, 1) := by decide +kernel
theorem dX5_tellPattern_38 : decode cX5_tellPattern 38 = .ok (.iadd, 1) := by decide +kernel
theorem dX5_tellPattern_39 : decode cX5_tellPattern 39 = .ok (.putfield 23, 3) := by decide +kernel
theorem dX5_tellPattern_42 : decode cX5_tellPattern 42 = .ok (.iinc 4 1, 3) := by decide +kernel
theorem dX5_tellPattern_45 : decode cX5_tellPattern 45 = .ok (.goto (-40), 3) := by decide +kernel
theorem dX5_tellPattern_48 : decode cX5_tellPattern 48 = .ok (.aload_n 0, 1) := by decide +kernel
theorem dX5_tellPattern_49 : decode cX5_tellPattern 49 = .ok (.iconst 1, 1) := by decide +kernel
theorem dX5_tellPattern_50 : decode cX5_tellPattern 50 = .ok (.invokevirtual 110, 3) := by decide +kernel
theorem dX5_tellPattern_53 : decode cX5_tellPattern 53 = .ok (.istore 5, 2) := by decide +kernel
theorem dX5_tellPattern_55 : decode cX5_tellPattern 55 = .ok (.aload_n 0, 1) := by decide +kernel
theorem dX5_tellPattern_56 : decode cX5_tellPattern 56 = .ok (.iconst 1, 1) := by decide +kernel
theorem dX5_tellPattern_57 : decode cX5_tellPattern 57 = .ok (.invokevirtual 110, 3) := by decide +kernel
theorem dX5_tellPattern_60 : decode cX5_tellPattern 60 = .ok (.istore 6, 2) := by decide +kernel
theorem dX5_tellPattern_62 : decode cX5_tellPattern 62 = .ok (.iload 5, 2) := by decide +kernel
theorem dX5_tellPattern_64 : decode cX5_tellPattern 64 = .ok (.iload 4, 2) := by decide +kernel
theorem dX5_tellPattern_66 : decode cX5_tellPattern 66 = .ok (.if_icmp .gt 19, 3) := by decide +kernel
theorem dX5_tellPattern_69 : decode cX5_tellPattern 69 = .ok (.iload 6, 2) := by decide +kernel
theorem dX5_tellPattern_71 : decode cX5_tellPattern 71 = .ok (.iconst 1, 1) := by decide +kernel
theorem dX5_tellPattern_72 : decode cX5_tellPattern 72 = .ok (.if_icmp .lt 13, 3) := by decide +kernel
theorem dX5_tellPattern_75 : decode cX5_tellPattern 75 = .ok (.aload_n 1, 1) := by decide +kernel
theorem dX5_tellPattern_76 : decode cX5_tellPattern 76 = .ok (.lload_n 2, 1) := by decide +kernel
theorem dX5_tellPattern_77 : decode cX5_tellPattern 77 = .ok (.iload 5, 2) := by decide +kernel
theorem dX5_tellPattern_79 : decode cX5_tellPattern 79 = .ok (.invokevirtual 113, 3) := by decide +kernel
theorem dX5_tellPattern_82 : decode cX5_tellPattern 82 = .ok (.ifCond .ne 5, 3) := by decide +kernel
theorem dX5_tellPattern_85 : decode cX5_tellPattern 85 = .ok (.iconst 0, 1) := by decide +kernel
theorem dX5_tellPattern_86 : decode cX5_tellPattern 86 = .ok (.ireturn, 1) := by decide +kernel
theorem dX5_tellPattern_87 : decode cX5_tellPattern 87 = .ok (.aload_n 1, 1) := by decide +kernel
theorem dX5_tellPattern_88 : decode cX5_tellPattern 88 = .ok (.lload_n 2, 1) := by decide +kernel
theorem dX5_tellPattern_89 : decode cX5_tellPattern 89 = .ok (.iload 4, 2) := by decide +kernel
theorem dX5_tellPattern_91 : decode cX5_tellPattern 91 = .ok (.iload 5, 2) := by decide +kernel
theorem dX5_tellPattern_93 : decode cX5_tellPattern 93 = .ok (.iload 6, 2) := by decide +kernel
theorem dX5_tellPattern_95 : decode cX5_tellPattern 95 = .ok (.invokevirtual 119, 3) := by decide +kernel
theorem dX5_tellPattern_98 : decode cX5_tellPattern 98 = .ok (.pop, 1) := by decide +kernel
theorem dX5_tellPattern_99 : decode cX5_tellPattern 99 = .ok (.iconst 1, 1) := by decide +kernel
theorem dX5_tellPattern_100 : decode cX5_tellPattern 100 = .ok (.ireturn, 1) := by decide +kernel
theorem dX5_tellGlue_0 : decode cX5_tellGlue 0 = .ok (.aload_n 0, 1) := by decide +kernel
theorem dX5_tellGlue_1 : decode cX5_tellGlue 1 = .ok (.iconst 1, 1) := by decide +kernel
theorem dX5_tellGlue_2 : decode cX5_tellGlue 2 = .ok (.invokevirtual 110, 3) := by decide +kernel
theorem dX5_tellGlue_5 : decode cX5_tellGlue 5 = .ok (.istore_n 2, 1) := by decide +kernel
theorem dX5_tellGlue_6 : decode cX5_tellGlue 6 = .ok (.aload_n 0, 1) := by decide +kernel
theorem dX5_tellGlue_7 : decode cX5_tellGlue 7 = .ok (.iconst 1, 1) := by decide +kernel
theorem dX5_tellGlue_8 : decode cX5_tellGlue 8 = .ok (.invokevirtual 110, 3) := by decide +kernel
theorem dX5_tellGlue_11 : decode cX5_tellGlue 11 = .ok (.istore_n 3, 1) := by decide +kernel
theorem dX5_tellGlue_12 : decode cX5_tellGlue 12 = .ok (.aload_n 0, 1) := by decide +kernel
theorem dX5_tellGlue_13 : decode cX5_tellGlue 13 = .ok (.iconst 1, 1) := by decide +kernel
theorem dX5_tellGlue_14 : decode cX5_tellGlue 14 = .ok (.invokevirtual 110, 3) := by decide +kernel
theorem dX5_tellGlue_17 : decode cX5_tellGlue 17 = .ok (.istore 4, 2) := by decide +kernel
theorem dX5_tellGlue_19 : decode cX5_tellGlue 19 = .ok (.iload_n 2, 1) := by decide +kernel
theorem dX5_tellGlue_20 : decode cX5_tellGlue 20 = .ok (.iload_n 3, 1) := by decide +kernel
theorem dX5_tellGlue_21 : decode cX5_tellGlue 21 = .ok (.iload 4, 2) := by decide +kernel
theorem dX5_tellGlue_23 : decode cX5_tellGlue 23 = .ok (.invokestatic 123, 3) := by decide +kernel
theorem dX5_tellGlue_26 : decode cX5_tellGlue 26 = .ok (.ifCond .eq 5, 3) := by decide +kernel
theorem dX5_tellGlue_29 : decode cX5_tellGlue 29 = .ok (.iconst 0, 1) := by decide +kernel
theorem dX5_tellGlue_30 : decode cX5_tellGlue 30 = .ok (.ireturn, 1) := by decide +kernel
theorem dX5_tellGlue_31 : decode cX5_tellGlue 31 = .ok (.aload_n 1, 1) := by decide +kernel
theorem dX5_tellGlue_32 : decode cX5_tellGlue 32 = .ok (.iload_n 2, 1) := by decide +kernel
theorem dX5_tellGlue_33 : decode cX5_tellGlue 33 = .ok (.iload_n 3, 1) := by decide +kernel
theorem dX5_tellGlue_34 : decode cX5_tellGlue 34 = .ok (.iload 4, 2) := by decide +kernel
theorem dX5_tellGlue_36 : decode cX5_tellGlue 36 = .ok (.invokevirtual 127, 3) := by decide +kernel
theorem dX5_tellGlue_39 : decode cX5_tellGlue 39 = .ok (.iconst 1, 1) := by decide +kernel
theorem dX5_tellGlue_40 : decode cX5_tellGlue 40 = .ok (.ireturn, 1) := by decide +kernel
theorem dX5_tellKind_0 : decode cX5_tellKind 0 = .ok (.aload_n 0, 1) := by decide +kernel
theorem dX5_tellKind_1 : decode cX5_tellKind 1 = .ok (.iconst 1, 1) := by decide +kernel
theorem dX5_tellKind_2 : decode cX5_tellKind 2 = .ok (.invokevirtual 110, 3) := by decide +kernel
theorem dX5_tellKind_5 : decode cX5_tellKind 5 = .ok (.istore_n 2, 1) := by decide +kernel
theorem dX5_tellKind_6 : decode cX5_tellKind 6 = .ok (.aload_n 0, 1) := by decide +kernel
theorem dX5_tellKind_7 : decode cX5_tellKind 7 = .ok (.iconst 1, 1) := by decide +kernel
theorem dX5_tellKind_8 : decode cX5_tellKind 8 = .ok (.invokevirtual 110, 3) := by decide +kernel
theorem dX5_tellKind_11 : decode cX5_tellKind 11 = .ok (.istore_n 3, 1) := by decide +kernel
theorem dX5_tellKind_12 : decode cX5_tellKind 12 = .ok (.iload_n 2, 1) := by decide +kernel
theorem dX5_tellKind_13 : decode cX5_tellKind 13 = .ok (.bipush 6, 2) := by decide +kernel
theorem dX5_tellKind_15 : decode cX5_tellKind 15 = .ok (.invokestatic 131, 3) := by decide +kernel
theorem dX5_tellKind_18 : decode cX5_tellKind 18 = .ok (.ifCond .eq 5, 3) := by decide +kernel
theorem dX5_tellKind_21 : decode cX5_tellKind 21 = .ok (.iconst 0, 1) := by decide +kernel
theorem dX5_tellKind_22 : decode cX5_tellKind 22 = .ok (.ireturn, 1) := by decide +kernel
theorem dX5_tellKind_23 : decode cX5_tellKind 23 = .ok (.aload_n 1, 1) := by decide +kernel
theorem dX5_tellKind_24 : decode cX5_tellKind 24 = .ok (.iload_n 2, 1) := by decide +kernel
theorem dX5_tellKind_25 : decode cX5_tellKind 25 = .ok (.putfield 135, 3) := by decide +kernel
theorem dX5_tellKind_28 : decode cX5_tellKind 28 = .ok (.aload_n 1, 1) := by decide +kernel
theorem dX5_tellKind_29 : decode cX5_tellKind 29 = .ok (.iload_n 3, 1) := by decide +kernel
theorem dX5_tellKind_30 : decode cX5_tellKind 30 = .ok (.putfield 138, 3) := by decide +kernel
theorem dX5_tellKind_33 : decode cX5_tellKind 33 = .ok (.iconst 1, 1) := by decide +kernel
theorem dX5_tellKind_34 : decode cX5_tellKind 34 = .ok (.ireturn, 1) := by decide +kernel
theorem dX5_tellNumber_0 : decode cX5_tellNumber 0 = .ok (.aload_n 0, 1) := by decide +kernel
theorem dX5_tellNumber_1 : decode cX5_tellNumber 1 = .ok (.iload_n 1, 1) := by decide +kernel
theorem dX5_tellNumber_2 : decode cX5_tellNumber 2 = .ok (.invokestatic 45, 3) := by decide +kernel
theorem dX5_tellNumber_5 : decode cX5_tellNumber 5 = .ok (.invokevirtual 110, 3) := by decide +kernel
theorem dX5_tellNumber_8 : decode cX5_tellNumber 8 = .ok (.istore_n 3, 1) := by decide +kernel
theorem dX5_tellNumber_9 : decode cX5_tellNumber 9 = .ok (.iload_n 1, 1) := by decide +kernel
theorem dX5_tellNumber_10 : decode cX5_tellNumber 10 = .ok (.tableswitch 142 104 116 #[109, 142, 142, 142, 66, 123, 142, 116, 142, 142, 142, 142, 88], 66) := by decide +kernel
theorem dX5_tellNumber_76 : decode cX5_tellNumber 76 = .ok (.aload_n 2, 1) := by decide +kernel
theorem dX5_tellNumber_77 : decode cX5_tellNumber 77 = .ok (.iload_n 3, 1) := by decide +kernel
theorem dX5_tellNumber_78 : decode cX5_tellNumber 78 = .ok (.putfield 141, 3) := by decide +kernel
theorem dX5_tellNumber_81 : decode cX5_tellNumber 81 = .ok (.iload_n 3, 1) := by decide +kernel
theorem dX5_tellNumber_82 : decode cX5_tellNumber 82 = .ok (.bipush 10, 2) := by decide +kernel
theorem dX5_tellNumber_84 : decode cX5_tellNumber 84 = .ok (.bipush 60, 2) := by decide +kernel
theorem dX5_tellNumber_86 : decode cX5_tellNumber 86 = .ok (.invokestatic 144, 3) := by decide +kernel
theorem dX5_tellNumber_89 : decode cX5_tellNumber 89 = .ok (.ifCond .ne 7, 3) := by decide +kernel
theorem dX5_tellNumber_92 : decode cX5_tellNumber 92 = .ok (.iconst 1, 1) := by decide +kernel
theorem dX5_tellNumber_93 : decode cX5_tellNumber 93 = .ok (.goto 4, 3) := by decide +kernel
theorem dX5_tellNumber_96 : decode cX5_tellNumber 96 = .ok (.iconst 0, 1) := by decide +kernel
theorem dX5_tellNumber_97 : decode cX5_tellNumber 97 = .ok (.ireturn, 1) := by decide +kernel
theorem dX5_tellNumber_98 : decode cX5_tellNumber 98 = .ok (.aload_n 2, 1) := by decide +kernel
theorem dX5_tellNumber_99 : decode cX5_tellNumber 99 = .ok (.iload_n 3, 1) := by decide +kernel
theorem dX5_tellNumber_100 : decode cX5_tellNumber 100 = .ok (.putfield 147, 3) := by decide +kernel
theorem dX5_tellNumber_103 : decode cX5_tellNumber 103 = .ok (.iload_n 3, 1) := by decide +kernel
theorem dX5_tellNumber_104 : decode cX5_tellNumber 104 = .ok (.iconst 0, 1) := by decide +kernel
theorem dX5_tellNumber_105 : decode cX5_tellNumber 105 = .ok (.bipush 40, 2) := by decide +kernel
theorem dX5_tellNumber_107 : decode cX5_tellNumber 107 = .ok (.invokestatic 144, 3) := by decide +kernel
theorem dX5_tellNumber_110 : decode cX5_tellNumber 110 = .ok (.ifCond .ne 7, 3) := by decide +kernel
theorem dX5_tellNumber_113 : decode cX5_tellNumber 113 = .ok (.iconst 1, 1) := by decide +kernel
theorem dX5_tellNumber_114 : decode cX5_tellNumber 114 = .ok (.goto 4, 3) := by decide +kernel
theorem dX5_tellNumber_117 : decode cX5_tellNumber 117 = .ok (.iconst 0, 1) := by decide +kernel
theorem dX5_tellNumber_118 : decode cX5_tellNumber 118 = .ok (.ireturn, 1) := by decide +kernel
theorem dX5_tellNumber_119 : decode cX5_tellNumber 119 = .ok (.aload_n 2, 1) := by decide +kernel
theorem dX5_tellNumber_120 : decode cX5_tellNumber 120 = .ok (.iload_n 3, 1) := by decide +kernel
theorem dX5_tellNumber_121 : decode cX5_tellNumber 121 = .ok (.putfield 150, 3) := by decide +kernel
theorem dX5_tellNumber_124 : decode cX5_tellNumber 124 = .ok (.iconst 1, 1) := by decide +kernel
theorem dX5_tellNumber_125 : decode cX5_tellNumber 125 = .ok (.ireturn, 1) := by decide +kernel
theorem dX5_tellNumber_126 : decode cX5_tellNumber 126 = .ok (.aload_n 2, 1) := by decide +kernel
theorem dX5_tellNumber_127 : decode cX5_tellNumber 127 = .ok (.iload_n 3, 1) := by decide +kernel
theorem dX5_tellNumber_128 : decode cX5_tellNumber 128 = .ok (.putfield 153, 3) := by decide +kernel
theorem dX5_tellNumber_131 : decode cX5_tellNumber 131 = .ok (.iconst 1, 1) := by decide +kernel
theorem dX5_tellNumber_132 : decode cX5_tellNumber 132 = .ok (.ireturn, 1) := by decide +kernel
theorem dX5_tellNumber_133 : decode cX5_tellNumber 133 = .ok (.aload_n 2, 1) := by decide +kernel
theorem dX5_tellNumber_134 : decode cX5_tellNumber 134 = .ok (.iload_n 3, 1) := by decide +kernel
theorem dX5_tellNumber_135 : decode cX5_tellNumber 135 = .ok (.putfield 156, 3) := by decide +kernel
theorem dX5_tellNumber_138 : decode cX5_tellNumber 138 = .ok (.iload_n 3, 1) := by decide +kernel
theorem dX5_tellNumber_139 : decode cX5_tellNumber 139 = .ok (.iconst 3, 1) := by decide +kernel
theorem dX5_tellNumber_140 : decode cX5_tellNumber 140 = .ok (.invokestatic 131, 3) := by decide +kernel
theorem dX5_tellNumber_143 : decode cX5_tellNumber 143 = .ok (.ifCond .ne 7, 3) := by decide +kernel
theorem dX5_tellNumber_146 : decode cX5_tellNumber 146 = .ok (.iconst 1, 1) := by decide +kernel
theorem dX5_tellNumber_147 : decode cX5_tellNumber 147 = .ok (.goto 4, 3) := by decide +kernel
theorem dX5_tellNumber_150 : decode cX5_tellNumber 150 = .ok (.iconst 0, 1) := by decide +kernel
theorem dX5_tellNumber_151 : decode cX5_tellNumber 151 = .ok (.ireturn, 1) := by decide +kernel
theorem dX5_tellNumber_152 : decode cX5_tellNumber 152 = .ok (.iconst 0, 1) := by decide +kernel
theorem dX5_tellNumber_153 : decode cX5_tellNumber 153 = .ok (.ireturn, 1) := by decide +kernel
theorem dX5_number_0 : decode cX5_number 0 = .ok (.iconst 0, 1) := by decide +kernel
theorem dX5_number_1 : decode cX5_number 1 = .ok (.istore_n 2, 1) := by decide +kernel
theorem dX5_number_2 : decode cX5_number 2 = .ok (.iconst 0, 1) := by decide +kernel
theorem dX5_number_3 : decode cX5_number 3 = .ok (.istore_n 3, 1) := by decide +kernel
theorem dX5_number_4 : decode cX5_number 4 = .ok (.iload_n 3, 1) := by decide +kernel
theorem dX5_number_5 : decode cX5_number 5 = .ok (.iload_n 1, 1) := by decide +kernel
theorem dX5_number_6 : decode cX5_number 6 = .ok (.if_icmp .ge 32, 3) := by decide +kernel
theorem dX5_number_9 : decode cX5_number 9 = .ok (.bipush 10, 2) := by decide +kernel
theorem dX5_number_11 : decode cX5_number 11 = .ok (.iload_n 2, 1) := by decide +kernel
theorem dX5_number_12 : decode cX5_number 12 = .ok (.imul, 1) := by decide +kernel
theorem dX5_number_13 : decode cX5_number 13 = .ok (.aload_n 0, 1) := by decide +kernel
theorem dX5_number_14 : decode cX5_number 14 = .ok (.invokevirtual 41, 3) := by decide +kernel
theorem dX5_number_17 : decode cX5_number 17 = .ok (.iadd, 1) := by decide +kernel
theorem dX5_number_18 : decode cX5_number 18 = .ok (.bipush 48, 2) := by decide +kernel
theorem dX5_number_20 : decode cX5_number 20 = .ok (.isub, 1) := by decide +kernel
theorem dX5_number_21 : decode cX5_number 21 = .ok (.istore_n 2, 1) := by decide +kernel
theorem dX5_number_22 : decode cX5_number 22 = .ok (.aload_n 0, 1) := by decide +kernel
theorem dX5_number_23 : decode cX5_number 23 = .ok (.dup, 1) := by decide +kernel
theorem dX5_number_24 : decode cX5_number 24 = .ok (.getfield 23, 3) := by decide +kernel
theorem dX5_number_27 : decode cX5_number 27 = .ok (.iconst 1, 1) := by decide +kernel
theorem dX5_number_28 : decode cX5_number 28 = .ok (.iadd, 1) := by decide +kernel
theorem dX5_number_29 : decode cX5_number 29 = .ok (.putfield 23, 3) := by decide +kernel
theorem dX5_number_32 : decode cX5_number 32 = .ok (.iinc 3 1, 3) := by decide +kernel
theorem dX5_number_35 : decode cX5_number 35 = .ok (.goto (-31), 3) := by decide +kernel
theorem dX5_number_38 : decode cX5_number 38 = .ok (.iload_n 2, 1) := by decide +kernel
theorem dX5_number_39 : decode cX5_number 39 = .ok (.ireturn, 1) := by decide +kernel
theorem dX6_init_0 : decode cX6_init 0 = .ok (.aload_n 0, 1) := by decide +kernel
theorem dX6_init_1 : decode cX6_init 1 = .ok (.invokespecial 3, 3) := by decide +kernel
theorem dX6_init_4 : decode cX6_init 4 = .ok (.aload_n 0, 1) := by decide +kernel
theorem dX6_init_5 : decode cX6_init 5 = .ok (.new 9, 3) := by decide +kernel
theorem dX6_init_8 : decode cX6_init 8 = .ok (.dup, 1) := by decide +kernel
theorem dX6_init_9 : decode cX6_init 9 = .ok (.invokespecial 11, 3) := by decide +kernel
theorem dX6_init_12 : decode cX6_init 12 = .ok (.putfield 12, 3) := by decide +kernel
theorem dX6_init_15 : decode cX6_init 15 = .ok (.aload_n 0, 1) := by decide +kernel
theorem dX6_init_16 : decode cX6_init 16 = .ok (.aload_n 0, 1) := by decide +kernel
theorem dX6_init_17 : decode cX6_init 17 = .ok (.getfield 12, 3) := by decide +kernel
theorem dX6_init_20 : decode cX6_init 20 = .ok (.getfield 18, 3) := by decide +kernel
theorem dX6_init_23 : decode cX6_init 23 = .ok (.putfield 22, 3) := by decide +kernel
theorem dX6_init_26 : decode cX6_init 26 = .ok (.aload_n 0, 1) := by decide +kernel
theorem dX6_init_27 : decode cX6_init 27 = .ok (.sipush 192, 3) := by decide +kernel
theorem dX6_init_30 : decode cX6_init 30 = .ok (.newarray .int, 2) := by decide +kernel
theorem dX6_init_32 : decode cX6_init 32 = .ok (.putfield 23, 3) := by decide +kernel
theorem dX6_init_35 : decode cX6_init 35 = .ok (.aload_n 0, 1) := by decide +kernel
theorem dX6_init_36 : decode cX6_init 36 = .ok (.sipush 193, 3) := by decide +kernel
theorem dX6_init_39 : decode cX6_init 39 = .ok (.newarray .float, 2) := by decide +kernel
theorem dX6_init_41 : decode cX6_init 41 = .ok (.putfield 27, 3) := by decide +kernel
theorem dX6_init_44 : decode cX6_init 44 = .ok (.aload_n 0, 1) := by decide +kernel
theorem dX6_init_45 : decode cX6_init 45 = .ok (.sipush 193, 3) := by decide +kernel
theorem dX6_init_48 : decode cX6_init 48 = .ok (.newarray .float, 2) := by decide +kernel
theorem dX6_init_50 : decode cX6_init 50 = .ok (.putfield 31, 3) := by decide +kernel
theorem dX6_init_53 : decode cX6_init 53 = .ok (.aload_n 0, 1) := by decide +kernel
theorem dX6_init_54 : decode cX6_init 54 = .ok (.sipush 193, 3) := by decide +kernel
theorem dX6_init_57 : decode cX6_init 57 = .ok (.newarray .float, 2) := by decide +kernel
theorem dX6_init_59 : decode cX6_init 59 = .ok (.putfield 34, 3) := by decide +kernel
theorem dX6_init_62 : decode cX6_init 62 = .ok (.aload_n 0, 1) := by decide +kernel
theorem dX6_init_63 : decode cX6_init 63 = .ok (.sipush 193, 3) := by decide +kernel
theorem dX6_init_66 : decode cX6_init 66 = .ok (.newarray .int, 2) := by decide +kernel
theorem dX6_init_68 : decode cX6_init 68 = .ok (.putfield 37, 3) := by decide +kernel
theorem dX6_init_71 : decode cX6_init 71 = .ok (.return_, 1) := by decide +kernel
theorem dX6_set_0 : decode cX6_set 0 = .ok (.aload_n 0, 1) := by decide +kernel
theorem dX6_set_1 : decode cX6_set 1 = .ok (.getfield 22, 3) := by decide +kernel
theorem dX6_set_4 : decode cX6_set 4 = .ok (.aload_n 1, 1) := by decide +kernel
theorem dX6_set_5 : decode cX6_set 5 = .ok (.iload_n 2, 1) := by decide +kernel
theorem dX6_set_6 : decode cX6_set 6 = .ok (.invokevirtual 40, 3) := by decide +kernel
theorem dX6_set_9 : decode cX6_set 9 = .ok (.aload_n 0, 1) := by decide +kernel
theorem dX6_set_10 : decode cX6_set 10 = .ok (.aload_n 1, 1) := by decide +kernel
theorem dX6_set_11 : decode cX6_set 11 = .ok (.invokevirtual 46, 3) := by decide +kernel
theorem dX6_set_14 : decode cX6_set 14 = .ok (.ireturn, 1) := by decide +kernel
theorem dX6_solve_0 : decode cX6_solve 0 = .ok (.aload_n 0, 1) := by decide +kernel
theorem dX6_solve_1 : decode cX6_solve 1 = .ok (.getfield 12, 3) := by decide +kernel
theorem dX6_solve_4 : decode cX6_solve 4 = .ok (.aload_n 1, 1) := by decide +kernel
theorem dX6_solve_5 : decode cX6_solve 5 = .ok (.invokevirtual 50, 3) := by decide +kernel
theorem dX6_solve_8 : decode cX6_solve 8 = .ok (.aload_n 0, 1) := by decide +kernel
theorem dX6_solve_9 : decode cX6_solve 9 = .ok (.getfield 27, 3) := by decide +kernel
theorem dX6_solve_12 : decode cX6_solve 12 = .ok (.invokestatic 54, 3) := by decide +kernel
theorem dX6_solve_15 : decode cX6_solve 15 = .ok (.iconst 0, 1) := by decide +kernel
theorem dX6_solve_16 : decode cX6_solve 16 = .ok (.istore_n 2, 1) := by decide +kernel
theorem dX6_solve_17 : decode cX6_solve 17 = .ok (.iload_n 2, 1) := by decide +kernel
theorem dX6_solve_18 : decode cX6_solve 18 = .ok (.aload_n 0, 1) := by decide +kernel
theorem dX6_solve_19 : decode cX6_solve 19 = .ok (.getfield 22, 3) := by decide +kernel
theorem dX6_solve_22 : decode cX6_solve 22 = .ok (.getfield 58, 3) := by decide +kernel
theorem dX6_solve_25 : decode cX6_solve 25 = .ok (.if_icmp .ge 22, 3) := by decide +kernel
theorem dX6_solve_28 : decode cX6_solve 28 = .ok (.aload_n 0, 1) := by decide +kernel
theorem dX6_solve_29 : decode cX6_solve 29 = .ok (.iload_n 2, 1) := by decide +kernel
theorem dX6_solve_30 : decode cX6_solve 30 = .ok (.aload_n 0, 1) := by decide +kernel
theorem dX6_solve_31 : decode cX6_solve 31 = .ok (.getfield 27, 3) := by decide +kernel
theorem dX6_solve_34 : decode cX6_solve 34 = .ok (.aload_n 0, 1) := by decide +kernel
theorem dX6_solve_35 : decode cX6_solve 35 = .ok (.getfield 27, 3) := by decide +kernel
theorem dX6_solve_38 : decode cX6_solve 38 = .ok (.invokevirtual 62, 3) := by decide +kernel
theorem dX6_solve_41 : decode cX6_solve 41 = .ok (.iinc 2 1, 3) := by decide +kernel
theorem dX6_solve_44 : decode cX6_solve 44 = .ok (.goto (-27), 3) := by decide +kernel
theorem dX6_solve_47 : decode cX6_solve 47 = .ok (.aload_n 0, 1) := by decide +kernel
theorem dX6_solve_48 : decode cX6_solve 48 = .ok (.iconst 0, 1) := by decide +kernel
theorem dX6_solve_49 : decode cX6_solve 49 = .ok (.putfield 66, 3) := by decide +kernel
theorem dX6_solve_52 : decode cX6_solve 52 = .ok (.aload_n 0, 1) := by decide +kernel
theorem dX6_solve_53 : decode cX6_solve 53 = .ok (.invokevirtual 67, 3) := by decide +kernel
theorem dX6_solve_56 : decode cX6_solve 56 = .ok (.fconst 0, 1) := by decide +kernel
theorem dX6_solve_57 : decode cX6_solve 57 = .ok (.fcmp .g, 1) := by decide +kernel
theorem dX6_solve_58 : decode cX6_solve 58 = .ok (.ifCond .ge 6, 3) := by decide +kernel
theorem dX6_solve_61 : decode cX6_solve 61 = .ok (.bipush (-9), 2) := by decide +kernel
theorem dX6_solve_63 : decode cX6_solve 63 = .ok (.ireturn, 1) := by decide +kernel
theorem dX6_solve_64 : decode cX6_solve 64 = .ok (.aload_n 0, 1) := by decide +kernel
theorem dX6_solve_65 : decode cX6_solve 65 = .ok (.invokevirtual 71, 3) := by decide +kernel
theorem dX6_solve_68 : decode cX6_solve 68 = .ok (.aload_n 0, 1) := by decide +kernel
theorem dX6_solve_69 : decode cX6_solve 69 = .ok (.getfield 66, 3) := by decide +kernel
theorem dX6_solve_72 : decode cX6_solve 72 = .ok (.ireturn, 1) := by decide +kernel
theorem dX6_leastTotal_0 : decode cX6_leastTotal 0 = .ok (.aload_n 0, 1) := by decide +kernel
theorem dX6_leastTotal_1 : decode cX6_leastTotal 1 = .ok (.getfield 27, 3) := by decide +kernel
theorem dX6_leastTotal_4 : decode cX6_leastTotal 4 = .ok (.aload_n 0, 1) := by decide +kernel
theorem dX6_leastTotal_5 : decode cX6_leastTotal 5 = .ok (.getfield 22, 3) := by decide +kernel
theorem dX6_leastTotal_8 : decode cX6_leastTotal 8 = .ok (.getfield 58, 3) := by decide +kernel
theorem dX6_leastTotal_11 : decode cX6_leastTotal 11 = .ok (.invokestatic 74, 3) := by decide +kernel
theorem dX6_leastTotal_14 : decode cX6_leastTotal 14 = .ok (.freturn, 1) := by decide +kernel
theorem dX6_totalBy_0 : decode cX6_totalBy 0 = .ok (.aload_n 0, 1) := by decide +kernel
theorem dX6_totalBy_1 : decode cX6_totalBy 1 = .ok (.getfield 12, 3) := by decide +kernel
theorem dX6_totalBy_4 : decode cX6_totalBy 4 = .ok (.aload_n 1, 1) := by decide +kernel
theorem dX6_totalBy_5 : decode cX6_totalBy 5 = .ok (.invokevirtual 50, 3) := by decide +kernel
theorem dX6_totalBy_8 : decode cX6_totalBy 8 = .ok (.aload_n 0, 1) := by decide +kernel
theorem dX6_totalBy_9 : decode cX6_totalBy 9 = .ok (.getfield 31, 3) := by decide +kernel
theorem dX6_totalBy_12 : decode cX6_totalBy 12 = .ok (.invokestatic 54, 3) := by decide +kernel
theorem dX6_totalBy_15 : decode cX6_totalBy 15 = .ok (.iconst 0, 1) := by decide +kernel
theorem dX6_totalBy_16 : decode cX6_totalBy 16 = .ok (.istore_n 3, 1) := by decide +kernel
theorem dX6_totalBy_17 : decode cX6_totalBy 17 = .ok (.iload_n 3, 1) := by decide +kernel
theorem dX6_totalBy_18 : decode cX6_totalBy 18 = .ok (.iload_n 2, 1) := by decide +kernel
theorem dX6_totalBy_19 : decode cX6_totalBy 19 = .ok (.if_icmp .ge 79, 3) := by decide +kernel
theorem dX6_totalBy_22 : decode cX6_totalBy 22 = .ok (.aload_n 0, 1) := by decide +kernel
theorem dX6_totalBy_23 : decode cX6_totalBy 23 = .ok (.getfield 34, 3) := by decide +kernel
theorem dX6_totalBy_26 : decode cX6_totalBy 26 = .ok (.ldc 78, 2) := by decide +kernel
theorem dX6_totalBy_28 : decode cX6_totalBy 28 = .ok (.invokestatic 79, 3) := by decide +kernel
theorem dX6_totalBy_31 : decode cX6_totalBy 31 = .ok (.iconst 0, 1) := by decide +kernel
theorem dX6_totalBy_32 : decode cX6_totalBy 32 = .ok (.istore 4, 2) := by decide +kernel
theorem dX6_totalBy_34 : decode cX6_totalBy 34 = .ok (.iload 4, 2) := by decide +kernel
theorem dX6_totalBy_36 : decode cX6_totalBy 36 = .ok (.aload_n 0, 1) := by decide +kernel
theorem dX6_totalBy_37 : decode cX6_totalBy 37 = .ok (.getfield 22, 3) := by decide +kernel
theorem dX6_totalBy_40 : decode cX6_totalBy 40 = .ok (.getfield 58, 3) := by decide +kernel
theorem dX6_totalBy_43 : decode cX6_totalBy 43 = .ok (.if_icmp .ge 23, 3) := by decide +kernel
theorem dX6_totalBy_46 : decode cX6_totalBy 46 = .ok (.aload_n 0, 1) := by decide +kernel
theorem dX6_totalBy_47 : decode cX6_totalBy 47 = .ok (.iload 4, 2) := by decide +kernel
theorem dX6_totalBy_49 : decode cX6_totalBy 49 = .ok (.aload_n 0, 1) := by decide +kernel
theorem dX6_totalBy_50 : decode cX6_totalBy 50 = .ok (.getfield 31, 3) := by decide +kernel
theorem dX6_totalBy_53 : decode cX6_totalBy 53 = .ok (.aload_n 0, 1) := by decide +kernel
theorem dX6_totalBy_54 : decode cX6_totalBy 54 = .ok (.getfield 34, 3) := by decide +kernel
theorem dX6_totalBy_57 : decode cX6_totalBy 57 = .ok (.invokevirtual 62, 3) := by decide +kernel
theorem dX6_totalBy_60 : decode cX6_totalBy 60 = .ok (.iinc 4 1, 3) := by decide +kernel
theorem dX6_totalBy_63 : decode cX6_totalBy 63 = .ok (.goto (-29), 3) := by decide +kernel
theorem dX6_totalBy_66 : decode cX6_totalBy 66 = .ok (.aload_n 0, 1) := by decide +kernel
theorem dX6_totalBy_67 : decode cX6_totalBy 67 = .ok (.getfield 34, 3) := by decide +kernel
theorem dX6_totalBy_70 : decode cX6_totalBy 70 = .ok (.iconst 0, 1) := by decide +kernel
theorem dX6_totalBy_71 : decode cX6_totalBy 71 = .ok (.aload_n 0, 1) := by decide +kernel
theorem dX6_totalBy_72 : decode cX6_totalBy 72 = .ok (.getfield 31, 3) := by decide +kernel
theorem dX6_totalBy_75 : decode cX6_totalBy 75 = .ok (.iconst 0, 1) := by decide +kernel
theorem dX6_totalBy_76 : decode cX6_totalBy 76 = .ok (.aload_n 0, 1) := by decide +kernel
theorem dX6_totalBy_77 : decode cX6_totalBy 77 = .ok (.getfield 34, 3) := by decide +kernel
theorem dX6_totalBy_80 : decode cX6_totalBy 80 = .ok (.arraylength, 1) := by decide +kernel
theorem dX6_totalBy_81 : decode cX6_totalBy 81 = .ok (.aload_n 0, 1) := by decide +kernel
theorem dX6_totalBy_82 : decode cX6_totalBy 82 = .ok (.getfield 31, 3) := by decide +kernel
theorem dX6_totalBy_85 : decode cX6_totalBy 85 = .ok (.arraylength, 1) := by decide +kernel
theorem dX6_totalBy_86 : decode cX6_totalBy 86 = .ok (.invokestatic 85, 3) := by decide +kernel
theorem dX6_totalBy_89 : decode cX6_totalBy 89 = .ok (.invokestatic 91, 3) := by decide +kernel
theorem dX6_totalBy_92 : decode cX6_totalBy 92 = .ok (.iinc 3 1, 3) := by decide +kernel
theorem dX6_totalBy_95 : decode cX6_totalBy 95 = .ok (.goto (-78), 3) := by decide +kernel
theorem dX6_totalBy_98 : decode cX6_totalBy 98 = .ok (.aload_n 0, 1) := by decide +kernel
theorem dX6_totalBy_99 : decode cX6_totalBy 99 = .ok (.getfield 31, 3) := by decide +kernel
theorem dX6_totalBy_102 : decode cX6_totalBy 102 = .ok (.aload_n 0, 1) := by decide +kernel
theorem dX6_totalBy_103 : decode cX6_totalBy 103 = .ok (.getfield 22, 3) := by decide +kernel
theorem dX6_totalBy_106 : decode cX6_totalBy 106 = .ok (.getfield 58, 3) := by decide +kernel
theorem dX6_totalBy_109 : decode cX6_totalBy 109 = .ok (.invokestatic 74, 3) := by decide +kernel
theorem dX6_totalBy_112 : decode cX6_totalBy 112 = .ok (.freturn, 1) := by decide +kernel
theorem dX6_greedyLines_0 : decode cX6_greedyLines 0 = .ok (.aload_n 0, 1) := by decide +kernel
theorem dX6_greedyLines_1 : decode cX6_greedyLines 1 = .ok (.getfield 12, 3) := by decide +kernel
theorem dX6_greedyLines_4 : decode cX6_greedyLines 4 = .ok (.aload_n 1, 1) := by decide +kernel
theorem dX6_greedyLines_5 : decode cX6_greedyLines 5 = .ok (.invokevirtual 50, 3) := by decide +kernel
theorem dX6_greedyLines_8 : decode cX6_greedyLines 8 = .ok (.iconst 0, 1) := by decide +kernel
theorem dX6_greedyLines_9 : decode cX6_greedyLines 9 = .ok (.istore_n 2, 1) := by decide +kernel
theorem dX6_greedyLines_10 : decode cX6_greedyLines 10 = .ok (.iconst 0, 1) := by decide +kernel
theorem dX6_greedyLines_11 : decode cX6_greedyLines 11 = .ok (.istore_n 3, 1) := by decide +kernel
theorem dX6_greedyLines_12 : decode cX6_greedyLines 12 = .ok (.iload_n 3, 1) := by decide +kernel
theorem dX6_greedyLines_13 : decode cX6_greedyLines 13 = .ok (.sipush 192, 3) := by decide +kernel
theorem dX6_greedyLines_16 : decode cX6_greedyLines 16 = .ok (.if_icmp .ge 33, 3) := by decide +kernel
theorem dX6_greedyLines_19 : decode cX6_greedyLines 19 = .ok (.iload_n 2, 1) := by decide +kernel
theorem dX6_greedyLines_20 : decode cX6_greedyLines 20 = .ok (.aload_n 0, 1) := by decide +kernel
theorem dX6_greedyLines_21 : decode cX6_greedyLines 21 = .ok (.getfield 22, 3) := by decide +kernel
theorem dX6_greedyLines_24 : decode cX6_greedyLines 24 = .ok (.getfield 58, 3) := by decide +kernel
theorem dX6_greedyLines_27 : decode cX6_greedyLines 27 = .ok (.if_icmp .ge 22, 3) := by decide +kernel
theorem dX6_greedyLines_30 : decode cX6_greedyLines 30 = .ok (.aload_n 0, 1) := by decide +kernel
theorem dX6_greedyLines_31 : decode cX6_greedyLines 31 = .ok (.iload_n 2, 1) := by decide +kernel
theorem dX6_greedyLines_32 : decode cX6_greedyLines 32 = .ok (.invokevirtual 97, 3) := by decide +kernel
theorem dX6_greedyLines_35 : decode cX6_greedyLines 35 = .ok (.istore_n 2, 1) := by decide +kernel
theorem dX6_greedyLines_36 : decode cX6_greedyLines 36 = .ok (.iload_n 2, 1) := by decide +kernel
theorem dX6_greedyLines_37 : decode cX6_greedyLines 37 = .ok (.ifCond .ge 6, 3) := by decide +kernel
theorem dX6_greedyLines_40 : decode cX6_greedyLines 40 = .ok (.bipush (-9), 2) := by decide +kernel
theorem dX6_greedyLines_42 : decode cX6_greedyLines 42 = .ok (.ireturn, 1) := by decide +kernel
theorem dX6_greedyLines_43 : decode cX6_greedyLines 43 = .ok (.iinc 3 1, 3) := by decide +kernel
theorem dX6_greedyLines_46 : decode cX6_greedyLines 46 = .ok (.goto (-34), 3) := by decide +kernel
theorem dX6_greedyLines_49 : decode cX6_greedyLines 49 = .ok (.iload_n 3, 1) := by decide +kernel
theorem dX6_greedyLines_50 : decode cX6_greedyLines 50 = .ok (.ireturn, 1) := by decide +kernel
theorem dX6_show_0 : decode cX6_show 0 = .ok (.iload_n 1, 1) := by decide +kernel
theorem dX6_show_1 : decode cX6_show 1 = .ok (.iconst 1, 1) := by decide +kernel
theorem dX6_show_2 : decode cX6_show 2 = .ok (.iadd, 1) := by decide +kernel
theorem dX6_show_3 : decode cX6_show 3 = .ok (.aload_n 0, 1) := by decide +kernel
theorem dX6_show_4 : decode cX6_show 4 = .ok (.getfield 66, 3) := by decide +kernel
theorem dX6_show_7 : decode cX6_show 7 = .ok (.if_icmp .ge 16, 3) := by decide +kernel
theorem dX6_show_10 : decode cX6_show 10 = .ok (.aload_n 0, 1) := by decide +kernel
theorem dX6_show_11 : decode cX6_show 11 = .ok (.getfield 23, 3) := by decide +kernel
theorem dX6_show_14 : decode cX6_show 14 = .ok (.iload_n 1, 1) := by decide +kernel
theorem dX6_show_15 : decode cX6_show 15 = .ok (.iconst 1, 1) := by decide +kernel
theorem dX6_show_16 : decode cX6_show 16 = .ok (.iadd, 1) := by decide +kernel
theorem dX6_show_17 : decode cX6_show 17 = .ok (.invokestatic 101, 3) := by decide +kernel
theorem dX6_show_20 : decode cX6_show 20 = .ok (.goto 10, 3) := by decide +kernel
theorem dX6_show_23 : decode cX6_show 23 = .ok (.aload_n 0, 1) := by decide +kernel
theorem dX6_show_24 : decode cX6_show 24 = .ok (.getfield 22, 3) := by decide +kernel
theorem dX6_show_27 : decode cX6_show 27 = .ok (.getfield 58, 3) := by decide +kernel
theorem dX6_show_30 : decode cX6_show 30 = .ok (.istore_n 2, 1) := by decide +kernel
theorem dX6_show_31 : decode cX6_show 31 = .ok (.aload_n 0, 1) := by decide +kernel
theorem dX6_show_32 : decode cX6_show 32 = .ok (.getfield 12, 3) := by decide +kernel
theorem dX6_show_35 : decode cX6_show 35 = .ok (.aload_n 0, 1) := by decide +kernel
theorem dX6_show_36 : decode cX6_show 36 = .ok (.getfield 23, 3) := by decide +kernel
theorem dX6_show_39 : decode cX6_show 39 = .ok (.iload_n 1, 1) := by decide +kernel
theorem dX6_show_40 : decode cX6_show 40 = .ok (.invokestatic 101, 3) := by decide +kernel
theorem dX6_show_43 : decode cX6_show 43 = .ok (.invokevirtual 105, 3) := by decide +kernel
theorem dX6_show_46 : decode cX6_show 46 = .ok (.aload_n 0, 1) := by decide +kernel
theorem dX6_show_47 : decode cX6_show 47 = .ok (.getfield 12, 3) := by decide +kernel
theorem dX6_show_50 : decode cX6_show 50 = .ok (.getfield 109, 3) := by decide +kernel
theorem dX6_show_53 : decode cX6_show 53 = .ok (.istore_n 3, 1) := by decide +kernel
theorem dX6_show_54 : decode cX6_show 54 = .ok (.iload_n 3, 1) := by decide +kernel
theorem dX6_show_55 : decode cX6_show 55 = .ok (.iload_n 2, 1) := by decide +kernel
theorem dX6_show_56 : decode cX6_show 56 = .ok (.if_icmp .ge 16, 3) := by decide +kernel
theorem dX6_show_59 : decode cX6_show 59 = .ok (.aload_n 0, 1) := by decide +kernel
theorem dX6_show_60 : decode cX6_show 60 = .ok (.getfield 12, 3) := by decide +kernel
theorem dX6_show_63 : decode cX6_show 63 = .ok (.invokevirtual 112, 3) := by decide +kernel
theorem dX6_show_66 : decode cX6_show 66 = .ok (.iinc 3 1, 3) := by decide +kernel
theorem dX6_show_69 : decode cX6_show 69 = .ok (.goto (-15), 3) := by decide +kernel
theorem dX6_show_72 : decode cX6_show 72 = .ok (.return_, 1) := by decide +kernel
theorem dX6_hyphenedLines_0 : decode cX6_hyphenedLines 0 = .ok (.iconst 0, 1) := by decide +kernel
theorem dX6_hyphenedLines_1 : decode cX6_hyphenedLines 1 = .ok (.istore_n 1, 1) := by decide +kernel
theorem dX6_hyphenedLines_2 : decode cX6_hyphenedLines 2 = .ok (.iconst 0, 1) := by decide +kernel
theorem dX6_hyphenedLines_3 : decode cX6_hyphenedLines 3 = .ok (.istore_n 2, 1) := by decide +kernel
theorem dX6_hyphenedLines_4 : decode cX6_hyphenedLines 4 = .ok (.iload_n 2, 1) := by decide +kernel
theorem dX6_hyphenedLines_5 : decode cX6_hyphenedLines 5 = .ok (.aload_n 0, 1) := by decide +kernel
theorem dX6_hyphenedLines_6 : decode cX6_hyphenedLines 6 = .ok (.getfield 66, 3) := by decide +kernel
theorem dX6_hyphenedLines_9 : decode cX6_hyphenedLines 9 = .ok (.if_icmp .ge 28, 3) := by decide +kernel
theorem dX6_hyphenedLines_12 : decode cX6_hyphenedLines 12 = .ok (.aload_n 0, 1) := by decide +kernel
theorem dX6_hyphenedLines_13 : decode cX6_hyphenedLines 13 = .ok (.iload_n 2, 1) := by decide +kernel
theorem dX6_hyphenedLines_14 : decode cX6_hyphenedLines 14 = .ok (.invokevirtual 115, 3) := by decide +kernel
theorem dX6_hyphenedLines_17 : decode cX6_hyphenedLines 17 = .ok (.aload_n 0, 1) := by decide +kernel
theorem dX6_hyphenedLines_18 : decode cX6_hyphenedLines 18 = .ok (.getfield 12, 3) := by decide +kernel
theorem dX6_hyphenedLines_21 : decode cX6_hyphenedLines 21 = .ok (.getfield 118, 3) := by decide +kernel
theorem dX6_hyphenedLines_24 : decode cX6_hyphenedLines 24 = .ok (.iconst 1, 1) := by decide +kernel
theorem dX6_hyphenedLines_25 : decode cX6_hyphenedLines 25 = .ok (.if_icmp .ne 6, 3) := by decide +kernel
theorem dX6_hyphenedLines_28 : decode cX6_hyphenedLines 28 = .ok (.iinc 1 1, 3) := by decide +kernel
theorem dX6_hyphenedLines_31 : decode cX6_hyphenedLines 31 = .ok (.iinc 2 1, 3) := by decide +kernel
theorem dX6_hyphenedLines_34 : decode cX6_hyphenedLines 34 = .ok (.goto (-30), 3) := by decide +kernel
theorem dX6_hyphenedLines_37 : decode cX6_hyphenedLines 37 = .ok (.iload_n 1, 1) := by decide +kernel
theorem dX6_hyphenedLines_38 : decode cX6_hyphenedLines 38 = .ok (.ireturn, 1) := by decide +kernel
theorem dX6_widowLines_0 : decode cX6_widowLines 0 = .ok (.iconst 0, 1) := by decide +kernel
theorem dX6_widowLines_1 : decode cX6_widowLines 1 = .ok (.istore_n 1, 1) := by decide +kernel
theorem dX6_widowLines_2 : decode cX6_widowLines 2 = .ok (.iconst 0, 1) := by decide +kernel
theorem dX6_widowLines_3 : decode cX6_widowLines 3 = .ok (.istore_n 2, 1) := by decide +kernel
theorem dX6_widowLines_4 : decode cX6_widowLines 4 = .ok (.iload_n 2, 1) := by decide +kernel
theorem dX6_widowLines_5 : decode cX6_widowLines 5 = .ok (.aload_n 0, 1) := by decide +kernel
theorem dX6_widowLines_6 : decode cX6_widowLines 6 = .ok (.getfield 66, 3) := by decide +kernel
theorem dX6_widowLines_9 : decode cX6_widowLines 9 = .ok (.if_icmp .ge 27, 3) := by decide +kernel
theorem dX6_widowLines_12 : decode cX6_widowLines 12 = .ok (.aload_n 0, 1) := by decide +kernel
theorem dX6_widowLines_13 : decode cX6_widowLines 13 = .ok (.iload_n 2, 1) := by decide +kernel
theorem dX6_widowLines_14 : decode cX6_widowLines 14 = .ok (.invokevirtual 115, 3) := by decide +kernel
theorem dX6_widowLines_17 : decode cX6_widowLines 17 = .ok (.aload_n 0, 1) := by decide +kernel
theorem dX6_widowLines_18 : decode cX6_widowLines 18 = .ok (.getfield 12, 3) := by decide +kernel
theorem dX6_widowLines_21 : decode cX6_widowLines 21 = .ok (.invokevirtual 121, 3) := by decide +kernel
theorem dX6_widowLines_24 : decode cX6_widowLines 24 = .ok (.ifCond .eq 6, 3) := by decide +kernel
theorem dX6_widowLines_27 : decode cX6_widowLines 27 = .ok (.iinc 1 1, 3) := by decide +kernel
theorem dX6_widowLines_30 : decode cX6_widowLines 30 = .ok (.iinc 2 1, 3) := by decide +kernel
theorem dX6_widowLines_33 : decode cX6_widowLines 33 = .ok (.goto (-29), 3) := by decide +kernel
theorem dX6_widowLines_36 : decode cX6_widowLines 36 = .ok (.iload_n 1, 1) := by decide +kernel
theorem dX6_widowLines_37 : decode cX6_widowLines 37 = .ok (.ireturn, 1) := by decide +kernel
theorem dX6_extremeLine_0 : decode cX6_extremeLine 0 = .ok (.bipush (-9), 2) := by decide +kernel
theorem dX6_extremeLine_2 : decode cX6_extremeLine 2 = .ok (.istore_n 2, 1) := by decide +kernel
theorem dX6_extremeLine_3 : decode cX6_extremeLine 3 = .ok (.fconst 0, 1) := by decide +kernel
theorem dX6_extremeLine_4 : decode cX6_extremeLine 4 = .ok (.fstore_n 3, 1) := by decide +kernel
theorem dX6_extremeLine_5 : decode cX6_extremeLine 5 = .ok (.iconst 0, 1) := by decide +kernel
theorem dX6_extremeLine_6 : decode cX6_extremeLine 6 = .ok (.istore 4, 2) := by decide +kernel
theorem dX6_extremeLine_8 : decode cX6_extremeLine 8 = .ok (.iload 4, 2) := by decide +kernel
theorem dX6_extremeLine_10 : decode cX6_extremeLine 10 = .ok (.aload_n 0, 1) := by decide +kernel
theorem dX6_extremeLine_11 : decode cX6_extremeLine 11 = .ok (.getfield 66, 3) := by decide +kernel
theorem dX6_extremeLine_14 : decode cX6_extremeLine 14 = .ok (.if_icmp .ge 63, 3) := by decide +kernel
theorem dX6_extremeLine_17 : decode cX6_extremeLine 17 = .ok (.aload_n 0, 1) := by decide +kernel
theorem dX6_extremeLine_18 : decode cX6_extremeLine 18 = .ok (.iload 4, 2) := by decide +kernel
theorem dX6_extremeLine_20 : decode cX6_extremeLine 20 = .ok (.invokevirtual 115, 3) := by decide +kernel
theorem dX6_extremeLine_23 : decode cX6_extremeLine 23 = .ok (.iload_n 2, 1) := by decide +kernel
theorem dX6_extremeLine_24 : decode cX6_extremeLine 24 = .ok (.bipush (-9), 2) := by decide +kernel
theorem dX6_extremeLine_26 : decode cX6_extremeLine 26 = .ok (.if_icmp .eq 34, 3) := by decide +kernel
theorem dX6_extremeLine_29 : decode cX6_extremeLine 29 = .ok (.iload_n 1, 1) := by decide +kernel
theorem dX6_extremeLine_30 : decode cX6_extremeLine 30 = .ok (.ifCond .eq 18, 3) := by decide +kernel
theorem dX6_extremeLine_33 : decode cX6_extremeLine 33 = .ok (.aload_n 0, 1) := by decide +kernel
theorem dX6_extremeLine_34 : decode cX6_extremeLine 34 = .ok (.getfield 12, 3) := by decide +kernel
theorem dX6_extremeLine_37 : decode cX6_extremeLine 37 = .ok (.getfield 125, 3) := by decide +kernel
theorem dX6_extremeLine_40 : decode cX6_extremeLine 40 = .ok (.fload_n 3, 1) := by decide +kernel
theorem dX6_extremeLine_41 : decode cX6_extremeLine 41 = .ok (.fcmp .l, 1) := by decide +kernel
theorem dX6_extremeLine_42 : decode cX6_extremeLine 42 = .ok (.ifCond .le 29, 3) := by decide +kernel
theorem dX6_extremeLine_45 : decode cX6_extremeLine 45 = .ok (.goto 15, 3) := by decide +kernel
theorem dX6_extremeLine_48 : decode cX6_extremeLine 48 = .ok (.aload_n 0, 1) := by decide +kernel
theorem dX6_extremeLine_49 : decode cX6_extremeLine 49 = .ok (.getfield 12, 3) := by decide +kernel
theorem dX6_extremeLine_52 : decode cX6_extremeLine 52 = .ok (.getfield 125, 3) := by decide +kernel
theorem dX6_extremeLine_55 : decode cX6_extremeLine 55 = .ok (.fload_n 3, 1) := by decide +kernel
theorem dX6_extremeLine_56 : decode cX6_extremeLine 56 = .ok (.fcmp .g, 1) := by decide +kernel
theorem dX6_extremeLine_57 : decode cX6_extremeLine 57 = .ok (.ifCond .ge 14, 3) := by decide +kernel
theorem dX6_extremeLine_60 : decode cX6_extremeLine 60 = .ok (.iload 4, 2) := by decide +kernel
theorem dX6_extremeLine_62 : decode cX6_extremeLine 62 = .ok (.istore_n 2, 1) := by decide +kernel
theorem dX6_extremeLine_63 : decode cX6_extremeLine 63 = .ok (.aload_n 0, 1) := by decide +kernel
theorem dX6_extremeLine_64 : decode cX6_extremeLine 64 = .ok (.getfield 12, 3) := by decide +kernel
theorem dX6_extremeLine_67 : decode cX6_extremeLine 67 = .ok (.getfield 125, 3) := by decide +kernel
theorem dX6_extremeLine_70 : decode cX6_extremeLine 70 = .ok (.fstore_n 3, 1) := by decide +kernel
theorem dX6_extremeLine_71 : decode cX6_extremeLine 71 = .ok (.iinc 4 1, 3) := by decide +kernel
theorem dX6_extremeLine_74 : decode cX6_extremeLine 74 = .ok (.goto (-66), 3) := by decide +kernel
theorem dX6_extremeLine_77 : decode cX6_extremeLine 77 = .ok (.iload_n 2, 1) := by decide +kernel
theorem dX6_extremeLine_78 : decode cX6_extremeLine 78 = .ok (.ireturn, 1) := by decide +kernel
theorem dX6_naturalOfAll_0 : decode cX6_naturalOfAll 0 = .ok (.iconst 0, 1) := by decide +kernel
theorem dX6_naturalOfAll_1 : decode cX6_naturalOfAll 1 = .ok (.istore_n 1, 1) := by decide +kernel
theorem dX6_naturalOfAll_2 : decode cX6_naturalOfAll 2 = .ok (.iconst 0, 1) := by decide +kernel
theorem dX6_naturalOfAll_3 : decode cX6_naturalOfAll 3 = .ok (.istore_n 2, 1) := by decide +kernel
theorem dX6_naturalOfAll_4 : decode cX6_naturalOfAll 4 = .ok (.iload_n 2, 1) := by decide +kernel
theorem dX6_naturalOfAll_5 : decode cX6_naturalOfAll 5 = .ok (.aload_n 0, 1) := by decide +kernel
theorem dX6_naturalOfAll_6 : decode cX6_naturalOfAll 6 = .ok (.getfield 66, 3) := by decide +kernel
theorem dX6_naturalOfAll_9 : decode cX6_naturalOfAll 9 = .ok (.if_icmp .ge 24, 3) := by decide +kernel
theorem dX6_naturalOfAll_12 : decode cX6_naturalOfAll 12 = .ok (.aload_n 0, 1) := by decide +kernel
theorem dX6_naturalOfAll_13 : decode cX6_naturalOfAll 13 = .ok (.iload_n 2, 1) := by decide +kernel
theorem dX6_naturalOfAll_14 : decode cX6_naturalOfAll 14 = .ok (.invokevirtual 115, 3) := by decide +kernel
theorem dX6_naturalOfAll_17 : decode cX6_naturalOfAll 17 = .ok (.iload_n 1, 1) := by decide +kernel
theorem dX6_naturalOfAll_18 : decode cX6_naturalOfAll 18 = .ok (.aload_n 0, 1) := by decide +kernel
theorem dX6_naturalOfAll_19 : decode cX6_naturalOfAll 19 = .ok (.getfield 12, 3) := by decide +kernel
theorem dX6_naturalOfAll_22 : decode cX6_naturalOfAll 22 = .ok (.getfield 129, 3) := by decide +kernel
theorem dX6_naturalOfAll_25 : decode cX6_naturalOfAll 25 = .ok (.iadd, 1) := by decide +kernel
theorem dX6_naturalOfAll_26 : decode cX6_naturalOfAll 26 = .ok (.istore_n 1, 1) := by decide +kernel
theorem dX6_naturalOfAll_27 : decode cX6_naturalOfAll 27 = .ok (.iinc 2 1, 3) := by decide +kernel
theorem dX6_naturalOfAll_30 : decode cX6_naturalOfAll 30 = .ok (.goto (-26), 3) := by decide +kernel
theorem dX6_naturalOfAll_33 : decode cX6_naturalOfAll 33 = .ok (.iload_n 1, 1) := by decide +kernel
theorem dX6_naturalOfAll_34 : decode cX6_naturalOfAll 34 = .ok (.ireturn, 1) := by decide +kernel
theorem dX6_bestAt_0 : decode cX6_bestAt 0 = .ok (.iload_n 1, 1) := by decide +kernel
theorem dX6_bestAt_1 : decode cX6_bestAt 1 = .ok (.ifCond .lt 15, 3) := by decide +kernel
theorem dX6_bestAt_4 : decode cX6_bestAt 4 = .ok (.iload_n 1, 1) := by decide +kernel
theorem dX6_bestAt_5 : decode cX6_bestAt 5 = .ok (.aload_n 0, 1) := by decide +kernel
theorem dX6_bestAt_6 : decode cX6_bestAt 6 = .ok (.arraylength, 1) := by decide +kernel
theorem dX6_bestAt_7 : decode cX6_bestAt 7 = .ok (.if_icmp .ge 9, 3) := by decide +kernel
theorem dX6_bestAt_10 : decode cX6_bestAt 10 = .ok (.aload_n 0, 1) := by decide +kernel
theorem dX6_bestAt_11 : decode cX6_bestAt 11 = .ok (.iload_n 1, 1) := by decide +kernel
theorem dX6_bestAt_12 : decode cX6_bestAt 12 = .ok (.faload, 1) := by decide +kernel
theorem dX6_bestAt_13 : decode cX6_bestAt 13 = .ok (.goto 5, 3) := by decide +kernel
theorem dX6_bestAt_16 : decode cX6_bestAt 16 = .ok (.ldc 78, 2) := by decide +kernel
theorem dX6_bestAt_18 : decode cX6_bestAt 18 = .ok (.freturn, 1) := by decide +kernel
theorem dX6_beginBests_0 : decode cX6_beginBests 0 = .ok (.aload_n 0, 1) := by decide +kernel
theorem dX6_beginBests_1 : decode cX6_beginBests 1 = .ok (.ldc 78, 2) := by decide +kernel
theorem dX6_beginBests_3 : decode cX6_beginBests 3 = .ok (.invokestatic 79, 3) := by decide +kernel
theorem dX6_beginBests_6 : decode cX6_beginBests 6 = .ok (.aload_n 0, 1) := by decide +kernel
theorem dX6_beginBests_7 : decode cX6_beginBests 7 = .ok (.arraylength, 1) := by decide +kernel
theorem dX6_beginBests_8 : decode cX6_beginBests 8 = .ok (.ifCond .le 7, 3) := by decide +kernel
theorem dX6_beginBests_11 : decode cX6_beginBests 11 = .ok (.aload_n 0, 1) := by decide +kernel
theorem dX6_beginBests_12 : decode cX6_beginBests 12 = .ok (.iconst 0, 1) := by decide +kernel
theorem dX6_beginBests_13 : decode cX6_beginBests 13 = .ok (.fconst 0, 1) := by decide +kernel
theorem dX6_beginBests_14 : decode cX6_beginBests 14 = .ok (.fastore, 1) := by decide +kernel
theorem dX6_beginBests_15 : decode cX6_beginBests 15 = .ok (.return_, 1) := by decide +kernel
theorem dX6_reachFrom_0 : decode cX6_reachFrom 0 = .ok (.aload_n 2, 1) := by decide +kernel
theorem dX6_reachFrom_1 : decode cX6_reachFrom 1 = .ok (.iload_n 1, 1) := by decide +kernel
theorem dX6_reachFrom_2 : decode cX6_reachFrom 2 = .ok (.invokestatic 74, 3) := by decide +kernel
theorem dX6_reachFrom_5 : decode cX6_reachFrom 5 = .ok (.fstore 4, 2) := by decide +kernel
theorem dX6_reachFrom_7 : decode cX6_reachFrom 7 = .ok (.fload 4, 2) := by decide +kernel
theorem dX6_reachFrom_9 : decode cX6_reachFrom 9 = .ok (.fconst 0, 1) := by decide +kernel
theorem dX6_reachFrom_10 : decode cX6_reachFrom 10 = .ok (.fcmp .g, 1) := by decide +kernel
theorem dX6_reachFrom_11 : decode cX6_reachFrom 11 = .ok (.ifCond .ge 4, 3) := by decide +kernel
theorem dX6_reachFrom_14 : decode cX6_reachFrom 14 = .ok (.return_, 1) := by decide +kernel
theorem dX6_reachFrom_15 : decode cX6_reachFrom 15 = .ok (.aload_n 0, 1) := by decide +kernel
theorem dX6_reachFrom_16 : decode cX6_reachFrom 16 = .ok (.getfield 12, 3) := by decide +kernel
theorem dX6_reachFrom_19 : decode cX6_reachFrom 19 = .ok (.iload_n 1, 1) := by decide +kernel
theorem dX6_reachFrom_20 : decode cX6_reachFrom 20 = .ok (.invokevirtual 105, 3) := by decide +kernel
theorem dX6_reachFrom_23 : decode cX6_reachFrom 23 = .ok (.iload_n 1, 1) := by decide +kernel
theorem dX6_reachFrom_24 : decode cX6_reachFrom 24 = .ok (.iconst 1, 1) := by decide +kernel
theorem dX6_reachFrom_25 : decode cX6_reachFrom 25 = .ok (.iadd, 1) := by decide +kernel
theorem dX6_reachFrom_26 : decode cX6_reachFrom 26 = .ok (.istore 5, 2) := by decide +kernel
theorem dX6_reachFrom_28 : decode cX6_reachFrom 28 = .ok (.iload 5, 2) := by decide +kernel
theorem dX6_reachFrom_30 : decode cX6_reachFrom 30 = .ok (.aload_n 0, 1) := by decide +kernel
theorem dX6_reachFrom_31 : decode cX6_reachFrom 31 = .ok (.getfield 22, 3) := by decide +kernel
theorem dX6_reachFrom_34 : decode cX6_reachFrom 34 = .ok (.getfield 58, 3) := by decide +kernel
theorem dX6_reachFrom_37 : decode cX6_reachFrom 37 = .ok (.if_icmp .gt 54, 3) := by decide +kernel
theorem dX6_reachFrom_40 : decode cX6_reachFrom 40 = .ok (.aload_n 0, 1) := by decide +kernel
theorem dX6_reachFrom_41 : decode cX6_reachFrom 41 = .ok (.getfield 12, 3) := by decide +kernel
theorem dX6_reachFrom_44 : decode cX6_reachFrom 44 = .ok (.invokevirtual 112, 3) := by decide +kernel
theorem dX6_reachFrom_47 : decode cX6_reachFrom 47 = .ok (.aload_n 0, 1) := by decide +kernel
theorem dX6_reachFrom_48 : decode cX6_reachFrom 48 = .ok (.getfield 12, 3) := by decide +kernel
theorem dX6_reachFrom_51 : decode cX6_reachFrom 51 = .ok (.invokevirtual 132, 3) := by decide +kernel
theorem dX6_reachFrom_54 : decode cX6_reachFrom 54 = .ok (.ifCond .eq 20, 3) := by decide +kernel
theorem dX6_reachFrom_57 : decode cX6_reachFrom 57 = .ok (.aload_n 0, 1) := by decide +kernel
theorem dX6_reachFrom_58 : decode cX6_reachFrom 58 = .ok (.aload_n 3, 1) := by decide +kernel
theorem dX6_reachFrom_59 : decode cX6_reachFrom 59 = .ok (.iload 5, 2) := by decide +kernel
theorem dX6_reachFrom_61 : decode cX6_reachFrom 61 = .ok (.fload 4, 2) := by decide +kernel
theorem dX6_reachFrom_63 : decode cX6_reachFrom 63 = .ok (.aload_n 0, 1) := by decide +kernel
theorem dX6_reachFrom_64 : decode cX6_reachFrom 64 = .ok (.getfield 12, 3) := by decide +kernel
theorem dX6_reachFrom_67 : decode cX6_reachFrom 67 = .ok (.invokevirtual 135, 3) := by decide +kernel
theorem dX6_reachFrom_70 : decode cX6_reachFrom 70 = .ok (.fadd, 1) := by decide +kernel
theorem dX6_reachFrom_71 : decode cX6_reachFrom 71 = .ok (.invokevirtual 138, 3) := by decide +kernel
theorem dX6_reachFrom_74 : decode cX6_reachFrom 74 = .ok (.aload_n 0, 1) := by decide +kernel
theorem dX6_reachFrom_75 : decode cX6_reachFrom 75 = .ok (.getfield 12, 3) := by decide +kernel
theorem dX6_reachFrom_78 : decode cX6_reachFrom 78 = .ok (.invokevirtual 142, 3) := by decide +kernel
theorem dX6_reachFrom_81 : decode cX6_reachFrom 81 = .ok (.ifCond .eq 4, 3) := by decide +kernel
theorem dX6_reachFrom_84 : decode cX6_reachFrom 84 = .ok (.return_, 1) := by decide +kernel
theorem dX6_reachFrom_85 : decode cX6_reachFrom 85 = .ok (.iinc 5 1, 3) := by decide +kernel
theorem dX6_reachFrom_88 : decode cX6_reachFrom 88 = .ok (.goto (-60), 3) := by decide +kernel
theorem dX6_reachFrom_91 : decode cX6_reachFrom 91 = .ok (.return_, 1) := by decide +kernel
theorem dX6_offer_0 : decode cX6_offer 0 = .ok (.aload_n 1, 1) := by decide +kernel
theorem dX6_offer_1 : decode cX6_offer 1 = .ok (.iload_n 2, 1) := by decide +kernel
theorem dX6_offer_2 : decode cX6_offer 2 = .ok (.invokestatic 74, 3) := by decide +kernel
theorem dX6_offer_5 : decode cX6_offer 5 = .ok (.fstore 4, 2) := by decide +kernel
theorem dX6_offer_7 : decode cX6_offer 7 = .ok (.iload_n 2, 1) := by decide +kernel
theorem dX6_offer_8 : decode cX6_offer 8 = .ok (.ifCond .lt 42, 3) := by decide +kernel
theorem dX6_offer_11 : decode cX6_offer 11 = .ok (.iload_n 2, 1) := by decide +kernel
theorem dX6_offer_12 : decode cX6_offer 12 = .ok (.aload_n 1, 1) := by decide +kernel
theorem dX6_offer_13 : decode cX6_offer 13 = .ok (.arraylength, 1) := by decide +kernel
theorem dX6_offer_14 : decode cX6_offer 14 = .ok (.if_icmp .ge 36, 3) := by decide +kernel
theorem dX6_offer_17 : decode cX6_offer 17 = .ok (.fload 4, 2) := by decide +kernel
theorem dX6_offer_19 : decode cX6_offer 19 = .ok (.fconst 0, 1) := by decide +kernel
theorem dX6_offer_20 : decode cX6_offer 20 = .ok (.fcmp .g, 1) := by decide +kernel
theorem dX6_offer_21 : decode cX6_offer 21 = .ok (.ifCond .lt 10, 3) := by decide +kernel
theorem dX6_offer_24 : decode cX6_offer 24 = .ok (.fload_n 3, 1) := by decide +kernel
theorem dX6_offer_25 : decode cX6_offer 25 = .ok (.fload 4, 2) := by decide +kernel
theorem dX6_offer_27 : decode cX6_offer 27 = .ok (.fcmp .g, 1) := by decide +kernel
theorem dX6_offer_28 : decode cX6_offer 28 = .ok (.ifCond .ge 22, 3) := by decide +kernel
theorem dX6_offer_31 : decode cX6_offer 31 = .ok (.aload_n 1, 1) := by decide +kernel
theorem dX6_offer_32 : decode cX6_offer 32 = .ok (.iload_n 2, 1) := by decide +kernel
theorem dX6_offer_33 : decode cX6_offer 33 = .ok (.fload_n 3, 1) := by decide +kernel
theorem dX6_offer_34 : decode cX6_offer 34 = .ok (.fastore, 1) := by decide +kernel
theorem dX6_offer_35 : decode cX6_offer 35 = .ok (.aload_n 0, 1) := by decide +kernel
theorem dX6_offer_36 : decode cX6_offer 36 = .ok (.getfield 37, 3) := by decide +kernel
theorem dX6_offer_39 : decode cX6_offer 39 = .ok (.iload_n 2, 1) := by decide +kernel
theorem dX6_offer_40 : decode cX6_offer 40 = .ok (.aload_n 0, 1) := by decide +kernel
theorem dX6_offer_41 : decode cX6_offer 41 = .ok (.getfield 12, 3) := by decide +kernel
theorem dX6_offer_44 : decode cX6_offer 44 = .ok (.getfield 109, 3) := by decide +kernel
theorem dX6_offer_47 : decode cX6_offer 47 = .ok (.invokestatic 145, 3) := by decide +kernel
theorem dX6_offer_50 : decode cX6_offer 50 = .ok (.return_, 1) := by decide +kernel
theorem dX6_farthestFrom_0 : decode cX6_farthestFrom 0 = .ok (.iconst (-1), 1) := by decide +kernel
theorem dX6_farthestFrom_1 : decode cX6_farthestFrom 1 = .ok (.istore_n 2, 1) := by decide +kernel
theorem dX6_farthestFrom_2 : decode cX6_farthestFrom 2 = .ok (.aload_n 0, 1) := by decide +kernel
theorem dX6_farthestFrom_3 : decode cX6_farthestFrom 3 = .ok (.getfield 12, 3) := by decide +kernel
theorem dX6_farthestFrom_6 : decode cX6_farthestFrom 6 = .ok (.iload_n 1, 1) := by decide +kernel
theorem dX6_farthestFrom_7 : decode cX6_farthestFrom 7 = .ok (.invokevirtual 105, 3) := by decide +kernel
theorem dX6_farthestFrom_10 : decode cX6_farthestFrom 10 = .ok (.iload_n 1, 1) := by decide +kernel
theorem dX6_farthestFrom_11 : decode cX6_farthestFrom 11 = .ok (.iconst 1, 1) := by decide +kernel
theorem dX6_farthestFrom_12 : decode cX6_farthestFrom 12 = .ok (.iadd, 1) := by decide +kernel
theorem dX6_farthestFrom_13 : decode cX6_farthestFrom 13 = .ok (.istore_n 3, 1) := by decide +kernel
theorem dX6_farthestFrom_14 : decode cX6_farthestFrom 14 = .ok (.iload_n 3, 1) := by decide +kernel
theorem dX6_farthestFrom_15 : decode cX6_farthestFrom 15 = .ok (.aload_n 0, 1) := by decide +kernel
theorem dX6_farthestFrom_16 : decode cX6_farthestFrom 16 = .ok (.getfield 22, 3) := by decide +kernel
theorem dX6_farthestFrom_19 : decode cX6_farthestFrom 19 = .ok (.getfield 58, 3) := by decide +kernel
theorem dX6_farthestFrom_22 : decode cX6_farthestFrom 22 = .ok (.if_icmp .gt 40, 3) := by decide +kernel
theorem dX6_farthestFrom_25 : decode cX6_farthestFrom 25 = .ok (.aload_n 0, 1) := by decide +kernel
theorem dX6_farthestFrom_26 : decode cX6_farthestFrom 26 = .ok (.getfield 12, 3) := by decide +kernel
theorem dX6_farthestFrom_29 : decode cX6_farthestFrom 29 = .ok (.invokevirtual 112, 3) := by decide +kernel
theorem dX6_farthestFrom_32 : decode cX6_farthestFrom 32 = .ok (.aload_n 0, 1) := by decide +kernel
theorem dX6_farthestFrom_33 : decode cX6_farthestFrom 33 = .ok (.getfield 12, 3) := by decide +kernel
theorem dX6_farthestFrom_36 : decode cX6_farthestFrom 36 = .ok (.invokevirtual 132, 3) := by decide +kernel
theorem dX6_farthestFrom_39 : decode cX6_farthestFrom 39 = .ok (.ifCond .eq 5, 3) := by decide +kernel
theorem dX6_farthestFrom_42 : decode cX6_farthestFrom 42 = .ok (.iload_n 3, 1) := by decide +kernel
theorem dX6_farthestFrom_43 : decode cX6_farthestFrom 43 = .ok (.istore_n 2, 1) := by decide +kernel
theorem dX6_farthestFrom_44 : decode cX6_farthestFrom 44 = .ok (.aload_n 0, 1) := by decide +kernel
theorem dX6_farthestFrom_45 : decode cX6_farthestFrom 45 = .ok (.getfield 12, 3) := by decide +kernel
theorem dX6_farthestFrom_48 : decode cX6_farthestFrom 48 = .ok (.invokevirtual 142, 3) := by decide +kernel
theorem dX6_farthestFrom_51 : decode cX6_farthestFrom 51 = .ok (.ifCond .eq 5, 3) := by decide +kernel
theorem dX6_farthestFrom_54 : decode cX6_farthestFrom 54 = .ok (.iload_n 2, 1) := by decide +kernel
theorem dX6_farthestFrom_55 : decode cX6_farthestFrom 55 = .ok (.ireturn, 1) := by decide +kernel
theorem dX6_farthestFrom_56 : decode cX6_farthestFrom 56 = .ok (.iinc 3 1, 3) := by decide +kernel
theorem dX6_farthestFrom_59 : decode cX6_farthestFrom 59 = .ok (.goto (-45), 3) := by decide +kernel
theorem dX6_farthestFrom_62 : decode cX6_farthestFrom 62 = .ok (.iload_n 2, 1) := by decide +kernel
theorem dX6_farthestFrom_63 : decode cX6_farthestFrom 63 = .ok (.ireturn, 1) := by decide +kernel
theorem dX6_traceBack_0 : decode cX6_traceBack 0 = .ok (.aload_n 0, 1) := by decide +kernel
theorem dX6_traceBack_1 : decode cX6_traceBack 1 = .ok (.getfield 22, 3) := by decide +kernel
theorem dX6_traceBack_4 : decode cX6_traceBack 4 = .ok (.getfield 58, 3) := by decide +kernel
theorem dX6_traceBack_7 : decode cX6_traceBack 7 = .ok (.istore_n 1, 1) := by decide +kernel
theorem dX6_traceBack_8 : decode cX6_traceBack 8 = .ok (.aload_n 0, 1) := by decide +kernel
theorem dX6_traceBack_9 : decode cX6_traceBack 9 = .ok (.getfield 66, 3) := by decide +kernel
theorem dX6_traceBack_12 : decode cX6_traceBack 12 = .ok (.sipush 192, 3) := by decide +kernel
theorem dX6_traceBack_15 : decode cX6_traceBack 15 = .ok (.if_icmp .ge 29, 3) := by decide +kernel
theorem dX6_traceBack_18 : decode cX6_traceBack 18 = .ok (.iload_n 1, 1) := by decide +kernel
theorem dX6_traceBack_19 : decode cX6_traceBack 19 = .ok (.ifCond .le 25, 3) := by decide +kernel
theorem dX6_traceBack_22 : decode cX6_traceBack 22 = .ok (.aload_n 0, 1) := by decide +kernel
theorem dX6_traceBack_23 : decode cX6_traceBack 23 = .ok (.getfield 37, 3) := by decide +kernel
theorem dX6_traceBack_26 : decode cX6_traceBack 26 = .ok (.iload_n 1, 1) := by decide +kernel
theorem dX6_traceBack_27 : decode cX6_traceBack 27 = .ok (.invokestatic 101, 3) := by decide +kernel
theorem dX6_traceBack_30 : decode cX6_traceBack 30 = .ok (.istore_n 1, 1) := by decide +kernel
theorem dX6_traceBack_31 : decode cX6_traceBack 31 = .ok (.aload_n 0, 1) := by decide +kernel
theorem dX6_traceBack_32 : decode cX6_traceBack 32 = .ok (.dup, 1) := by decide +kernel
theorem dX6_traceBack_33 : decode cX6_traceBack 33 = .ok (.getfield 66, 3) := by decide +kernel
theorem dX6_traceBack_36 : decode cX6_traceBack 36 = .ok (.iconst 1, 1) := by decide +kernel
theorem dX6_traceBack_37 : decode cX6_traceBack 37 = .ok (.iadd, 1) := by decide +kernel
theorem dX6_traceBack_38 : decode cX6_traceBack 38 = .ok (.putfield 66, 3) := by decide +kernel
theorem dX6_traceBack_41 : decode cX6_traceBack 41 = .ok (.goto (-33), 3) := by decide +kernel
theorem dX6_traceBack_44 : decode cX6_traceBack 44 = .ok (.aload_n 0, 1) := by decide +kernel
theorem dX6_traceBack_45 : decode cX6_traceBack 45 = .ok (.getfield 22, 3) := by decide +kernel
theorem dX6_traceBack_48 : decode cX6_traceBack 48 = .ok (.getfield 58, 3) := by decide +kernel
theorem dX6_traceBack_51 : decode cX6_traceBack 51 = .ok (.istore_n 1, 1) := by decide +kernel
theorem dX6_traceBack_52 : decode cX6_traceBack 52 = .ok (.aload_n 0, 1) := by decide +kernel
theorem dX6_traceBack_53 : decode cX6_traceBack 53 = .ok (.getfield 66, 3) := by decide +kernel
theorem dX6_traceBack_56 : decode cX6_traceBack 56 = .ok (.iconst 1, 1) := by decide +kernel
theorem dX6_traceBack_57 : decode cX6_traceBack 57 = .ok (.isub, 1) := by decide +kernel
theorem dX6_traceBack_58 : decode cX6_traceBack 58 = .ok (.istore_n 2, 1) := by decide +kernel
theorem dX6_traceBack_59 : decode cX6_traceBack 59 = .ok (.iload_n 2, 1) := by decide +kernel
theorem dX6_traceBack_60 : decode cX6_traceBack 60 = .ok (.ifCond .lt 27, 3) := by decide +kernel
theorem dX6_traceBack_63 : decode cX6_traceBack 63 = .ok (.aload_n 0, 1) := by decide +kernel
theorem dX6_traceBack_64 : decode cX6_traceBack 64 = .ok (.getfield 37, 3) := by decide +kernel
theorem dX6_traceBack_67 : decode cX6_traceBack 67 = .ok (.iload_n 1, 1) := by decide +kernel
theorem dX6_traceBack_68 : decode cX6_traceBack 68 = .ok (.invokestatic 101, 3) := by decide +kernel
theorem dX6_traceBack_71 : decode cX6_traceBack 71 = .ok (.istore_n 1, 1) := by decide +kernel
theorem dX6_traceBack_72 : decode cX6_traceBack 72 = .ok (.aload_n 0, 1) := by decide +kernel
theorem dX6_traceBack_73 : decode cX6_traceBack 73 = .ok (.getfield 23, 3) := by decide +kernel
theorem dX6_traceBack_76 : decode cX6_traceBack 76 = .ok (.iload_n 2, 1) := by decide +kernel
theorem dX6_traceBack_77 : decode cX6_traceBack 77 = .ok (.iload_n 1, 1) := by decide +kernel
theorem dX6_traceBack_78 : decode cX6_traceBack 78 = .ok (.invokestatic 145, 3) := by decide +kernel
theorem dX6_traceBack_81 : decode cX6_traceBack 81 = .ok (.iinc 2 (-1), 3) := by decide +kernel
theorem dX6_traceBack_84 : decode cX6_traceBack 84 = .ok (.goto (-25), 3) := by decide +kernel
theorem dX6_traceBack_87 : decode cX6_traceBack 87 = .ok (.return_, 1) := by decide +kernel
theorem dX7_init_0 : decode cX7_init 0 = .ok (.aload_n 0, 1) := by decide +kernel
theorem dX7_init_1 : decode cX7_init 1 = .ok (.invokespecial 3, 3) := by decide +kernel
theorem dX7_init_4 : decode cX7_init 4 = .ok (.aload_n 0, 1) := by decide +kernel
theorem dX7_init_5 : decode cX7_init 5 = .ok (.bipush 16, 2) := by decide +kernel
theorem dX7_init_7 : decode cX7_init 7 = .ok (.newarray .long, 2) := by decide +kernel
theorem dX7_init_9 : decode cX7_init 9 = .ok (.putfield 9, 3) := by decide +kernel
theorem dX7_init_12 : decode cX7_init 12 = .ok (.aload_n 0, 1) := by decide +kernel
theorem dX7_init_13 : decode cX7_init 13 = .ok (.bipush 16, 2) := by decide +kernel
theorem dX7_init_15 : decode cX7_init 15 = .ok (.newarray .int, 2) := by decide +kernel
theorem dX7_init_17 : decode cX7_init 17 = .ok (.putfield 15, 3) := by decide +kernel
theorem dX7_init_20 : decode cX7_init 20 = .ok (.aload_n 0, 1) := by decide +kernel
theorem dX7_init_21 : decode cX7_init 21 = .ok (.bipush 16, 2) := by decide +kernel
theorem dX7_init_23 : decode cX7_init 23 = .ok (.newarray .int, 2) := by decide +kernel
theorem dX7_init_25 : decode cX7_init 25 = .ok (.putfield 19, 3) := by decide +kernel
theorem dX7_init_28 : decode cX7_init 28 = .ok (.return_, 1) := by decide +kernel
theorem dX7_become_0 : decode cX7_become 0 = .ok (.aload_n 1, 1) := by decide +kernel
theorem dX7_become_1 : decode cX7_become 1 = .ok (.getfield 9, 3) := by decide +kernel
theorem dX7_become_4 : decode cX7_become 4 = .ok (.aload_n 0, 1) := by decide +kernel
theorem dX7_become_5 : decode cX7_become 5 = .ok (.getfield 9, 3) := by decide +kernel
theorem dX7_become_8 : decode cX7_become 8 = .ok (.invokestatic 22, 3) := by decide +kernel
theorem dX7_become_11 : decode cX7_become 11 = .ok (.aload_n 1, 1) := by decide +kernel
theorem dX7_become_12 : decode cX7_become 12 = .ok (.getfield 15, 3) := by decide +kernel
theorem dX7_become_15 : decode cX7_become 15 = .ok (.aload_n 0, 1) := by decide +kernel
theorem dX7_become_16 : decode cX7_become 16 = .ok (.getfield 15, 3) := by decide +kernel
theorem dX7_become_19 : decode cX7_become 19 = .ok (.invokestatic 26, 3) := by decide +kernel
theorem dX7_become_22 : decode cX7_become 22 = .ok (.aload_n 1, 1) := by decide +kernel
theorem dX7_become_23 : decode cX7_become 23 = .ok (.getfield 19, 3) := by decide +kernel
theorem dX7_become_26 : decode cX7_become 26 = .ok (.aload_n 0, 1) := by decide +kernel
theorem dX7_become_27 : decode cX7_become 27 = .ok (.getfield 19, 3) := by decide +kernel
theorem dX7_become_30 : decode cX7_become 30 = .ok (.invokestatic 26, 3) := by decide +kernel
theorem dX7_become_33 : decode cX7_become 33 = .ok (.aload_n 0, 1) := by decide +kernel
theorem dX7_become_34 : decode cX7_become 34 = .ok (.aload_n 1, 1) := by decide +kernel
theorem dX7_become_35 : decode cX7_become 35 = .ok (.getfield 30, 3) := by decide +kernel
theorem dX7_become_38 : decode cX7_become 38 = .ok (.putfield 30, 3) := by decide +kernel
theorem dX7_become_41 : decode cX7_become 41 = .ok (.return_, 1) := by decide +kernel
theorem dX7_isFull_0 : decode cX7_isFull 0 = .ok (.aload_n 0, 1) := by decide +kernel
theorem dX7_isFull_1 : decode cX7_isFull 1 = .ok (.getfield 30, 3) := by decide +kernel
theorem dX7_isFull_4 : decode cX7_isFull 4 = .ok (.bipush 16, 2) := by decide +kernel
theorem dX7_isFull_6 : decode cX7_isFull 6 = .ok (.if_icmp .lt 7, 3) := by decide +kernel
theorem dX7_isFull_9 : decode cX7_isFull 9 = .ok (.iconst 1, 1) := by decide +kernel
theorem dX7_isFull_10 : decode cX7_isFull 10 = .ok (.goto 4, 3) := by decide +kernel
theorem dX7_isFull_13 : decode cX7_isFull 13 = .ok (.iconst 0, 1) := by decide +kernel
theorem dX7_isFull_14 : decode cX7_isFull 14 = .ok (.ireturn, 1) := by decide +kernel
theorem dX7_has_0 : decode cX7_has 0 = .ok (.iload_n 1, 1) := by decide +kernel
theorem dX7_has_1 : decode cX7_has 1 = .ok (.ifCond .lt 15, 3) := by decide +kernel
theorem dX7_has_4 : decode cX7_has 4 = .ok (.iload_n 1, 1) := by decide +kernel
theorem dX7_has_5 : decode cX7_has 5 = .ok (.aload_n 0, 1) := by decide +kernel
theorem dX7_has_6 : decode cX7_has 6 = .ok (.getfield 30, 3) := by decide +kernel
theorem dX7_has_9 : decode cX7_has 9 = .ok (.if_icmp .ge 7, 3) := by decide +kernel
theorem dX7_has_12 : decode cX7_has 12 = .ok (.iconst 1, 1) := by decide +kernel
theorem dX7_has_13 : decode cX7_has 13 = .ok (.goto 4, 3) := by decide +kernel
theorem dX7_has_16 : decode cX7_has 16 = .ok (.iconst 0, 1) := by decide +kernel
theorem dX7_has_17 : decode cX7_has 17 = .ok (.ireturn, 1) := by decide +kernel
theorem dX7_lengthOf_0 : decode cX7_lengthOf 0 = .ok (.aload_n 0, 1) := by decide +kernel
theorem dX7_lengthOf_1 : decode cX7_lengthOf 1 = .ok (.getfield 15, 3) := by decide +kernel
theorem dX7_lengthOf_4 : decode cX7_lengthOf 4 = .ok (.iload_n 1, 1) := by decide +kernel
theorem dX7_lengthOf_5 : decode cX7_lengthOf 5 = .ok (.invokestatic 34, 3) := by decide +kernel
theorem dX7_lengthOf_8 : decode cX7_lengthOf 8 = .ok (.ireturn, 1) := by decide +kernel
theorem dX7_isForced_0 : decode cX7_isForced 0 = .ok (.aload_n 0, 1) := by decide +kernel
theorem dX7_isForced_1 : decode cX7_isForced 1 = .ok (.getfield 19, 3) := by decide +kernel
theorem dX7_isForced_4 : decode cX7_isForced 4 = .ok (.iload_n 1, 1) := by decide +kernel
theorem dX7_isForced_5 : decode cX7_isForced 5 = .ok (.invokestatic 34, 3) := by decide +kernel
theorem dX7_isForced_8 : decode cX7_isForced 8 = .ok (.iconst 1, 1) := by decide +kernel
theorem dX7_isForced_9 : decode cX7_isForced 9 = .ok (.if_icmp .ne 7, 3) := by decide +kernel
theorem dX7_isForced_12 : decode cX7_isForced 12 = .ok (.iconst 1, 1) := by decide +kernel
theorem dX7_isForced_13 : decode cX7_isForced 13 = .ok (.goto 4, 3) := by decide +kernel
theorem dX7_isForced_16 : decode cX7_isForced 16 = .ok (.iconst 0, 1) := by decide +kernel
theorem dX7_isForced_17 : decode cX7_isForced 17 = .ok (.ireturn, 1) := by decide +kernel
theorem dX7_spellingOf_0 : decode cX7_spellingOf 0 = .ok (.iload_n 1, 1) := by decide +kernel
theorem dX7_spellingOf_1 : decode cX7_spellingOf 1 = .ok (.ifCond .lt 21, 3) := by decide +kernel
theorem dX7_spellingOf_4 : decode cX7_spellingOf 4 = .ok (.iload_n 1, 1) := by decide +kernel
theorem dX7_spellingOf_5 : decode cX7_spellingOf 5 = .ok (.aload_n 0, 1) := by decide +kernel
theorem dX7_spellingOf_6 : decode cX7_spellingOf 6 = .ok (.getfield 9, 3) := by decide +kernel
theorem dX7_spellingOf_9 : decode cX7_spellingOf 9 = .ok (.arraylength, 1) := by decide +kernel
theorem dX7_spellingOf_10 : decode cX7_spellingOf 10 = .ok (.if_icmp .ge 12, 3) := by decide +kernel
theorem dX7_spellingOf_13 : decode cX7_spellingOf 13 = .ok (.aload_n 0, 1) := by decide +kernel
theorem dX7_spellingOf_14 : decode cX7_spellingOf 14 = .ok (.getfield 9, 3) := by decide +kernel
theorem dX7_spellingOf_17 : decode cX7_spellingOf 17 = .ok (.iload_n 1, 1) := by decide +kernel
theorem dX7_spellingOf_18 : decode cX7_spellingOf 18 = .ok (.laload, 1) := by decide +kernel
theorem dX7_spellingOf_19 : decode cX7_spellingOf 19 = .ok (.goto 4, 3) := by decide +kernel
theorem dX7_spellingOf_22 : decode cX7_spellingOf 22 = .ok (.lconst 0, 1) := by decide +kernel
theorem dX7_spellingOf_23 : decode cX7_spellingOf 23 = .ok (.lreturn, 1) := by decide +kernel
theorem dX7_letterCount_0 : decode cX7_letterCount 0 = .ok (.iconst 0, 1) := by decide +kernel
theorem dX7_letterCount_1 : decode cX7_letterCount 1 = .ok (.istore_n 1, 1) := by decide +kernel
theorem dX7_letterCount_2 : decode cX7_letterCount 2 = .ok (.iconst 0, 1) := by decide +kernel
theorem dX7_letterCount_3 : decode cX7_letterCount 3 = .ok (.istore_n 2, 1) := by decide +kernel
theorem dX7_letterCount_4 : decode cX7_letterCount 4 = .ok (.iload_n 2, 1) := by decide +kernel
theorem dX7_letterCount_5 : decode cX7_letterCount 5 = .ok (.aload_n 0, 1) := by decide +kernel
theorem dX7_letterCount_6 : decode cX7_letterCount 6 = .ok (.getfield 30, 3) := by decide +kernel
theorem dX7_letterCount_9 : decode cX7_letterCount 9 = .ok (.if_icmp .ge 20, 3) := by decide +kernel
theorem dX7_letterCount_12 : decode cX7_letterCount 12 = .ok (.iload_n 1, 1) := by decide +kernel
theorem dX7_letterCount_13 : decode cX7_letterCount 13 = .ok (.aload_n 0, 1) := by decide +kernel
theorem dX7_letterCount_14 : decode cX7_letterCount 14 = .ok (.getfield 15, 3) := by decide +kernel
theorem dX7_letterCount_17 : decode cX7_letterCount 17 = .ok (.iload_n 2, 1) := by decide +kernel
theorem dX7_letterCount_18 : decode cX7_letterCount 18 = .ok (.invokestatic 34, 3) := by decide +kernel
theorem dX7_letterCount_21 : decode cX7_letterCount 21 = .ok (.iadd, 1) := by decide +kernel
theorem dX7_letterCount_22 : decode cX7_letterCount 22 = .ok (.istore_n 1, 1) := by decide +kernel
theorem dX7_letterCount_23 : decode cX7_letterCount 23 = .ok (.iinc 2 1, 3) := by decide +kernel
theorem dX7_letterCount_26 : decode cX7_letterCount 26 = .ok (.goto (-22), 3) := by decide +kernel
theorem dX7_letterCount_29 : decode cX7_letterCount 29 = .ok (.iload_n 1, 1) := by decide +kernel
theorem dX7_letterCount_30 : decode cX7_letterCount 30 = .ok (.ireturn, 1) := by decide +kernel
theorem dX7_add_0 : decode cX7_add 0 = .ok (.aload_n 0, 1) := by decide +kernel
theorem dX7_add_1 : decode cX7_add 1 = .ok (.aload_n 0, 1) := by decide +kernel
theorem dX7_add_2 : decode cX7_add 2 = .ok (.getfield 30, 3) := by decide +kernel
theorem dX7_add_5 : decode cX7_add 5 = .ok (.lload_n 1, 1) := by decide +kernel
theorem dX7_add_6 : decode cX7_add 6 = .ok (.iload_n 3, 1) := by decide +kernel
theorem dX7_add_7 : decode cX7_add 7 = .ok (.iconst 0, 1) := by decide +kernel
theorem dX7_add_8 : decode cX7_add 8 = .ok (.invokevirtual 38, 3) := by decide +kernel
theorem dX7_add_11 : decode cX7_add 11 = .ok (.aload_n 0, 1) := by decide +kernel
theorem dX7_add_12 : decode cX7_add 12 = .ok (.dup, 1) := by decide +kernel
theorem dX7_add_13 : decode cX7_add 13 = .ok (.getfield 30, 3) := by decide +kernel
theorem dX7_add_16 : decode cX7_add 16 = .ok (.iconst 1, 1) := by decide +kernel
theorem dX7_add_17 : decode cX7_add 17 = .ok (.iadd, 1) := by decide +kernel
theorem dX7_add_18 : decode cX7_add 18 = .ok (.putfield 30, 3) := by decide +kernel
theorem dX7_add_21 : decode cX7_add 21 = .ok (.aload_n 0, 1) := by decide +kernel
theorem dX7_add_22 : decode cX7_add 22 = .ok (.getfield 30, 3) := by decide +kernel
theorem dX7_add_25 : decode cX7_add 25 = .ok (.iconst 1, 1) := by decide +kernel
theorem dX7_add_26 : decode cX7_add 26 = .ok (.isub, 1) := by decide +kernel
theorem dX7_add_27 : decode cX7_add 27 = .ok (.ireturn, 1) := by decide +kernel
theorem dX7_turnForced_0 : decode cX7_turnForced 0 = .ok (.aload_n 0, 1) := by decide +kernel
theorem dX7_turnForced_1 : decode cX7_turnForced 1 = .ok (.getfield 19, 3) := by decide +kernel
theorem dX7_turnForced_4 : decode cX7_turnForced 4 = .ok (.iload_n 1, 1) := by decide +kernel
theorem dX7_turnForced_5 : decode cX7_turnForced 5 = .ok (.iconst 1, 1) := by decide +kernel
theorem dX7_turnForced_6 : decode cX7_turnForced 6 = .ok (.aload_n 0, 1) := by decide +kernel
theorem dX7_turnForced_7 : decode cX7_turnForced 7 = .ok (.getfield 19, 3) := by decide +kernel
theorem dX7_turnForced_10 : decode cX7_turnForced 10 = .ok (.iload_n 1, 1) := by decide +kernel
theorem dX7_turnForced_11 : decode cX7_turnForced 11 = .ok (.invokestatic 34, 3) := by decide +kernel
theorem dX7_turnForced_14 : decode cX7_turnForced 14 = .ok (.isub, 1) := by decide +kernel
theorem dX7_turnForced_15 : decode cX7_turnForced 15 = .ok (.invokestatic 42, 3) := by decide +kernel
theorem dX7_turnForced_18 : decode cX7_turnForced 18 = .ok (.aload_n 0, 1) := by decide +kernel
theorem dX7_turnForced_19 : decode cX7_turnForced 19 = .ok (.getfield 19, 3) := by decide +kernel
theorem dX7_turnForced_22 : decode cX7_turnForced 22 = .ok (.iload_n 1, 1) := by decide +kernel
theorem dX7_turnForced_23 : decode cX7_turnForced 23 = .ok (.invokestatic 34, 3) := by decide +kernel
theorem dX7_turnForced_26 : decode cX7_turnForced 26 = .ok (.ireturn, 1) := by decide +kernel
theorem dX7_drop_0 : decode cX7_drop 0 = .ok (.aload_n 0, 1) := by decide +kernel
theorem dX7_drop_1 : decode cX7_drop 1 = .ok (.dup, 1) := by decide +kernel
theorem dX7_drop_2 : decode cX7_drop 2 = .ok (.getfield 30, 3) := by decide +kernel
theorem dX7_drop_5 : decode cX7_drop 5 = .ok (.iconst 1, 1) := by decide +kernel
theorem dX7_drop_6 : decode cX7_drop 6 = .ok (.isub, 1) := by decide +kernel
theorem dX7_drop_7 : decode cX7_drop 7 = .ok (.putfield 30, 3) := by decide +kernel
theorem dX7_drop_10 : decode cX7_drop 10 = .ok (.iload_n 1, 1) := by decide +kernel
theorem dX7_drop_11 : decode cX7_drop 11 = .ok (.istore_n 2, 1) := by decide +kernel
theorem dX7_drop_12 : decode cX7_drop 12 = .ok (.iload_n 2, 1) := by decide +kernel
theorem dX7_drop_13 : decode cX7_drop 13 = .ok (.aload_n 0, 1) := by decide +kernel
theorem dX7_drop_14 : decode cX7_drop 14 = .ok (.getfield 30, 3) := by decide +kernel
theorem dX7_drop_17 : decode cX7_drop 17 = .ok (.if_icmp .ge 41, 3) := by decide +kernel
theorem dX7_drop_20 : decode cX7_drop 20 = .ok (.aload_n 0, 1) := by decide +kernel
theorem dX7_drop_21 : decode cX7_drop 21 = .ok (.iload_n 2, 1) := by decide +kernel
theorem dX7_drop_22 : decode cX7_drop 22 = .ok (.aload_n 0, 1) := by decide +kernel
theorem dX7_drop_23 : decode cX7_drop 23 = .ok (.iload_n 2, 1) := by decide +kernel
theorem dX7_drop_24 : decode cX7_drop 24 = .ok (.iconst 1, 1) := by decide +kernel
theorem dX7_drop_25 : decode cX7_drop 25 = .ok (.iadd, 1) := by decide +kernel
theorem dX7_drop_26 : decode cX7_drop 26 = .ok (.invokevirtual 46, 3) := by decide +kernel
theorem dX7_drop_29 : decode cX7_drop 29 = .ok (.aload_n 0, 1) := by decide +kernel
theorem dX7_drop_30 : decode cX7_drop 30 = .ok (.getfield 15, 3) := by decide +kernel
theorem dX7_drop_33 : decode cX7_drop 33 = .ok (.iload_n 2, 1) := by decide +kernel
theorem dX7_drop_34 : decode cX7_drop 34 = .ok (.iconst 1, 1) := by decide +kernel
theorem dX7_drop_35 : decode cX7_drop 35 = .ok (.iadd, 1) := by decide +kernel
theorem dX7_drop_36 : decode cX7_drop 36 = .ok (.invokestatic 34, 3) := by decide +kernel
theorem dX7_drop_39 : decode cX7_drop 39 = .ok (.aload_n 0, 1) := by decide +kernel
theorem dX7_drop_40 : decode cX7_drop 40 = .ok (.getfield 19, 3) := by decide +kernel
theorem dX7_drop_43 : decode cX7_drop 43 = .ok (.iload_n 2, 1) := by decide +kernel
theorem dX7_drop_44 : decode cX7_drop 44 = .ok (.iconst 1, 1) := by decide +kernel
theorem dX7_drop_45 : decode cX7_drop 45 = .ok (.iadd, 1) := by decide +kernel
theorem dX7_drop_46 : decode cX7_drop 46 = .ok (.invokestatic 34, 3) := by decide +kernel
theorem dX7_drop_49 : decode cX7_drop 49 = .ok (.invokevirtual 38, 3) := by decide +kernel
theorem dX7_drop_52 : decode cX7_drop 52 = .ok (.iinc 2 1, 3) := by decide +kernel
theorem dX7_drop_55 : decode cX7_drop 55 = .ok (.goto (-43), 3) := by decide +kernel
theorem dX7_drop_58 : decode cX7_drop 58 = .ok (.aload_n 0, 1) := by decide +kernel
theorem dX7_drop_59 : decode cX7_drop 59 = .ok (.getfield 30, 3) := by decide +kernel
theorem dX7_drop_62 : decode cX7_drop 62 = .ok (.ireturn, 1) := by decide +kernel
theorem dX7_write_0 : decode cX7_write 0 = .ok (.iload_n 1, 1) := by decide +kernel
theorem dX7_write_1 : decode cX7_write 1 = .ok (.ifCond .lt 19, 3) := by decide +kernel
theorem dX7_write_4 : decode cX7_write 4 = .ok (.iload_n 1, 1) := by decide +kernel
theorem dX7_write_5 : decode cX7_write 5 = .ok (.aload_n 0, 1) := by decide +kernel
theorem dX7_write_6 : decode cX7_write 6 = .ok (.getfield 9, 3) := by decide +kernel
theorem dX7_write_9 : decode cX7_write 9 = .ok (.arraylength, 1) := by decide +kernel
theorem dX7_write_10 : decode cX7_write 10 = .ok (.if_icmp .ge 10, 3) := by decide +kernel
theorem dX7_write_13 : decode cX7_write 13 = .ok (.aload_n 0, 1) := by decide +kernel
theorem dX7_write_14 : decode cX7_write 14 = .ok (.getfield 9, 3) := by decide +kernel
theorem dX7_write_17 : decode cX7_write 17 = .ok (.iload_n 1, 1) := by decide +kernel
theorem dX7_write_18 : decode cX7_write 18 = .ok (.lload_n 2, 1) := by decide +kernel
theorem dX7_write_19 : decode cX7_write 19 = .ok (.lastore, 1) := by decide +kernel
theorem dX7_write_20 : decode cX7_write 20 = .ok (.aload_n 0, 1) := by decide +kernel
theorem dX7_write_21 : decode cX7_write 21 = .ok (.getfield 15, 3) := by decide +kernel
theorem dX7_write_24 : decode cX7_write 24 = .ok (.iload_n 1, 1) := by decide +kernel
theorem dX7_write_25 : decode cX7_write 25 = .ok (.iload 4, 2) := by decide +kernel
theorem dX7_write_27 : decode cX7_write 27 = .ok (.invokestatic 42, 3) := by decide +kernel
theorem dX7_write_30 : decode cX7_write 30 = .ok (.aload_n 0, 1) := by decide +kernel
theorem dX7_write_31 : decode cX7_write 31 = .ok (.getfield 19, 3) := by decide +kernel
theorem dX7_write_34 : decode cX7_write 34 = .ok (.iload_n 1, 1) := by decide +kernel
theorem dX7_write_35 : decode cX7_write 35 = .ok (.iload 5, 2) := by decide +kernel
theorem dX7_write_37 : decode cX7_write 37 = .ok (.invokestatic 42, 3) := by decide +kernel
theorem dX7_write_40 : decode cX7_write 40 = .ok (.return_, 1) := by decide +kernel
theorem dX8_init_0 : decode cX8_init 0 = .ok (.aload_n 0, 1) := by decide +kernel
theorem dX8_init_1 : decode cX8_init 1 = .ok (.invokespecial 1, 3) := by decide +kernel
theorem dX8_init_4 : decode cX8_init 4 = .ok (.aload_n 0, 1) := by decide +kernel
theorem dX8_init_5 : decode cX8_init 5 = .ok (.new 7, 3) := by decide +kernel
theorem dX8_init_8 : decode cX8_init 8 = .ok (.dup, 1) := by decide +kernel
theorem dX8_init_9 : decode cX8_init 9 = .ok (.invokespecial 9, 3) := by decide +kernel
theorem dX8_init_12 : decode cX8_init 12 = .ok (.putfield 10, 3) := by decide +kernel
theorem dX8_init_15 : decode cX8_init 15 = .ok (.aload_n 0, 1) := by decide +kernel
theorem dX8_init_16 : decode cX8_init 16 = .ok (.new 7, 3) := by decide +kernel
theorem dX8_init_19 : decode cX8_init 19 = .ok (.dup, 1) := by decide +kernel
theorem dX8_init_20 : decode cX8_init 20 = .ok (.invokespecial 9, 3) := by decide +kernel
theorem dX8_init_23 : decode cX8_init 23 = .ok (.putfield 16, 3) := by decide +kernel
theorem dX8_init_26 : decode cX8_init 26 = .ok (.aload_n 0, 1) := by decide +kernel
theorem dX8_init_27 : decode cX8_init 27 = .ok (.new 7, 3) := by decide +kernel
theorem dX8_init_30 : decode cX8_init 30 = .ok (.dup, 1) := by decide +kernel
theorem dX8_init_31 : decode cX8_init 31 = .ok (.invokespecial 9, 3) := by decide +kernel
theorem dX8_init_34 : decode cX8_init 34 = .ok (.putfield 19, 3) := by decide +kernel
theorem dX8_init_37 : decode cX8_init 37 = .ok (.aload_n 0, 1) := by decide +kernel
theorem dX8_init_38 : decode cX8_init 38 = .ok (.new 22, 3) := by decide +kernel
theorem dX8_init_41 : decode cX8_init 41 = .ok (.dup, 1) := by decide +kernel
theorem dX8_init_42 : decode cX8_init 42 = .ok (.invokespecial 24, 3) := by decide +kernel
theorem dX8_init_45 : decode cX8_init 45 = .ok (.putfield 25, 3) := by decide +kernel
theorem dX8_init_48 : decode cX8_init 48 = .ok (.aload_n 0, 1) := by decide +kernel
theorem dX8_init_49 : decode cX8_init 49 = .ok (.new 29, 3) := by decide +kernel
theorem dX8_init_52 : decode cX8_init 52 = .ok (.dup, 1) := by decide +kernel
theorem dX8_init_53 : decode cX8_init 53 = .ok (.invokespecial 31, 3) := by decide +kernel
theorem dX8_init_56 : decode cX8_init 56 = .ok (.putfield 32, 3) := by decide +kernel
theorem dX8_init_59 : decode cX8_init 59 = .ok (.aload_n 0, 1) := by decide +kernel
theorem dX8_init_60 : decode cX8_init 60 = .ok (.new 36, 3) := by decide +kernel
theorem dX8_init_63 : decode cX8_init 63 = .ok (.dup, 1) := by decide +kernel
theorem dX8_init_64 : decode cX8_init 64 = .ok (.invokespecial 38, 3) := by decide +kernel
theorem dX8_init_67 : decode cX8_init 67 = .ok (.putfield 39, 3) := by decide +kernel
theorem dX8_init_70 : decode cX8_init 70 = .ok (.aload_n 0, 1) := by decide +kernel
theorem dX8_init_71 : decode cX8_init 71 = .ok (.bipush 16, 2) := by decide +kernel
theorem dX8_init_73 : decode cX8_init 73 = .ok (.newarray .int, 2) := by decide +kernel
theorem dX8_init_75 : decode cX8_init 75 = .ok (.putfield 43, 3) := by decide +kernel
theorem dX8_init_78 : decode cX8_init 78 = .ok (.aload_n 0, 1) := by decide +kernel
theorem dX8_init_79 : decode cX8_init 79 = .ok (.bipush 7, 2) := by decide +kernel
theorem dX8_init_81 : decode cX8_init 81 = .ok (.newarray .int, 2) := by decide +kernel
theorem dX8_init_83 : decode cX8_init 83 = .ok (.putfield 47, 3) := by decide +kernel
theorem dX8_init_86 : decode cX8_init 86 = .ok (.return_, 1) := by decide +kernel
theorem dX8_letter_0 : decode cX8_letter 0 = .ok (.iload_n 1, 1) := by decide +kernel
theorem dX8_letter_1 : decode cX8_letter 1 = .ok (.ifCond .ge 10, 3) := by decide +kernel
theorem dX8_letter_4 : decode cX8_letter 4 = .ok (.aload_n 0, 1) := by decide +kernel
theorem dX8_letter_5 : decode cX8_letter 5 = .ok (.bipush (-4), 2) := by decide +kernel
theorem dX8_letter_7 : decode cX8_letter 7 = .ok (.invokevirtual 50, 3) := by decide +kernel
theorem dX8_letter_10 : decode cX8_letter 10 = .ok (.ireturn, 1) := by decide +kernel
theorem dX8_letter_11 : decode cX8_letter 11 = .ok (.iload_n 1, 1) := by decide +kernel
theorem dX8_letter_12 : decode cX8_letter 12 = .ok (.sipush 255, 3) := by decide +kernel
theorem dX8_letter_15 : decode cX8_letter 15 = .ok (.if_icmp .gt 13, 3) := by decide +kernel
theorem dX8_letter_18 : decode cX8_letter 18 = .ok (.aload_n 0, 1) := by decide +kernel
theorem dX8_letter_19 : decode cX8_letter 19 = .ok (.getfield 32, 3) := by decide +kernel
theorem dX8_letter_22 : decode cX8_letter 22 = .ok (.invokevirtual 54, 3) := by decide +kernel
theorem dX8_letter_25 : decode cX8_letter 25 = .ok (.ifCond .eq 10, 3) := by decide +kernel
theorem dX8_letter_28 : decode cX8_letter 28 = .ok (.aload_n 0, 1) := by decide +kernel
theorem dX8_letter_29 : decode cX8_letter 29 = .ok (.bipush (-6), 2) := by decide +kernel
theorem dX8_letter_31 : decode cX8_letter 31 = .ok (.invokevirtual 50, 3) := by decide +kernel
theorem dX8_letter_34 : decode cX8_letter 34 = .ok (.ireturn, 1) := by decide +kernel
theorem dX8_letter_35 : decode cX8_letter 35 = .ok (.aload_n 0, 1) := by decide +kernel
theorem dX8_letter_36 : decode cX8_letter 36 = .ok (.getfield 32, 3) := by decide +kernel
theorem dX8_letter_39 : decode cX8_letter 39 = .ok (.iload_n 1, 1) := by decide +kernel
theorem dX8_letter_40 : decode cX8_letter 40 = .ok (.invokevirtual 58, 3) := by decide +kernel
theorem dX8_letter_43 : decode cX8_letter 43 = .ok (.ireturn, 1) := by decide +kernel
theorem dX8_sheet_0 : decode cX8_sheet 0 = .ok (.aload_n 0, 1) := by decide +kernel
theorem dX8_sheet_1 : decode cX8_sheet 1 = .ok (.getfield 32, 3) := by decide +kernel
theorem dX8_sheet_4 : decode cX8_sheet 4 = .ok (.invokevirtual 61, 3) := by decide +kernel
theorem dX8_sheet_7 : decode cX8_sheet 7 = .ok (.istore_n 1, 1) := by decide +kernel
theorem dX8_sheet_8 : decode cX8_sheet 8 = .ok (.sipush (-1000), 3) := by decide +kernel
theorem dX8_sheet_11 : decode cX8_sheet 11 = .ok (.istore_n 2, 1) := by decide +kernel
theorem dX8_sheet_12 : decode cX8_sheet 12 = .ok (.iload_n 1, 1) := by decide +kernel
theorem dX8_sheet_13 : decode cX8_sheet 13 = .ok (.ifCond .ge 30, 3) := by decide +kernel
theorem dX8_sheet_16 : decode cX8_sheet 16 = .ok (.aload_n 0, 1) := by decide +kernel
theorem dX8_sheet_17 : decode cX8_sheet 17 = .ok (.getfield 16, 3) := by decide +kernel
theorem dX8_sheet_20 : decode cX8_sheet 20 = .ok (.aload_n 0, 1) := by decide +kernel
theorem dX8_sheet_21 : decode cX8_sheet 21 = .ok (.getfield 10, 3) := by decide +kernel
theorem dX8_sheet_24 : decode cX8_sheet 24 = .ok (.invokevirtual 65, 3) := by decide +kernel
theorem dX8_sheet_27 : decode cX8_sheet 27 = .ok (.aload_n 0, 1) := by decide +kernel
theorem dX8_sheet_28 : decode cX8_sheet 28 = .ok (.getfield 32, 3) := by decide +kernel
theorem dX8_sheet_31 : decode cX8_sheet 31 = .ok (.aload_n 0, 1) := by decide +kernel
theorem dX8_sheet_32 : decode cX8_sheet 32 = .ok (.getfield 16, 3) := by decide +kernel
theorem dX8_sheet_35 : decode cX8_sheet 35 = .ok (.invokevirtual 69, 3) := by decide +kernel
theorem dX8_sheet_38 : decode cX8_sheet 38 = .ok (.istore_n 1, 1) := by decide +kernel
theorem dX8_sheet_39 : decode cX8_sheet 39 = .ok (.sipush (-2000), 3) := by decide +kernel
theorem dX8_sheet_42 : decode cX8_sheet 42 = .ok (.istore_n 2, 1) := by decide +kernel
theorem dX8_sheet_43 : decode cX8_sheet 43 = .ok (.aload_n 0, 1) := by decide +kernel
theorem dX8_sheet_44 : decode cX8_sheet 44 = .ok (.getfield 32, 3) := by decide +kernel
theorem dX8_sheet_47 : decode cX8_sheet 47 = .ok (.invokevirtual 73, 3) := by decide +kernel
theorem dX8_sheet_50 : decode cX8_sheet 50 = .ok (.iload_n 1, 1) := by decide +kernel
theorem dX8_sheet_51 : decode cX8_sheet 51 = .ok (.ifCond .lt 7, 3) := by decide +kernel
theorem dX8_sheet_54 : decode cX8_sheet 54 = .ok (.iload_n 2, 1) := by decide +kernel
theorem dX8_sheet_55 : decode cX8_sheet 55 = .ok (.iload_n 1, 1) := by decide +kernel
theorem dX8_sheet_56 : decode cX8_sheet 56 = .ok (.isub, 1) := by decide +kernel
theorem dX8_sheet_57 : decode cX8_sheet 57 = .ok (.ireturn, 1) := by decide +kernel
theorem dX8_sheet_58 : decode cX8_sheet 58 = .ok (.aload_n 0, 1) := by decide +kernel
theorem dX8_sheet_59 : decode cX8_sheet 59 = .ok (.getfield 10, 3) := by decide +kernel
theorem dX8_sheet_62 : decode cX8_sheet 62 = .ok (.aload_n 0, 1) := by decide +kernel
theorem dX8_sheet_63 : decode cX8_sheet 63 = .ok (.getfield 16, 3) := by decide +kernel
theorem dX8_sheet_66 : decode cX8_sheet 66 = .ok (.invokevirtual 65, 3) := by decide +kernel
theorem dX8_sheet_69 : decode cX8_sheet 69 = .ok (.aload_n 0, 1) := by decide +kernel
theorem dX8_sheet_70 : decode cX8_sheet 70 = .ok (.getfield 25, 3) := by decide +kernel
theorem dX8_sheet_73 : decode cX8_sheet 73 = .ok (.invokevirtual 76, 3) := by decide +kernel
theorem dX8_sheet_76 : decode cX8_sheet 76 = .ok (.aload_n 0, 1) := by decide +kernel
theorem dX8_sheet_77 : decode cX8_sheet 77 = .ok (.getfield 32, 3) := by decide +kernel
theorem dX8_sheet_80 : decode cX8_sheet 80 = .ok (.getfield 77, 3) := by decide +kernel
theorem dX8_sheet_83 : decode cX8_sheet 83 = .ok (.ireturn, 1) := by decide +kernel
theorem dX8_widens_0 : decode cX8_widens 0 = .ok (.iload_n 1, 1) := by decide +kernel
theorem dX8_widens_1 : decode cX8_widens 1 = .ok (.invokestatic 81, 3) := by decide +kernel
theorem dX8_widens_4 : decode cX8_widens 4 = .ok (.ifCond .ne 9, 3) := by decide +kernel
theorem dX8_widens_7 : decode cX8_widens 7 = .ok (.aload_n 0, 1) := by decide +kernel
theorem dX8_widens_8 : decode cX8_widens 8 = .ok (.iconst (-1), 1) := by decide +kernel
theorem dX8_widens_9 : decode cX8_widens 9 = .ok (.invokevirtual 50, 3) := by decide +kernel
theorem dX8_widens_12 : decode cX8_widens 12 = .ok (.ireturn, 1) := by decide +kernel
theorem dX8_widens_13 : decode cX8_widens 13 = .ok (.iload_n 2, 1) := by decide +kernel
theorem dX8_widens_14 : decode cX8_widens 14 = .ok (.iconst 2, 1) := by decide +kernel
theorem dX8_widens_15 : decode cX8_widens 15 = .ok (.bipush 9, 2) := by decide +kernel
theorem dX8_widens_17 : decode cX8_widens 17 = .ok (.invokestatic 85, 3) := by decide +kernel
theorem dX8_widens_20 : decode cX8_widens 20 = .ok (.istore_n 3, 1) := by decide +kernel
theorem dX8_widens_21 : decode cX8_widens 21 = .ok (.iload_n 3, 1) := by decide +kernel
theorem dX8_widens_22 : decode cX8_widens 22 = .ok (.ifCond .eq 9, 3) := by decide +kernel
theorem dX8_widens_25 : decode cX8_widens 25 = .ok (.aload_n 0, 1) := by decide +kernel
theorem dX8_widens_26 : decode cX8_widens 26 = .ok (.iload_n 3, 1) := by decide +kernel
theorem dX8_widens_27 : decode cX8_widens 27 = .ok (.invokevirtual 50, 3) := by decide +kernel
theorem dX8_widens_30 : decode cX8_widens 30 = .ok (.ireturn, 1) := by decide +kernel
theorem dX8_widens_31 : decode cX8_widens 31 = .ok (.aload_n 0, 1) := by decide +kernel
theorem dX8_widens_32 : decode cX8_widens 32 = .ok (.getfield 25, 3) := by decide +kernel
theorem dX8_widens_35 : decode cX8_widens 35 = .ok (.aload_n 0, 1) := by decide +kernel
theorem dX8_widens_36 : decode cX8_widens 36 = .ok (.getfield 10, 3) := by decide +kernel
theorem dX8_widens_39 : decode cX8_widens 39 = .ok (.invokevirtual 89, 3) := by decide +kernel
theorem dX8_widens_42 : decode cX8_widens 42 = .ok (.aload_n 0, 1) := by decide +kernel
theorem dX8_widens_43 : decode cX8_widens 43 = .ok (.getfield 10, 3) := by decide +kernel
theorem dX8_widens_46 : decode cX8_widens 46 = .ok (.getfield 92, 3) := by decide +kernel
theorem dX8_widens_49 : decode cX8_widens 49 = .ok (.iload_n 1, 1) := by decide +kernel
theorem dX8_widens_50 : decode cX8_widens 50 = .ok (.invokestatic 95, 3) := by decide +kernel
theorem dX8_widens_53 : decode cX8_widens 53 = .ok (.istore 4, 2) := by decide +kernel
theorem dX8_widens_55 : decode cX8_widens 55 = .ok (.aload_n 0, 1) := by decide +kernel
theorem dX8_widens_56 : decode cX8_widens 56 = .ok (.getfield 10, 3) := by decide +kernel
theorem dX8_widens_59 : decode cX8_widens 59 = .ok (.getfield 92, 3) := by decide +kernel
theorem dX8_widens_62 : decode cX8_widens 62 = .ok (.iload_n 1, 1) := by decide +kernel
theorem dX8_widens_63 : decode cX8_widens 63 = .ok (.iload_n 2, 1) := by decide +kernel
theorem dX8_widens_64 : decode cX8_widens 64 = .ok (.invokestatic 99, 3) := by decide +kernel
theorem dX8_widens_67 : decode cX8_widens 67 = .ok (.iload 4, 2) := by decide +kernel
theorem dX8_widens_69 : decode cX8_widens 69 = .ok (.ireturn, 1) := by decide +kernel
theorem dX8_adds_0 : decode cX8_adds 0 = .ok (.iload_n 1, 1) := by decide +kernel
theorem dX8_adds_1 : decode cX8_adds 1 = .ok (.invokestatic 81, 3) := by decide +kernel
theorem dX8_adds_4 : decode cX8_adds 4 = .ok (.ifCond .eq 25, 3) := by decide +kernel
theorem dX8_adds_7 : decode cX8_adds 7 = .ok (.iload_n 2, 1) := by decide +kernel
theorem dX8_adds_8 : decode cX8_adds 8 = .ok (.invokestatic 103, 3) := by decide +kernel
theorem dX8_adds_11 : decode cX8_adds 11 = .ok (.ifCond .eq 18, 3) := by decide +kernel
theorem dX8_adds_14 : decode cX8_adds 14 = .ok (.iload_n 3, 1) := by decide +kernel
theorem dX8_adds_15 : decode cX8_adds 15 = .ok (.invokestatic 103, 3) := by decide +kernel
theorem dX8_adds_18 : decode cX8_adds 18 = .ok (.ifCond .eq 11, 3) := by decide +kernel
theorem dX8_adds_21 : decode cX8_adds 21 = .ok (.iload_n 2, 1) := by decide +kernel
theorem dX8_adds_22 : decode cX8_adds 22 = .ok (.ifCond .ge 13, 3) := by decide +kernel
theorem dX8_adds_25 : decode cX8_adds 25 = .ok (.iload_n 3, 1) := by decide +kernel
theorem dX8_adds_26 : decode cX8_adds 26 = .ok (.ifCond .lt 9, 3) := by decide +kernel
theorem dX8_adds_29 : decode cX8_adds 29 = .ok (.aload_n 0, 1) := by decide +kernel
theorem dX8_adds_30 : decode cX8_adds 30 = .ok (.iconst (-1), 1) := by decide +kernel
theorem dX8_adds_31 : decode cX8_adds 31 = .ok (.invokevirtual 50, 3) := by decide +kernel
theorem dX8_adds_34 : decode cX8_adds 34 = .ok (.ireturn, 1) := by decide +kernel
theorem dX8_adds_35 : decode cX8_adds 35 = .ok (.aload_n 0, 1) := by decide +kernel
theorem dX8_adds_36 : decode cX8_adds 36 = .ok (.getfield 10, 3) := by decide +kernel
theorem dX8_adds_39 : decode cX8_adds 39 = .ok (.getfield 106, 3) := by decide +kernel
theorem dX8_adds_42 : decode cX8_adds 42 = .ok (.invokevirtual 110, 3) := by decide +kernel
theorem dX8_adds_45 : decode cX8_adds 45 = .ok (.ifCond .eq 10, 3) := by decide +kernel
theorem dX8_adds_48 : decode cX8_adds 48 = .ok (.aload_n 0, 1) := by decide +kernel
theorem dX8_adds_49 : decode cX8_adds 49 = .ok (.bipush (-6), 2) := by decide +kernel
theorem dX8_adds_51 : decode cX8_adds 51 = .ok (.invokevirtual 50, 3) := by decide +kernel
theorem dX8_adds_54 : decode cX8_adds 54 = .ok (.ireturn, 1) := by decide +kernel
theorem dX8_adds_55 : decode cX8_adds 55 = .ok (.aload_n 0, 1) := by decide +kernel
theorem dX8_adds_56 : decode cX8_adds 56 = .ok (.getfield 25, 3) := by decide +kernel
theorem dX8_adds_59 : decode cX8_adds 59 = .ok (.aload_n 0, 1) := by decide +kernel
theorem dX8_adds_60 : decode cX8_adds 60 = .ok (.getfield 10, 3) := by decide +kernel
theorem dX8_adds_63 : decode cX8_adds 63 = .ok (.invokevirtual 89, 3) := by decide +kernel
theorem dX8_adds_66 : decode cX8_adds 66 = .ok (.iload_n 3, 1) := by decide +kernel
theorem dX8_adds_67 : decode cX8_adds 67 = .ok (.ifCond .lt 7, 3) := by decide +kernel
theorem dX8_adds_70 : decode cX8_adds 70 = .ok (.iconst 3, 1) := by decide +kernel
theorem dX8_adds_71 : decode cX8_adds 71 = .ok (.goto 12, 3) := by decide +kernel
theorem dX8_adds_74 : decode cX8_adds 74 = .ok (.iload_n 2, 1) := by decide +kernel
theorem dX8_adds_75 : decode cX8_adds 75 = .ok (.ifCond .lt 7, 3) := by decide +kernel
theorem dX8_adds_78 : decode cX8_adds 78 = .ok (.iconst 2, 1) := by decide +kernel
theorem dX8_adds_79 : decode cX8_adds 79 = .ok (.goto 4, 3) := by decide +kernel
theorem dX8_adds_82 : decode cX8_adds 82 = .ok (.iconst 1, 1) := by decide +kernel
theorem dX8_adds_83 : decode cX8_adds 83 = .ok (.istore 4, 2) := by decide +kernel
theorem dX8_adds_85 : decode cX8_adds 85 = .ok (.aload_n 0, 1) := by decide +kernel
theorem dX8_adds_86 : decode cX8_adds 86 = .ok (.getfield 10, 3) := by decide +kernel
theorem dX8_adds_89 : decode cX8_adds 89 = .ok (.getfield 106, 3) := by decide +kernel
theorem dX8_adds_92 : decode cX8_adds 92 = .ok (.iload_n 1, 1) := by decide +kernel
theorem dX8_adds_93 : decode cX8_adds 93 = .ok (.iload_n 2, 1) := by decide +kernel
theorem dX8_adds_94 : decode cX8_adds 94 = .ok (.iload_n 3, 1) := by decide +kernel
theorem dX8_adds_95 : decode cX8_adds 95 = .ok (.invokestatic 113, 3) := by decide +kernel
theorem dX8_adds_98 : decode cX8_adds 98 = .ok (.iload 4, 2) := by decide +kernel
theorem dX8_adds_100 : decode cX8_adds 100 = .ok (.invokevirtual 117, 3) := by decide +kernel
theorem dX8_adds_103 : decode cX8_adds 103 = .ok (.ireturn, 1) := by decide +kernel
theorem dX8_forces_0 : decode cX8_forces 0 = .ok (.aload_n 0, 1) := by decide +kernel
theorem dX8_forces_1 : decode cX8_forces 1 = .ok (.getfield 10, 3) := by decide +kernel
theorem dX8_forces_4 : decode cX8_forces 4 = .ok (.getfield 106, 3) := by decide +kernel
theorem dX8_forces_7 : decode cX8_forces 7 = .ok (.iload_n 1, 1) := by decide +kernel
theorem dX8_forces_8 : decode cX8_forces 8 = .ok (.invokevirtual 121, 3) := by decide +kernel
theorem dX8_forces_11 : decode cX8_forces 11 = .ok (.ifCond .ne 9, 3) := by decide +kernel
theorem dX8_forces_14 : decode cX8_forces 14 = .ok (.aload_n 0, 1) := by decide +kernel
theorem dX8_forces_15 : decode cX8_forces 15 = .ok (.iconst (-1), 1) := by decide +kernel
theorem dX8_forces_16 : decode cX8_forces 16 = .ok (.invokevirtual 50, 3) := by decide +kernel
theorem dX8_forces_19 : decode cX8_forces 19 = .ok (.ireturn, 1) := by decide +kernel
theorem dX8_forces_20 : decode cX8_forces 20 = .ok (.aload_n 0, 1) := by decide +kernel
theorem dX8_forces_21 : decode cX8_forces 21 = .ok (.getfield 25, 3) := by decide +kernel
theorem dX8_forces_24 : decode cX8_forces 24 = .ok (.aload_n 0, 1) := by decide +kernel
theorem dX8_forces_25 : decode cX8_forces 25 = .ok (.getfield 10, 3) := by decide +kernel
theorem dX8_forces_28 : decode cX8_forces 28 = .ok (.invokevirtual 89, 3) := by decide +kernel
theorem dX8_forces_31 : decode cX8_forces 31 = .ok (.aload_n 0, 1) := by decide +kernel
theorem dX8_forces_32 : decode cX8_forces 32 = .ok (.getfield 10, 3) := by decide +kernel
theorem dX8_forces_35 : decode cX8_forces 35 = .ok (.getfield 106, 3) := by decide +kernel
theorem dX8_forces_38 : decode cX8_forces 38 = .ok (.iload_n 1, 1) := by decide +kernel
theorem dX8_forces_39 : decode cX8_forces 39 = .ok (.invokevirtual 124, 3) := by decide +kernel
theorem dX8_forces_42 : decode cX8_forces 42 = .ok (.ireturn, 1) := by decide +kernel
theorem dX8_drops_0 : decode cX8_drops 0 = .ok (.aload_n 0, 1) := by decide +kernel
theorem dX8_drops_1 : decode cX8_drops 1 = .ok (.getfield 10, 3) := by decide +kernel
theorem dX8_drops_4 : decode cX8_drops 4 = .ok (.getfield 106, 3) := by decide +kernel
theorem dX8_drops_7 : decode cX8_drops 7 = .ok (.iload_n 1, 1) := by decide +kernel
theorem dX8_drops_8 : decode cX8_drops 8 = .ok (.invokevirtual 121, 3) := by decide +kernel
theorem dX8_drops_11 : decode cX8_drops 11 = .ok (.ifCond .ne 9, 3) := by decide +kernel
theorem dX8_drops_14 : decode cX8_drops 14 = .ok (.aload_n 0, 1) := by decide +kernel
theorem dX8_drops_15 : decode cX8_drops 15 = .ok (.iconst (-1), 1) := by decide +kernel
theorem dX8_drops_16 : decode cX8_drops 16 = .ok (.invokevirtual 50, 3) := by decide +kernel
theorem dX8_drops_19 : decode cX8_drops 19 = .ok (.ireturn, 1) := by decide +kernel
theorem dX8_drops_20 : decode cX8_drops 20 = .ok (.aload_n 0, 1) := by decide +kernel
theorem dX8_drops_21 : decode cX8_drops 21 = .ok (.getfield 25, 3) := by decide +kernel
theorem dX8_drops_24 : decode cX8_drops 24 = .ok (.aload_n 0, 1) := by decide +kernel
theorem dX8_drops_25 : decode cX8_drops 25 = .ok (.getfield 10, 3) := by decide +kernel
theorem dX8_drops_28 : decode cX8_drops 28 = .ok (.invokevirtual 89, 3) := by decide +kernel
theorem dX8_drops_31 : decode cX8_drops 31 = .ok (.aload_n 0, 1) := by decide +kernel
theorem dX8_drops_32 : decode cX8_drops 32 = .ok (.getfield 10, 3) := by decide +kernel
theorem dX8_drops_35 : decode cX8_drops 35 = .ok (.getfield 106, 3) := by decide +kernel
theorem dX8_drops_38 : decode cX8_drops 38 = .ok (.iload_n 1, 1) := by decide +kernel
theorem dX8_drops_39 : decode cX8_drops 39 = .ok (.invokevirtual 127, 3) := by decide +kernel
theorem dX8_drops_42 : decode cX8_drops 42 = .ok (.ireturn, 1) := by decide +kernel
theorem dX8_patterns_0 : decode cX8_patterns 0 = .ok (.iload_n 2, 1) := by decide +kernel
theorem dX8_patterns_1 : decode cX8_patterns 1 = .ok (.ifCond .ge 7, 3) := by decide +kernel
theorem dX8_patterns_4 : decode cX8_patterns 4 = .ok (.iconst 1, 1) := by decide +kernel
theorem dX8_patterns_5 : decode cX8_patterns 5 = .ok (.goto 4, 3) := by decide +kernel
theorem dX8_patterns_8 : decode cX8_patterns 8 = .ok (.iconst 2, 1) := by decide +kernel
theorem dX8_patterns_9 : decode cX8_patterns 9 = .ok (.istore 5, 2) := by decide +kernel
theorem dX8_patterns_11 : decode cX8_patterns 11 = .ok (.iload_n 1, 1) := by decide +kernel
theorem dX8_patterns_12 : decode cX8_patterns 12 = .ok (.invokestatic 81, 3) := by decide +kernel
theorem dX8_patterns_15 : decode cX8_patterns 15 = .ok (.ifCond .eq 20, 3) := by decide +kernel
theorem dX8_patterns_18 : decode cX8_patterns 18 = .ok (.iload_n 2, 1) := by decide +kernel
theorem dX8_patterns_19 : decode cX8_patterns 19 = .ok (.invokestatic 103, 3) := by decide +kernel
theorem dX8_patterns_22 : decode cX8_patterns 22 = .ok (.ifCond .eq 13, 3) := by decide +kernel
theorem dX8_patterns_25 : decode cX8_patterns 25 = .ok (.iload_n 3, 1) := by decide +kernel
theorem dX8_patterns_26 : decode cX8_patterns 26 = .ok (.ifCond .lt 9, 3) := by decide +kernel
theorem dX8_patterns_29 : decode cX8_patterns 29 = .ok (.iload_n 3, 1) := by decide +kernel
theorem dX8_patterns_30 : decode cX8_patterns 30 = .ok (.iload 5, 2) := by decide +kernel
theorem dX8_patterns_32 : decode cX8_patterns 32 = .ok (.if_icmp .le 9, 3) := by decide +kernel
theorem dX8_patterns_35 : decode cX8_patterns 35 = .ok (.aload_n 0, 1) := by decide +kernel
theorem dX8_patterns_36 : decode cX8_patterns 36 = .ok (.iconst (-1), 1) := by decide +kernel
theorem dX8_patterns_37 : decode cX8_patterns 37 = .ok (.invokevirtual 50, 3) := by decide +kernel
theorem dX8_patterns_40 : decode cX8_patterns 40 = .ok (.ireturn, 1) := by decide +kernel
theorem dX8_patterns_41 : decode cX8_patterns 41 = .ok (.iload 4, 2) := by decide +kernel
theorem dX8_patterns_43 : decode cX8_patterns 43 = .ok (.iconst 1, 1) := by decide +kernel
theorem dX8_patterns_44 : decode cX8_patterns 44 = .ok (.bipush 9, 2) := by decide +kernel
theorem dX8_patterns_46 : decode cX8_patterns 46 = .ok (.invokestatic 85, 3) := by decide +kernel
theorem dX8_patterns_49 : decode cX8_patterns 49 = .ok (.istore 6, 2) := by decide +kernel
theorem dX8_patterns_51 : decode cX8_patterns 51 = .ok (.iload 6, 2) := by decide +kernel
theorem dX8_patterns_53 : decode cX8_patterns 53 = .ok (.ifCond .eq 10, 3) := by decide +kernel
theorem dX8_patterns_56 : decode cX8_patterns 56 = .ok (.aload_n 0, 1) := by decide +kernel
theorem dX8_patterns_57 : decode cX8_patterns 57 = .ok (.iload 6, 2) := by decide +kernel
theorem dX8_patterns_59 : decode cX8_patterns 59 = .ok (.invokevirtual 50, 3) := by decide +kernel
theorem dX8_patterns_62 : decode cX8_patterns 62 = .ok (.ireturn, 1) := by decide +kernel
theorem dX8_patterns_63 : decode cX8_patterns 63 = .ok (.iload_n 1, 1) := by decide +kernel
theorem dX8_patterns_64 : decode cX8_patterns 64 = .ok (.iload_n 2, 1) := by decide +kernel
theorem dX8_patterns_65 : decode cX8_patterns 65 = .ok (.iconst (-1), 1) := by decide +kernel
theorem dX8_patterns_66 : decode cX8_patterns 66 = .ok (.invokestatic 113, 3) := by decide +kernel
theorem dX8_patterns_69 : decode cX8_patterns 69 = .ok (.lstore 7, 2) := by decide +kernel
theorem dX8_patterns_71 : decode cX8_patterns 71 = .ok (.aload_n 0, 1) := by decide +kernel
theorem dX8_patterns_72 : decode cX8_patterns 72 = .ok (.getfield 10, 3) := by decide +kernel
theorem dX8_patterns_75 : decode cX8_patterns 75 = .ok (.getfield 130, 3) := by decide +kernel
theorem dX8_patterns_78 : decode cX8_patterns 78 = .ok (.lload 7, 2) := by decide +kernel
theorem dX8_patterns_80 : decode cX8_patterns 80 = .ok (.iload_n 3, 1) := by decide +kernel
theorem dX8_patterns_81 : decode cX8_patterns 81 = .ok (.invokevirtual 134, 3) := by decide +kernel
theorem dX8_patterns_84 : decode cX8_patterns 84 = .ok (.ifCond .ne 10, 3) := by decide +kernel
theorem dX8_patterns_87 : decode cX8_patterns 87 = .ok (.aload_n 0, 1) := by decide +kernel
theorem dX8_patterns_88 : decode cX8_patterns 88 = .ok (.bipush (-6), 2) := by decide +kernel
theorem dX8_patterns_90 : decode cX8_patterns 90 = .ok (.invokevirtual 50, 3) := by decide +kernel
theorem dX8_patterns_93 : decode cX8_patterns 93 = .ok (.ireturn, 1) := by decide +kernel
theorem dX8_patterns_94 : decode cX8_patterns 94 = .ok (.aload_n 0, 1) := by decide +kernel
theorem dX8_patterns_95 : decode cX8_patterns 95 = .ok (.getfield 25, 3) := by decide +kernel
theorem dX8_patterns_98 : decode cX8_patterns 98 = .ok (.aload_n 0, 1) := by decide +kernel
theorem dX8_patterns_99 : decode cX8_patterns 99 = .ok (.getfield 10, 3) := by decide +kernel
theorem dX8_patterns_102 : decode cX8_patterns 102 = .ok (.invokevirtual 89, 3) := by decide +kernel
theorem dX8_patterns_105 : decode cX8_patterns 105 = .ok (.aload_n 0, 1) := by decide +kernel
theorem dX8_patterns_106 : decode cX8_patterns 106 = .ok (.getfield 10, 3) := by decide +kernel
theorem dX8_patterns_109 : decode cX8_patterns 109 = .ok (.getfield 130, 3) := by decide +kernel
theorem dX8_patterns_112 : decode cX8_patterns 112 = .ok (.lload 7, 2) := by decide +kernel
theorem dX8_patterns_114 : decode cX8_patterns 114 = .ok (.iload 5, 2) := by decide +kernel
theorem dX8_patterns_116 : decode cX8_patterns 116 = .ok (.iload_n 3, 1) := by decide +kernel
theorem dX8_patterns_117 : decode cX8_patterns 117 = .ok (.iload 4, 2) := by decide +kernel
theorem dX8_patterns_119 : decode cX8_patterns 119 = .ok (.invokevirtual 140, 3) := by decide +kernel
theorem dX8_patterns_122 : decode cX8_patterns 122 = .ok (.ireturn, 1) := by decide +kernel
theorem dX8_line_0 : decode cX8_line 0 = .ok (.iload_n 1, 1) := by decide +kernel
theorem dX8_line_1 : decode cX8_line 1 = .ok (.bipush 10, 2) := by decide +kernel
theorem dX8_line_3 : decode cX8_line 3 = .ok (.bipush 60, 2) := by decide +kernel
theorem dX8_line_5 : decode cX8_line 5 = .ok (.invokestatic 85, 3) := by decide +kernel
theorem dX8_line_8 : decode cX8_line 8 = .ok (.istore_n 2, 1) := by decide +kernel
theorem dX8_line_9 : decode cX8_line 9 = .ok (.iload_n 2, 1) := by decide +kernel
theorem dX8_line_10 : decode cX8_line 10 = .ok (.ifCond .eq 9, 3) := by decide +kernel
theorem dX8_line_13 : decode cX8_line 13 = .ok (.aload_n 0, 1) := by decide +kernel
theorem dX8_line_14 : decode cX8_line 14 = .ok (.iload_n 2, 1) := by decide +kernel
theorem dX8_line_15 : decode cX8_line 15 = .ok (.invokevirtual 50, 3) := by decide +kernel
theorem dX8_line_18 : decode cX8_line 18 = .ok (.ireturn, 1) := by decide +kernel
theorem dX8_line_19 : decode cX8_line 19 = .ok (.aload_n 0, 1) := by decide +kernel
theorem dX8_line_20 : decode cX8_line 20 = .ok (.getfield 25, 3) := by decide +kernel
theorem dX8_line_23 : decode cX8_line 23 = .ok (.aload_n 0, 1) := by decide +kernel
theorem dX8_line_24 : decode cX8_line 24 = .ok (.getfield 10, 3) := by decide +kernel
theorem dX8_line_27 : decode cX8_line 27 = .ok (.invokevirtual 89, 3) := by decide +kernel
theorem dX8_line_30 : decode cX8_line 30 = .ok (.aload_n 0, 1) := by decide +kernel
theorem dX8_line_31 : decode cX8_line 31 = .ok (.getfield 10, 3) := by decide +kernel
theorem dX8_line_34 : decode cX8_line 34 = .ok (.getfield 143, 3) := by decide +kernel
theorem dX8_line_37 : decode cX8_line 37 = .ok (.istore_n 3, 1) := by decide +kernel
theorem dX8_line_38 : decode cX8_line 38 = .ok (.aload_n 0, 1) := by decide +kernel
theorem dX8_line_39 : decode cX8_line 39 = .ok (.getfield 10, 3) := by decide +kernel
theorem dX8_line_42 : decode cX8_line 42 = .ok (.iload_n 1, 1) := by decide +kernel
theorem dX8_line_43 : decode cX8_line 43 = .ok (.putfield 143, 3) := by decide +kernel
theorem dX8_line_46 : decode cX8_line 46 = .ok (.iload_n 3, 1) := by decide +kernel
theorem dX8_line_47 : decode cX8_line 47 = .ok (.ireturn, 1) := by decide +kernel
theorem dX8_glue_0 : decode cX8_glue 0 = .ok (.iload_n 1, 1) := by decide +kernel
theorem dX8_glue_1 : decode cX8_glue 1 = .ok (.iload_n 2, 1) := by decide +kernel
theorem dX8_glue_2 : decode cX8_glue 2 = .ok (.iload_n 3, 1) := by decide +kernel
theorem dX8_glue_3 : decode cX8_glue 3 = .ok (.invokestatic 146, 3) := by decide +kernel
theorem dX8_glue_6 : decode cX8_glue 6 = .ok (.istore 4, 2) := by decide +kernel
theorem dX8_glue_8 : decode cX8_glue 8 = .ok (.iload 4, 2) := by decide +kernel
theorem dX8_glue_10 : decode cX8_glue 10 = .ok (.ifCond .eq 10, 3) := by decide +kernel
theorem dX8_glue_13 : decode cX8_glue 13 = .ok (.aload_n 0, 1) := by decide +kernel
theorem dX8_glue_14 : decode cX8_glue 14 = .ok (.iload 4, 2) := by decide +kernel
theorem dX8_glue_16 : decode cX8_glue 16 = .ok (.invokevirtual 50, 3) := by decide +kernel
theorem dX8_glue_19 : decode cX8_glue 19 = .ok (.ireturn, 1) := by decide +kernel
theorem dX8_glue_20 : decode cX8_glue 20 = .ok (.aload_n 0, 1) := by decide +kernel
theorem dX8_glue_21 : decode cX8_glue 21 = .ok (.getfield 25, 3) := by decide +kernel
theorem dX8_glue_24 : decode cX8_glue 24 = .ok (.aload_n 0, 1) := by decide +kernel
theorem dX8_glue_25 : decode cX8_glue 25 = .ok (.getfield 10, 3) := by decide +kernel
theorem dX8_glue_28 : decode cX8_glue 28 = .ok (.invokevirtual 89, 3) := by decide +kernel
theorem dX8_glue_31 : decode cX8_glue 31 = .ok (.bipush 100, 2) := by decide +kernel
theorem dX8_glue_33 : decode cX8_glue 33 = .ok (.aload_n 0, 1) := by decide +kernel
theorem dX8_glue_34 : decode cX8_glue 34 = .ok (.getfield 10, 3) := by decide +kernel
theorem dX8_glue_37 : decode cX8_glue 37 = .ok (.getfield 149, 3) := by decide +kernel
theorem dX8_glue_40 : decode cX8_glue 40 = .ok (.imul, 1) := by decide +kernel
theorem dX8_glue_41 : decode cX8_glue 41 = .ok (.bipush 10, 2) := by decide +kernel
theorem dX8_glue_43 : decode cX8_glue 43 = .ok (.aload_n 0, 1) := by decide +kernel
theorem dX8_glue_44 : decode cX8_glue 44 = .ok (.getfield 10, 3) := by decide +kernel
theorem dX8_glue_47 : decode cX8_glue 47 = .ok (.getfield 152, 3) := by decide +kernel
theorem dX8_glue_50 : decode cX8_glue 50 = .ok (.imul, 1) := by decide +kernel
theorem dX8_glue_51 : decode cX8_glue 51 = .ok (.iadd, 1) := by decide +kernel
theorem dX8_glue_52 : decode cX8_glue 52 = .ok (.aload_n 0, 1) := by decide +kernel
theorem dX8_glue_53 : decode cX8_glue 53 = .ok (.getfield 10, 3) := by decide +kernel
theorem dX8_glue_56 : decode cX8_glue 56 = .ok (.getfield 155, 3) := by decide +kernel
theorem dX8_glue_59 : decode cX8_glue 59 = .ok (.iadd, 1) := by decide +kernel
theorem dX8_glue_60 : decode cX8_glue 60 = .ok (.istore 5, 2) := by decide +kernel
theorem dX8_glue_62 : decode cX8_glue 62 = .ok (.aload_n 0, 1) := by decide +kernel
theorem dX8_glue_63 : decode cX8_glue 63 = .ok (.getfield 10, 3) := by decide +kernel
theorem dX8_glue_66 : decode cX8_glue 66 = .ok (.iload_n 1, 1) := by decide +kernel
theorem dX8_glue_67 : decode cX8_glue 67 = .ok (.iload_n 2, 1) := by decide +kernel
theorem dX8_glue_68 : decode cX8_glue 68 = .ok (.iload_n 3, 1) := by decide +kernel
theorem dX8_glue_69 : decode cX8_glue 69 = .ok (.invokevirtual 158, 3) := by decide +kernel
theorem dX8_glue_72 : decode cX8_glue 72 = .ok (.iload 5, 2) := by decide +kernel
theorem dX8_glue_74 : decode cX8_glue 74 = .ok (.ireturn, 1) := by decide +kernel
theorem dX8_tolerance_0 : decode cX8_tolerance 0 = .ok (.iload_n 1, 1) := by decide +kernel
theorem dX8_tolerance_1 : decode cX8_tolerance 1 = .ok (.iconst 0, 1) := by decide +kernel
theorem dX8_tolerance_2 : decode cX8_tolerance 2 = .ok (.bipush 40, 2) := by decide +kernel
theorem dX8_tolerance_4 : decode cX8_tolerance 4 = .ok (.invokestatic 85, 3) := by decide +kernel
theorem dX8_tolerance_7 : decode cX8_tolerance 7 = .ok (.istore_n 2, 1) := by decide +kernel
theorem dX8_tolerance_8 : decode cX8_tolerance 8 = .ok (.iload_n 2, 1) := by decide +kernel
theorem dX8_tolerance_9 : decode cX8_tolerance 9 = .ok (.ifCond .eq 9, 3) := by decide +kernel
theorem dX8_tolerance_12 : decode cX8_tolerance 12 = .ok (.aload_n 0, 1) := by decide +kernel
theorem dX8_tolerance_13 : decode cX8_tolerance 13 = .ok (.iload_n 2, 1) := by decide +kernel
theorem dX8_tolerance_14 : decode cX8_tolerance 14 = .ok (.invokevirtual 50, 3) := by decide +kernel
theorem dX8_tolerance_17 : decode cX8_tolerance 17 = .ok (.ireturn, 1) := by decide +kernel
theorem dX8_tolerance_18 : decode cX8_tolerance 18 = .ok (.aload_n 0, 1) := by decide +kernel
theorem dX8_tolerance_19 : decode cX8_tolerance 19 = .ok (.getfield 25, 3) := by decide +kernel
theorem dX8_tolerance_22 : decode cX8_tolerance 22 = .ok (.aload_n 0, 1) := by decide +kernel
theorem dX8_tolerance_23 : decode cX8_tolerance 23 = .ok (.getfield 10, 3) := by decide +kernel
theorem dX8_tolerance_26 : decode cX8_tolerance 26 = .ok (.invokevirtual 89, 3) := by decide +kernel
theorem dX8_tolerance_29 : decode cX8_tolerance 29 = .ok (.aload_n 0, 1) := by decide +kernel
theorem dX8_tolerance_30 : decode cX8_tolerance 30 = .ok (.getfield 10, 3) := by decide +kernel
theorem dX8_tolerance_33 : decode cX8_tolerance 33 = .ok (.getfield 162, 3) := by decide +kernel
theorem dX8_tolerance_36 : decode cX8_tolerance 36 = .ok (.istore_n 3, 1) := by decide +kernel
theorem dX8_tolerance_37 : decode cX8_tolerance 37 = .ok (.aload_n 0, 1) := by decide +kernel
theorem dX8_tolerance_38 : decode cX8_tolerance 38 = .ok (.getfield 10, 3) := by decide +kernel
theorem dX8_tolerance_41 : decode cX8_tolerance 41 = .ok (.iload_n 1, 1) := by decide +kernel
theorem dX8_tolerance_42 : decode cX8_tolerance 42 = .ok (.putfield 162, 3) := by decide +kernel
theorem dX8_tolerance_45 : decode cX8_tolerance 45 = .ok (.iload_n 3, 1) := by decide +kernel
theorem dX8_tolerance_46 : decode cX8_tolerance 46 = .ok (.ireturn, 1) := by decide +kernel
theorem dX8_hyphen_0 : decode cX8_hyphen 0 = .ok (.iload_n 1, 1) := by decide +kernel
theorem dX8_hyphen_1 : decode cX8_hyphen 1 = .ok (.iconst 0, 1) := by decide +kernel
theorem dX8_hyphen_2 : decode cX8_hyphen 2 = .ok (.bipush 99, 2) := by decide +kernel
theorem dX8_hyphen_4 : decode cX8_hyphen 4 = .ok (.invokestatic 85, 3) := by decide +kernel
theorem dX8_hyphen_7 : decode cX8_hyphen 7 = .ok (.istore_n 2, 1) := by decide +kernel
theorem dX8_hyphen_8 : decode cX8_hyphen 8 = .ok (.iload_n 2, 1) := by decide +kernel
theorem dX8_hyphen_9 : decode cX8_hyphen 9 = .ok (.ifCond .eq 9, 3) := by decide +kernel
theorem dX8_hyphen_12 : decode cX8_hyphen 12 = .ok (.aload_n 0, 1) := by decide +kernel
theorem dX8_hyphen_13 : decode cX8_hyphen 13 = .ok (.iload_n 2, 1) := by decide +kernel
theorem dX8_hyphen_14 : decode cX8_hyphen 14 = .ok (.invokevirtual 50, 3) := by decide +kernel
theorem dX8_hyphen_17 : decode cX8_hyphen 17 = .ok (.ireturn, 1) := by decide +kernel
theorem dX8_hyphen_18 : decode cX8_hyphen 18 = .ok (.aload_n 0, 1) := by decide +kernel
theorem dX8_hyphen_19 : decode cX8_hyphen 19 = .ok (.getfield 25, 3) := by decide +kernel
theorem dX8_hyphen_22 : decode cX8_hyphen 22 = .ok (.aload_n 0, 1) := by decide +kernel
theorem dX8_hyphen_23 : decode cX8_hyphen 23 = .ok (.getfield 10, 3) := by decide +kernel
theorem dX8_hyphen_26 : decode cX8_hyphen 26 = .ok (.invokevirtual 89, 3) := by decide +kernel
theorem dX8_hyphen_29 : decode cX8_hyphen 29 = .ok (.aload_n 0, 1) := by decide +kernel
theorem dX8_hyphen_30 : decode cX8_hyphen 30 = .ok (.getfield 10, 3) := by decide +kernel
theorem dX8_hyphen_33 : decode cX8_hyphen 33 = .ok (.getfield 165, 3) := by decide +kernel
theorem dX8_hyphen_36 : decode cX8_hyphen 36 = .ok (.istore_n 3, 1) := by decide +kernel
theorem dX8_hyphen_37 : decode cX8_hyphen 37 = .ok (.aload_n 0, 1) := by decide +kernel
theorem dX8_hyphen_38 : decode cX8_hyphen 38 = .ok (.getfield 10, 3) := by decide +kernel
theorem dX8_hyphen_41 : decode cX8_hyphen 41 = .ok (.iload_n 1, 1) := by decide +kernel
theorem dX8_hyphen_42 : decode cX8_hyphen 42 = .ok (.putfield 165, 3) := by decide +kernel
theorem dX8_hyphen_45 : decode cX8_hyphen 45 = .ok (.iload_n 3, 1) := by decide +kernel
theorem dX8_hyphen_46 : decode cX8_hyphen 46 = .ok (.ireturn, 1) := by decide +kernel
theorem dX8_widow_0 : decode cX8_widow 0 = .ok (.iload_n 1, 1) := by decide +kernel
theorem dX8_widow_1 : decode cX8_widow 1 = .ok (.iconst 0, 1) := by decide +kernel
theorem dX8_widow_2 : decode cX8_widow 2 = .ok (.bipush 9, 2) := by decide +kernel
theorem dX8_widow_4 : decode cX8_widow 4 = .ok (.invokestatic 85, 3) := by decide +kernel
theorem dX8_widow_7 : decode cX8_widow 7 = .ok (.istore_n 2, 1) := by decide +kernel
theorem dX8_widow_8 : decode cX8_widow 8 = .ok (.iload_n 2, 1) := by decide +kernel
theorem dX8_widow_9 : decode cX8_widow 9 = .ok (.ifCond .eq 9, 3) := by decide +kernel
theorem dX8_widow_12 : decode cX8_widow 12 = .ok (.aload_n 0, 1) := by decide +kernel
theorem dX8_widow_13 : decode cX8_widow 13 = .ok (.iload_n 2, 1) := by decide +kernel
theorem dX8_widow_14 : decode cX8_widow 14 = .ok (.invokevirtual 50, 3) := by decide +kernel
theorem dX8_widow_17 : decode cX8_widow 17 = .ok (.ireturn, 1) := by decide +kernel
theorem dX8_widow_18 : decode cX8_widow 18 = .ok (.aload_n 0, 1) := by decide +kernel
theorem dX8_widow_19 : decode cX8_widow 19 = .ok (.getfield 25, 3) := by decide +kernel
theorem dX8_widow_22 : decode cX8_widow 22 = .ok (.aload_n 0, 1) := by decide +kernel
theorem dX8_widow_23 : decode cX8_widow 23 = .ok (.getfield 10, 3) := by decide +kernel
theorem dX8_widow_26 : decode cX8_widow 26 = .ok (.invokevirtual 89, 3) := by decide +kernel
theorem dX8_widow_29 : decode cX8_widow 29 = .ok (.aload_n 0, 1) := by decide +kernel
theorem dX8_widow_30 : decode cX8_widow 30 = .ok (.getfield 10, 3) := by decide +kernel
theorem dX8_widow_33 : decode cX8_widow 33 = .ok (.getfield 168, 3) := by decide +kernel
theorem dX8_widow_36 : decode cX8_widow 36 = .ok (.istore_n 3, 1) := by decide +kernel
theorem dX8_widow_37 : decode cX8_widow 37 = .ok (.aload_n 0, 1) := by decide +kernel
theorem dX8_widow_38 : decode cX8_widow 38 = .ok (.getfield 10, 3) := by decide +kernel
theorem dX8_widow_41 : decode cX8_widow 41 = .ok (.iload_n 1, 1) := by decide +kernel
theorem dX8_widow_42 : decode cX8_widow 42 = .ok (.putfield 168, 3) := by decide +kernel
theorem dX8_widow_45 : decode cX8_widow 45 = .ok (.iload_n 3, 1) := by decide +kernel
theorem dX8_widow_46 : decode cX8_widow 46 = .ok (.ireturn, 1) := by decide +kernel
theorem dX8_manner_0 : decode cX8_manner 0 = .ok (.iload_n 1, 1) := by decide +kernel
theorem dX8_manner_1 : decode cX8_manner 1 = .ok (.iconst 3, 1) := by decide +kernel
theorem dX8_manner_2 : decode cX8_manner 2 = .ok (.invokestatic 171, 3) := by decide +kernel
theorem dX8_manner_5 : decode cX8_manner 5 = .ok (.ifCond .eq 10, 3) := by decide +kernel
theorem dX8_manner_8 : decode cX8_manner 8 = .ok (.aload_n 0, 1) := by decide +kernel
theorem dX8_manner_9 : decode cX8_manner 9 = .ok (.bipush (-2), 2) := by decide +kernel
theorem dX8_manner_11 : decode cX8_manner 11 = .ok (.invokevirtual 50, 3) := by decide +kernel
theorem dX8_manner_14 : decode cX8_manner 14 = .ok (.ireturn, 1) := by decide +kernel
theorem dX8_manner_15 : decode cX8_manner 15 = .ok (.aload_n 0, 1) := by decide +kernel
theorem dX8_manner_16 : decode cX8_manner 16 = .ok (.getfield 25, 3) := by decide +kernel
theorem dX8_manner_19 : decode cX8_manner 19 = .ok (.aload_n 0, 1) := by decide +kernel
theorem dX8_manner_20 : decode cX8_manner 20 = .ok (.getfield 10, 3) := by decide +kernel
theorem dX8_manner_23 : decode cX8_manner 23 = .ok (.invokevirtual 89, 3) := by decide +kernel
theorem dX8_manner_26 : decode cX8_manner 26 = .ok (.aload_n 0, 1) := by decide +kernel
theorem dX8_manner_27 : decode cX8_manner 27 = .ok (.getfield 10, 3) := by decide +kernel
theorem dX8_manner_30 : decode cX8_manner 30 = .ok (.getfield 175, 3) := by decide +kernel
theorem dX8_manner_33 : decode cX8_manner 33 = .ok (.istore_n 2, 1) := by decide +kernel
theorem dX8_manner_34 : decode cX8_manner 34 = .ok (.aload_n 0, 1) := by decide +kernel
theorem dX8_manner_35 : decode cX8_manner 35 = .ok (.getfield 10, 3) := by decide +kernel
theorem dX8_manner_38 : decode cX8_manner 38 = .ok (.iload_n 1, 1) := by decide +kernel
theorem dX8_manner_39 : decode cX8_manner 39 = .ok (.putfield 175, 3) := by decide +kernel
theorem dX8_manner_42 : decode cX8_manner 42 = .ok (.iload_n 2, 1) := by decide +kernel
theorem dX8_manner_43 : decode cX8_manner 43 = .ok (.ireturn, 1) := by decide +kernel
theorem dX8_kind_0 : decode cX8_kind 0 = .ok (.iload_n 1, 1) := by decide +kernel
theorem dX8_kind_1 : decode cX8_kind 1 = .ok (.bipush 6, 2) := by decide +kernel
theorem dX8_kind_3 : decode cX8_kind 3 = .ok (.invokestatic 171, 3) := by decide +kernel
theorem dX8_kind_6 : decode cX8_kind 6 = .ok (.ifCond .eq 10, 3) := by decide +kernel
theorem dX8_kind_9 : decode cX8_kind 9 = .ok (.aload_n 0, 1) := by decide +kernel
theorem dX8_kind_10 : decode cX8_kind 10 = .ok (.bipush (-2), 2) := by decide +kernel
theorem dX8_kind_12 : decode cX8_kind 12 = .ok (.invokevirtual 50, 3) := by decide +kernel
theorem dX8_kind_15 : decode cX8_kind 15 = .ok (.ireturn, 1) := by decide +kernel
theorem dX8_kind_16 : decode cX8_kind 16 = .ok (.iload_n 2, 1) := by decide +kernel
theorem dX8_kind_17 : decode cX8_kind 17 = .ok (.iconst 0, 1) := by decide +kernel
theorem dX8_kind_18 : decode cX8_kind 18 = .ok (.bipush 9, 2) := by decide +kernel
theorem dX8_kind_20 : decode cX8_kind 20 = .ok (.invokestatic 85, 3) := by decide +kernel
theorem dX8_kind_23 : decode cX8_kind 23 = .ok (.istore_n 3, 1) := by decide +kernel
theorem dX8_kind_24 : decode cX8_kind 24 = .ok (.iload_n 3, 1) := by decide +kernel
theorem dX8_kind_25 : decode cX8_kind 25 = .ok (.ifCond .eq 9, 3) := by decide +kernel
theorem dX8_kind_28 : decode cX8_kind 28 = .ok (.aload_n 0, 1) := by decide +kernel
theorem dX8_kind_29 : decode cX8_kind 29 = .ok (.iload_n 3, 1) := by decide +kernel
theorem dX8_kind_30 : decode cX8_kind 30 = .ok (.invokevirtual 50, 3) := by decide +kernel
theorem dX8_kind_33 : decode cX8_kind 33 = .ok (.ireturn, 1) := by decide +kernel
theorem dX8_kind_34 : decode cX8_kind 34 = .ok (.aload_n 0, 1) := by decide +kernel
theorem dX8_kind_35 : decode cX8_kind 35 = .ok (.getfield 25, 3) := by decide +kernel
theorem dX8_kind_38 : decode cX8_kind 38 = .ok (.aload_n 0, 1) := by decide +kernel
theorem dX8_kind_39 : decode cX8_kind 39 = .ok (.getfield 10, 3) := by decide +kernel
theorem dX8_kind_42 : decode cX8_kind 42 = .ok (.invokevirtual 89, 3) := by decide +kernel
theorem dX8_kind_45 : decode cX8_kind 45 = .ok (.bipush 10, 2) := by decide +kernel
theorem dX8_kind_47 : decode cX8_kind 47 = .ok (.aload_n 0, 1) := by decide +kernel
theorem dX8_kind_48 : decode cX8_kind 48 = .ok (.getfield 10, 3) := by decide +kernel
theorem dX8_kind_51 : decode cX8_kind 51 = .ok (.getfield 178, 3) := by decide +kernel
theorem dX8_kind_54 : decode cX8_kind 54 = .ok (.imul, 1) := by decide +kernel
theorem dX8_kind_55 : decode cX8_kind 55 = .ok (.aload_n 0, 1) := by decide +kernel
theorem dX8_kind_56 : decode cX8_kind 56 = .ok (.getfield 10, 3) := by decide +kernel
theorem dX8_kind_59 : decode cX8_kind 59 = .ok (.getfield 181, 3) := by decide +kernel
theorem dX8_kind_62 : decode cX8_kind 62 = .ok (.iadd, 1) := by decide +kernel
theorem dX8_kind_63 : decode cX8_kind 63 = .ok (.istore 4, 2) := by decide +kernel
theorem dX8_kind_65 : decode cX8_kind 65 = .ok (.aload_n 0, 1) := by decide +kernel
theorem dX8_kind_66 : decode cX8_kind 66 = .ok (.getfield 10, 3) := by decide +kernel
theorem dX8_kind_69 : decode cX8_kind 69 = .ok (.iload_n 1, 1) := by decide +kernel
theorem dX8_kind_70 : decode cX8_kind 70 = .ok (.putfield 178, 3) := by decide +kernel
theorem dX8_kind_73 : decode cX8_kind 73 = .ok (.aload_n 0, 1) := by decide +kernel
theorem dX8_kind_74 : decode cX8_kind 74 = .ok (.getfield 10, 3) := by decide +kernel
theorem dX8_kind_77 : decode cX8_kind 77 = .ok (.iload_n 2, 1) := by decide +kernel
theorem dX8_kind_78 : decode cX8_kind 78 = .ok (.putfield 181, 3) := by decide +kernel
theorem dX8_kind_81 : decode cX8_kind 81 = .ok (.iload 4, 2) := by decide +kernel
theorem dX8_kind_83 : decode cX8_kind 83 = .ok (.ireturn, 1) := by decide +kernel
theorem dX8_back_0 : decode cX8_back 0 = .ok (.aload_n 0, 1) := by decide +kernel
theorem dX8_back_1 : decode cX8_back 1 = .ok (.getfield 25, 3) := by decide +kernel
theorem dX8_back_4 : decode cX8_back 4 = .ok (.getfield 184, 3) := by decide +kernel
theorem dX8_back_7 : decode cX8_back 7 = .ok (.ifCond .ne 10, 3) := by decide +kernel
theorem dX8_back_10 : decode cX8_back 10 = .ok (.aload_n 0, 1) := by decide +kernel
theorem dX8_back_11 : decode cX8_back 11 = .ok (.bipush (-3), 2) := by decide +kernel
theorem dX8_back_13 : decode cX8_back 13 = .ok (.invokevirtual 50, 3) := by decide +kernel
theorem dX8_back_16 : decode cX8_back 16 = .ok (.ireturn, 1) := by decide +kernel
theorem dX8_back_17 : decode cX8_back 17 = .ok (.aload_n 0, 1) := by decide +kernel
theorem dX8_back_18 : decode cX8_back 18 = .ok (.getfield 25, 3) := by decide +kernel
theorem dX8_back_21 : decode cX8_back 21 = .ok (.aload_n 0, 1) := by decide +kernel
theorem dX8_back_22 : decode cX8_back 22 = .ok (.getfield 10, 3) := by decide +kernel
theorem dX8_back_25 : decode cX8_back 25 = .ok (.invokevirtual 187, 3) := by decide +kernel
theorem dX8_back_28 : decode cX8_back 28 = .ok (.aload_n 0, 1) := by decide +kernel
theorem dX8_back_29 : decode cX8_back 29 = .ok (.getfield 25, 3) := by decide +kernel
theorem dX8_back_32 : decode cX8_back 32 = .ok (.getfield 184, 3) := by decide +kernel
theorem dX8_back_35 : decode cX8_back 35 = .ok (.ireturn, 1) := by decide +kernel
theorem dX8_word_0 : decode cX8_word 0 = .ok (.aload_n 0, 1) := by decide +kernel
theorem dX8_word_1 : decode cX8_word 1 = .ok (.getfield 10, 3) := by decide +kernel
theorem dX8_word_4 : decode cX8_word 4 = .ok (.getfield 106, 3) := by decide +kernel
theorem dX8_word_7 : decode cX8_word 7 = .ok (.iload_n 1, 1) := by decide +kernel
theorem dX8_word_8 : decode cX8_word 8 = .ok (.invokevirtual 121, 3) := by decide +kernel
theorem dX8_word_11 : decode cX8_word 11 = .ok (.ifCond .ne 9, 3) := by decide +kernel
theorem dX8_word_14 : decode cX8_word 14 = .ok (.aload_n 0, 1) := by decide +kernel
theorem dX8_word_15 : decode cX8_word 15 = .ok (.iconst (-1), 1) := by decide +kernel
theorem dX8_word_16 : decode cX8_word 16 = .ok (.invokevirtual 50, 3) := by decide +kernel
theorem dX8_word_19 : decode cX8_word 19 = .ok (.ireturn, 1) := by decide +kernel
theorem dX8_word_20 : decode cX8_word 20 = .ok (.iload_n 2, 1) := by decide +kernel
theorem dX8_word_21 : decode cX8_word 21 = .ok (.tableswitch 99 0 4 #[35, 47, 56, 76, 90], 35) := by decide +kernel
theorem dX8_word_56 : decode cX8_word 56 = .ok (.aload_n 0, 1) := by decide +kernel
theorem dX8_word_57 : decode cX8_word 57 = .ok (.getfield 10, 3) := by decide +kernel
theorem dX8_word_60 : decode cX8_word 60 = .ok (.getfield 106, 3) := by decide +kernel
theorem dX8_word_63 : decode cX8_word 63 = .ok (.iload_n 1, 1) := by decide +kernel
theorem dX8_word_64 : decode cX8_word 64 = .ok (.invokevirtual 190, 3) := by decide +kernel
theorem dX8_word_67 : decode cX8_word 67 = .ok (.ireturn, 1) := by decide +kernel
theorem dX8_word_68 : decode cX8_word 68 = .ok (.aload_n 0, 1) := by decide +kernel
theorem dX8_word_69 : decode cX8_word 69 = .ok (.getfield 10, 3) := by decide +kernel
theorem dX8_word_72 : decode cX8_word 72 = .ok (.iload_n 1, 1) := by decide +kernel
theorem dX8_word_73 : decode cX8_word 73 = .ok (.invokevirtual 193, 3) := by decide +kernel
theorem dX8_word_76 : decode cX8_word 76 = .ok (.ireturn, 1) := by decide +kernel
theorem dX8_word_77 : decode cX8_word 77 = .ok (.aload_n 0, 1) := by decide +kernel
theorem dX8_word_78 : decode cX8_word 78 = .ok (.getfield 10, 3) := by decide +kernel
theorem dX8_word_81 : decode cX8_word 81 = .ok (.getfield 106, 3) := by decide +kernel
theorem dX8_word_84 : decode cX8_word 84 = .ok (.iload_n 1, 1) := by decide +kernel
theorem dX8_word_85 : decode cX8_word 85 = .ok (.invokevirtual 196, 3) := by decide +kernel
theorem dX8_word_88 : decode cX8_word 88 = .ok (.ifCond .eq 7, 3) := by decide +kernel
theorem dX8_word_91 : decode cX8_word 91 = .ok (.iconst 1, 1) := by decide +kernel
theorem dX8_word_92 : decode cX8_word 92 = .ok (.goto 4, 3) := by decide +kernel
theorem dX8_word_95 : decode cX8_word 95 = .ok (.iconst 0, 1) := by decide +kernel
theorem dX8_word_96 : decode cX8_word 96 = .ok (.ireturn, 1) := by decide +kernel
theorem dX8_word_97 : decode cX8_word 97 = .ok (.iconst 1, 1) := by decide +kernel
theorem dX8_word_98 : decode cX8_word 98 = .ok (.aload_n 0, 1) := by decide +kernel
theorem dX8_word_99 : decode cX8_word 99 = .ok (.getfield 10, 3) := by decide +kernel
theorem dX8_word_102 : decode cX8_word 102 = .ok (.iload_n 1, 1) := by decide +kernel
theorem dX8_word_103 : decode cX8_word 103 = .ok (.invokevirtual 199, 3) := by decide +kernel
theorem dX8_word_106 : decode cX8_word 106 = .ok (.invokestatic 202, 3) := by decide +kernel
theorem dX8_word_109 : decode cX8_word 109 = .ok (.iadd, 1) := by decide +kernel
theorem dX8_word_110 : decode cX8_word 110 = .ok (.ireturn, 1) := by decide +kernel
theorem dX8_word_111 : decode cX8_word 111 = .ok (.aload_n 0, 1) := by decide +kernel
theorem dX8_word_112 : decode cX8_word 112 = .ok (.getfield 10, 3) := by decide +kernel
theorem dX8_word_115 : decode cX8_word 115 = .ok (.iload_n 1, 1) := by decide +kernel
theorem dX8_word_116 : decode cX8_word 116 = .ok (.invokevirtual 199, 3) := by decide +kernel
theorem dX8_word_119 : decode cX8_word 119 = .ok (.ireturn, 1) := by decide +kernel
theorem dX8_word_120 : decode cX8_word 120 = .ok (.aload_n 0, 1) := by decide +kernel
theorem dX8_word_121 : decode cX8_word 121 = .ok (.bipush (-2), 2) := by decide +kernel
theorem dX8_word_123 : decode cX8_word 123 = .ok (.invokevirtual 50, 3) := by decide +kernel
theorem dX8_word_126 : decode cX8_word 126 = .ok (.ireturn, 1) := by decide +kernel
theorem dX8_spelt_0 : decode cX8_spelt 0 = .ok (.aload_n 0, 1) := by decide +kernel
theorem dX8_spelt_1 : decode cX8_spelt 1 = .ok (.getfield 10, 3) := by decide +kernel
theorem dX8_spelt_4 : decode cX8_spelt 4 = .ok (.getfield 106, 3) := by decide +kernel
theorem dX8_spelt_7 : decode cX8_spelt 7 = .ok (.iload_n 1, 1) := by decide +kernel
theorem dX8_spelt_8 : decode cX8_spelt 8 = .ok (.invokevirtual 121, 3) := by decide +kernel
theorem dX8_spelt_11 : decode cX8_spelt 11 = .ok (.ifCond .eq 22, 3) := by decide +kernel
theorem dX8_spelt_14 : decode cX8_spelt 14 = .ok (.iload_n 2, 1) := by decide +kernel
theorem dX8_spelt_15 : decode cX8_spelt 15 = .ok (.ifCond .lt 18, 3) := by decide +kernel
theorem dX8_spelt_18 : decode cX8_spelt 18 = .ok (.iload_n 2, 1) := by decide +kernel
theorem dX8_spelt_19 : decode cX8_spelt 19 = .ok (.aload_n 0, 1) := by decide +kernel
theorem dX8_spelt_20 : decode cX8_spelt 20 = .ok (.getfield 10, 3) := by decide +kernel
theorem dX8_spelt_23 : decode cX8_spelt 23 = .ok (.getfield 106, 3) := by decide +kernel
theorem dX8_spelt_26 : decode cX8_spelt 26 = .ok (.iload_n 1, 1) := by decide +kernel
theorem dX8_spelt_27 : decode cX8_spelt 27 = .ok (.invokevirtual 190, 3) := by decide +kernel
theorem dX8_spelt_30 : decode cX8_spelt 30 = .ok (.if_icmp .lt 9, 3) := by decide +kernel
theorem dX8_spelt_33 : decode cX8_spelt 33 = .ok (.aload_n 0, 1) := by decide +kernel
theorem dX8_spelt_34 : decode cX8_spelt 34 = .ok (.iconst (-1), 1) := by decide +kernel
theorem dX8_spelt_35 : decode cX8_spelt 35 = .ok (.invokevirtual 50, 3) := by decide +kernel
theorem dX8_spelt_38 : decode cX8_spelt 38 = .ok (.ireturn, 1) := by decide +kernel
theorem dX8_spelt_39 : decode cX8_spelt 39 = .ok (.aload_n 0, 1) := by decide +kernel
theorem dX8_spelt_40 : decode cX8_spelt 40 = .ok (.getfield 10, 3) := by decide +kernel
theorem dX8_spelt_43 : decode cX8_spelt 43 = .ok (.getfield 106, 3) := by decide +kernel
theorem dX8_spelt_46 : decode cX8_spelt 46 = .ok (.iload_n 1, 1) := by decide +kernel
theorem dX8_spelt_47 : decode cX8_spelt 47 = .ok (.invokevirtual 207, 3) := by decide +kernel
theorem dX8_spelt_50 : decode cX8_spelt 50 = .ok (.iload_n 2, 1) := by decide +kernel
theorem dX8_spelt_51 : decode cX8_spelt 51 = .ok (.invokestatic 210, 3) := by decide +kernel
theorem dX8_spelt_54 : decode cX8_spelt 54 = .ok (.ireturn, 1) := by decide +kernel
theorem dX8_values_0 : decode cX8_values 0 = .ok (.aload_n 0, 1) := by decide +kernel
theorem dX8_values_1 : decode cX8_values 1 = .ok (.getfield 10, 3) := by decide +kernel
theorem dX8_values_4 : decode cX8_values 4 = .ok (.getfield 106, 3) := by decide +kernel
theorem dX8_values_7 : decode cX8_values 7 = .ok (.iload_n 1, 1) := by decide +kernel
theorem dX8_values_8 : decode cX8_values 8 = .ok (.invokevirtual 121, 3) := by decide +kernel
theorem dX8_values_11 : decode cX8_values 11 = .ok (.ifCond .eq 22, 3) := by decide +kernel
theorem dX8_values_14 : decode cX8_values 14 = .ok (.iload_n 2, 1) := by decide +kernel
theorem dX8_values_15 : decode cX8_values 15 = .ok (.ifCond .lt 18, 3) := by decide +kernel
theorem dX8_values_18 : decode cX8_values 18 = .ok (.iload_n 2, 1) := by decide +kernel
theorem dX8_values_19 : decode cX8_values 19 = .ok (.aload_n 0, 1) := by decide +kernel
theorem dX8_values_20 : decode cX8_values 20 = .ok (.getfield 10, 3) := by decide +kernel
theorem dX8_values_23 : decode cX8_values 23 = .ok (.getfield 106, 3) := by decide +kernel
theorem dX8_values_26 : decode cX8_values 26 = .ok (.iload_n 1, 1) := by decide +kernel
theorem dX8_values_27 : decode cX8_values 27 = .ok (.invokevirtual 190, 3) := by decide +kernel
theorem dX8_values_30 : decode cX8_values 30 = .ok (.if_icmp .le 9, 3) := by decide +kernel
theorem dX8_values_33 : decode cX8_values 33 = .ok (.aload_n 0, 1) := by decide +kernel
theorem dX8_values_34 : decode cX8_values 34 = .ok (.iconst (-1), 1) := by decide +kernel
theorem dX8_values_35 : decode cX8_values 35 = .ok (.invokevirtual 50, 3) := by decide +kernel
theorem dX8_values_38 : decode cX8_values 38 = .ok (.ireturn, 1) := by decide +kernel
theorem dX8_values_39 : decode cX8_values 39 = .ok (.aload_n 0, 1) := by decide +kernel
theorem dX8_values_40 : decode cX8_values 40 = .ok (.getfield 10, 3) := by decide +kernel
theorem dX8_values_43 : decode cX8_values 43 = .ok (.getfield 130, 3) := by decide +kernel
theorem dX8_values_46 : decode cX8_values 46 = .ok (.aload_n 0, 1) := by decide +kernel
theorem dX8_values_47 : decode cX8_values 47 = .ok (.getfield 10, 3) := by decide +kernel
theorem dX8_values_50 : decode cX8_values 50 = .ok (.getfield 106, 3) := by decide +kernel
theorem dX8_values_53 : decode cX8_values 53 = .ok (.iload_n 1, 1) := by decide +kernel
theorem dX8_values_54 : decode cX8_values 54 = .ok (.invokevirtual 207, 3) := by decide +kernel
theorem dX8_values_57 : decode cX8_values 57 = .ok (.iload_n 2, 1) := by decide +kernel
theorem dX8_values_58 : decode cX8_values 58 = .ok (.invokevirtual 213, 3) := by decide +kernel
theorem dX8_values_61 : decode cX8_values 61 = .ok (.ireturn, 1) := by decide +kernel
theorem dX8_pattern_0 : decode cX8_pattern 0 = .ok (.aload_n 0, 1) := by decide +kernel
theorem dX8_pattern_1 : decode cX8_pattern 1 = .ok (.getfield 10, 3) := by decide +kernel
theorem dX8_pattern_4 : decode cX8_pattern 4 = .ok (.getfield 130, 3) := by decide +kernel
theorem dX8_pattern_7 : decode cX8_pattern 7 = .ok (.iload_n 1, 1) := by decide +kernel
theorem dX8_pattern_8 : decode cX8_pattern 8 = .ok (.invokevirtual 216, 3) := by decide +kernel
theorem dX8_pattern_11 : decode cX8_pattern 11 = .ok (.ifCond .ne 9, 3) := by decide +kernel
theorem dX8_pattern_14 : decode cX8_pattern 14 = .ok (.aload_n 0, 1) := by decide +kernel
theorem dX8_pattern_15 : decode cX8_pattern 15 = .ok (.iconst (-1), 1) := by decide +kernel
theorem dX8_pattern_16 : decode cX8_pattern 16 = .ok (.invokevirtual 50, 3) := by decide +kernel
theorem dX8_pattern_19 : decode cX8_pattern 19 = .ok (.ireturn, 1) := by decide +kernel
theorem dX8_pattern_20 : decode cX8_pattern 20 = .ok (.iload_n 2, 1) := by decide +kernel
theorem dX8_pattern_21 : decode cX8_pattern 21 = .ok (.tableswitch 88 0 3 #[31, 46, 61, 76], 31) := by decide +kernel
theorem dX8_pattern_52 : decode cX8_pattern 52 = .ok (.aload_n 0, 1) := by decide +kernel
theorem dX8_pattern_53 : decode cX8_pattern 53 = .ok (.getfield 10, 3) := by decide +kernel
theorem dX8_pattern_56 : decode cX8_pattern 56 = .ok (.getfield 130, 3) := by decide +kernel
theorem dX8_pattern_59 : decode cX8_pattern 59 = .ok (.getfield 217, 3) := by decide +kernel
theorem dX8_pattern_62 : decode cX8_pattern 62 = .ok (.iload_n 1, 1) := by decide +kernel
theorem dX8_pattern_63 : decode cX8_pattern 63 = .ok (.invokestatic 95, 3) := by decide +kernel
theorem dX8_pattern_66 : decode cX8_pattern 66 = .ok (.ireturn, 1) := by decide +kernel
theorem dX8_pattern_67 : decode cX8_pattern 67 = .ok (.aload_n 0, 1) := by decide +kernel
theorem dX8_pattern_68 : decode cX8_pattern 68 = .ok (.getfield 10, 3) := by decide +kernel
theorem dX8_pattern_71 : decode cX8_pattern 71 = .ok (.getfield 130, 3) := by decide +kernel
theorem dX8_pattern_74 : decode cX8_pattern 74 = .ok (.getfield 220, 3) := by decide +kernel
theorem dX8_pattern_77 : decode cX8_pattern 77 = .ok (.iload_n 1, 1) := by decide +kernel
theorem dX8_pattern_78 : decode cX8_pattern 78 = .ok (.invokestatic 95, 3) := by decide +kernel
theorem dX8_pattern_81 : decode cX8_pattern 81 = .ok (.ireturn, 1) := by decide +kernel
theorem dX8_pattern_82 : decode cX8_pattern 82 = .ok (.aload_n 0, 1) := by decide +kernel
theorem dX8_pattern_83 : decode cX8_pattern 83 = .ok (.getfield 10, 3) := by decide +kernel
theorem dX8_pattern_86 : decode cX8_pattern 86 = .ok (.getfield 130, 3) := by decide +kernel
theorem dX8_pattern_89 : decode cX8_pattern 89 = .ok (.getfield 223, 3) := by decide +kernel
theorem dX8_pattern_92 : decode cX8_pattern 92 = .ok (.iload_n 1, 1) := by decide +kernel
theorem dX8_pattern_93 : decode cX8_pattern 93 = .ok (.invokestatic 95, 3) := by decide +kernel
theorem dX8_pattern_96 : decode cX8_pattern 96 = .ok (.ireturn, 1) := by decide +kernel
theorem dX8_pattern_97 : decode cX8_pattern 97 = .ok (.aload_n 0, 1) := by decide +kernel
theorem dX8_pattern_98 : decode cX8_pattern 98 = .ok (.getfield 10, 3) := by decide +kernel
theorem dX8_pattern_101 : decode cX8_pattern 101 = .ok (.getfield 130, 3) := by decide +kernel
theorem dX8_pattern_104 : decode cX8_pattern 104 = .ok (.iload_n 1, 1) := by decide +kernel
theorem dX8_pattern_105 : decode cX8_pattern 105 = .ok (.invokevirtual 226, 3) := by decide +kernel
theorem dX8_pattern_108 : decode cX8_pattern 108 = .ok (.ireturn, 1) := by decide +kernel
theorem dX8_pattern_109 : decode cX8_pattern 109 = .ok (.aload_n 0, 1) := by decide +kernel
theorem dX8_pattern_110 : decode cX8_pattern 110 = .ok (.bipush (-2), 2) := by decide +kernel
theorem dX8_pattern_112 : decode cX8_pattern 112 = .ok (.invokevirtual 50, 3) := by decide +kernel
theorem dX8_pattern_115 : decode cX8_pattern 115 = .ok (.ireturn, 1) := by decide +kernel
theorem dX8_lines_0 : decode cX8_lines 0 = .ok (.iload_n 1, 1) := by decide +kernel
theorem dX8_lines_1 : decode cX8_lines 1 = .ok (.bipush 6, 2) := by decide +kernel
theorem dX8_lines_3 : decode cX8_lines 3 = .ok (.invokestatic 171, 3) := by decide +kernel
theorem dX8_lines_6 : decode cX8_lines 6 = .ok (.ifCond .eq 10, 3) := by decide +kernel
theorem dX8_lines_9 : decode cX8_lines 9 = .ok (.aload_n 0, 1) := by decide +kernel
theorem dX8_lines_10 : decode cX8_lines 10 = .ok (.bipush (-2), 2) := by decide +kernel
theorem dX8_lines_12 : decode cX8_lines 12 = .ok (.invokevirtual 50, 3) := by decide +kernel
theorem dX8_lines_15 : decode cX8_lines 15 = .ok (.ireturn, 1) := by decide +kernel
theorem dX8_lines_16 : decode cX8_lines 16 = .ok (.aload_n 0, 1) := by decide +kernel
theorem dX8_lines_17 : decode cX8_lines 17 = .ok (.getfield 39, 3) := by decide +kernel
theorem dX8_lines_20 : decode cX8_lines 20 = .ok (.aload_n 0, 1) := by decide +kernel
theorem dX8_lines_21 : decode cX8_lines 21 = .ok (.getfield 10, 3) := by decide +kernel
theorem dX8_lines_24 : decode cX8_lines 24 = .ok (.iconst 0, 1) := by decide +kernel
theorem dX8_lines_25 : decode cX8_lines 25 = .ok (.invokevirtual 229, 3) := by decide +kernel
theorem dX8_lines_28 : decode cX8_lines 28 = .ok (.istore_n 2, 1) := by decide +kernel
theorem dX8_lines_29 : decode cX8_lines 29 = .ok (.iload_n 1, 1) := by decide +kernel
theorem dX8_lines_30 : decode cX8_lines 30 = .ok (.iconst 5, 1) := by decide +kernel
theorem dX8_lines_31 : decode cX8_lines 31 = .ok (.if_icmp .ne 14, 3) := by decide +kernel
theorem dX8_lines_34 : decode cX8_lines 34 = .ok (.aload_n 0, 1) := by decide +kernel
theorem dX8_lines_35 : decode cX8_lines 35 = .ok (.getfield 39, 3) := by decide +kernel
theorem dX8_lines_38 : decode cX8_lines 38 = .ok (.getfield 233, 3) := by decide +kernel
theorem dX8_lines_41 : decode cX8_lines 41 = .ok (.getfield 237, 3) := by decide +kernel
theorem dX8_lines_44 : decode cX8_lines 44 = .ok (.ireturn, 1) := by decide +kernel
theorem dX8_lines_45 : decode cX8_lines 45 = .ok (.iload_n 1, 1) := by decide +kernel
theorem dX8_lines_46 : decode cX8_lines 46 = .ok (.ifCond .eq 9, 3) := by decide +kernel
theorem dX8_lines_49 : decode cX8_lines 49 = .ok (.iload_n 2, 1) := by decide +kernel
theorem dX8_lines_50 : decode cX8_lines 50 = .ok (.bipush (-9), 2) := by decide +kernel
theorem dX8_lines_52 : decode cX8_lines 52 = .ok (.if_icmp .ne 5, 3) := by decide +kernel
theorem dX8_lines_55 : decode cX8_lines 55 = .ok (.iload_n 2, 1) := by decide +kernel
theorem dX8_lines_56 : decode cX8_lines 56 = .ok (.ireturn, 1) := by decide +kernel
theorem dX8_lines_57 : decode cX8_lines 57 = .ok (.iload_n 1, 1) := by decide +kernel
theorem dX8_lines_58 : decode cX8_lines 58 = .ok (.iconst 1, 1) := by decide +kernel
theorem dX8_lines_59 : decode cX8_lines 59 = .ok (.if_icmp .ne 11, 3) := by decide +kernel
theorem dX8_lines_62 : decode cX8_lines 62 = .ok (.aload_n 0, 1) := by decide +kernel
theorem dX8_lines_63 : decode cX8_lines 63 = .ok (.getfield 39, 3) := by decide +kernel
theorem dX8_lines_66 : decode cX8_lines 66 = .ok (.invokevirtual 240, 3) := by decide +kernel
theorem dX8_lines_69 : decode cX8_lines 69 = .ok (.ireturn, 1) := by decide +kernel
theorem dX8_lines_70 : decode cX8_lines 70 = .ok (.iload_n 1, 1) := by decide +kernel
theorem dX8_lines_71 : decode cX8_lines 71 = .ok (.iconst 2, 1) := by decide +kernel
theorem dX8_lines_72 : decode cX8_lines 72 = .ok (.if_icmp .ne 13, 3) := by decide +kernel
theorem dX8_lines_75 : decode cX8_lines 75 = .ok (.aload_n 0, 1) := by decide +kernel
theorem dX8_lines_76 : decode cX8_lines 76 = .ok (.getfield 39, 3) := by decide +kernel
theorem dX8_lines_79 : decode cX8_lines 79 = .ok (.invokevirtual 243, 3) := by decide +kernel
theorem dX8_lines_82 : decode cX8_lines 82 = .ok (.goto 20, 3) := by decide +kernel
theorem dX8_lines_85 : decode cX8_lines 85 = .ok (.aload_n 0, 1) := by decide +kernel
theorem dX8_lines_86 : decode cX8_lines 86 = .ok (.getfield 39, 3) := by decide +kernel
theorem dX8_lines_89 : decode cX8_lines 89 = .ok (.iload_n 1, 1) := by decide +kernel
theorem dX8_lines_90 : decode cX8_lines 90 = .ok (.iconst 3, 1) := by decide +kernel
theorem dX8_lines_91 : decode cX8_lines 91 = .ok (.if_icmp .ne 7, 3) := by decide +kernel
theorem dX8_lines_94 : decode cX8_lines 94 = .ok (.iconst 1, 1) := by decide +kernel
theorem dX8_lines_95 : decode cX8_lines 95 = .ok (.goto 4, 3) := by decide +kernel
theorem dX8_lines_98 : decode cX8_lines 98 = .ok (.iconst 0, 1) := by decide +kernel
theorem dX8_lines_99 : decode cX8_lines 99 = .ok (.invokevirtual 246, 3) := by decide +kernel
theorem dX8_lines_102 : decode cX8_lines 102 = .ok (.ireturn, 1) := by decide +kernel
theorem dX8_lineOf_0 : decode cX8_lineOf 0 = .ok (.aload_n 0, 1) := by decide +kernel
theorem dX8_lineOf_1 : decode cX8_lineOf 1 = .ok (.iload_n 1, 1) := by decide +kernel
theorem dX8_lineOf_2 : decode cX8_lineOf 2 = .ok (.invokevirtual 250, 3) := by decide +kernel
theorem dX8_lineOf_5 : decode cX8_lineOf 5 = .ok (.ifCond .ne 9, 3) := by decide +kernel
theorem dX8_lineOf_8 : decode cX8_lineOf 8 = .ok (.aload_n 0, 1) := by decide +kernel
theorem dX8_lineOf_9 : decode cX8_lineOf 9 = .ok (.iconst (-1), 1) := by decide +kernel
theorem dX8_lineOf_10 : decode cX8_lineOf 10 = .ok (.invokevirtual 50, 3) := by decide +kernel
theorem dX8_lineOf_13 : decode cX8_lineOf 13 = .ok (.ireturn, 1) := by decide +kernel
theorem dX8_lineOf_14 : decode cX8_lineOf 14 = .ok (.iload_n 2, 1) := by decide +kernel
theorem dX8_lineOf_15 : decode cX8_lineOf 15 = .ok (.tableswitch 88 0 4 #[33, 44, 55, 66, 77], 33) := by decide +kernel
theorem dX8_lineOf_48 : decode cX8_lineOf 48 = .ok (.aload_n 0, 1) := by decide +kernel
theorem dX8_lineOf_49 : decode cX8_lineOf 49 = .ok (.getfield 39, 3) := by decide +kernel
theorem dX8_lineOf_52 : decode cX8_lineOf 52 = .ok (.getfield 253, 3) := by decide +kernel
theorem dX8_lineOf_55 : decode cX8_lineOf 55 = .ok (.getfield 256, 3) := by decide +kernel
theorem dX8_lineOf_58 : decode cX8_lineOf 58 = .ok (.ireturn, 1) := by decide +kernel
theorem dX8_lineOf_59 : decode cX8_lineOf 59 = .ok (.aload_n 0, 1) := by decide +kernel
theorem dX8_lineOf_60 : decode cX8_lineOf 60 = .ok (.getfield 39, 3) := by decide +kernel
theorem dX8_lineOf_63 : decode cX8_lineOf 63 = .ok (.getfield 253, 3) := by decide +kernel
theorem dX8_lineOf_66 : decode cX8_lineOf 66 = .ok (.invokevirtual 261, 3) := by decide +kernel
theorem dX8_lineOf_69 : decode cX8_lineOf 69 = .ok (.ireturn, 1) := by decide +kernel
theorem dX8_lineOf_70 : decode cX8_lineOf 70 = .ok (.aload_n 0, 1) := by decide +kernel
theorem dX8_lineOf_71 : decode cX8_lineOf 71 = .ok (.getfield 39, 3) := by decide +kernel
theorem dX8_lineOf_74 : decode cX8_lineOf 74 = .ok (.getfield 253, 3) := by decide +kernel
theorem dX8_lineOf_77 : decode cX8_lineOf 77 = .ok (.getfield 264, 3) := by decide +kernel
theorem dX8_lineOf_80 : decode cX8_lineOf 80 = .ok (.ireturn, 1) := by decide +kernel
theorem dX8_lineOf_81 : decode cX8_lineOf 81 = .ok (.aload_n 0, 1) := by decide +kernel
theorem dX8_lineOf_82 : decode cX8_lineOf 82 = .ok (.getfield 39, 3) := by decide +kernel
theorem dX8_lineOf_85 : decode cX8_lineOf 85 = .ok (.getfield 253, 3) := by decide +kernel
theorem dX8_lineOf_88 : decode cX8_lineOf 88 = .ok (.getfield 267, 3) := by decide +kernel
theorem dX8_lineOf_91 : decode cX8_lineOf 91 = .ok (.ireturn, 1) := by decide +kernel
theorem dX8_lineOf_92 : decode cX8_lineOf 92 = .ok (.aload_n 0, 1) := by decide +kernel
