theorem dX9_passesAll_186 : decode cX9_passesAll 186 = .ok (.aload_n 0, 1) := by decide +kernel
theorem dX9_passesAll_187 : decode cX9_passesAll 187 = .ok (.aload_n 0, 1) := by decide +kernel
theorem dX9_passesAll_188 : decode cX9_passesAll 188 = .ok (.aload_n 0, 1) := by decide +kernel
theorem dX9_passesAll_189 : decode cX9_passesAll 189 = .ok (.getfield 189, 3) := by decide +kernel
theorem dX9_passesAll_192 : decode cX9_passesAll 192 = .ok (.invokevirtual 302, 3) := by decide +kernel
theorem dX9_passesAll_195 : decode cX9_passesAll 195 = .ok (.putfield 189, 3) := by decide +kernel
theorem dX9_passesAll_198 : decode cX9_passesAll 198 = .ok (.aload_n 0, 1) := by decide +kernel
theorem dX9_passesAll_199 : decode cX9_passesAll 199 = .ok (.aload_n 0, 1) := by decide +kernel
theorem dX9_passesAll_200 : decode cX9_passesAll 200 = .ok (.aload_n 0, 1) := by decide +kernel
theorem dX9_passesAll_201 : decode cX9_passesAll 201 = .ok (.getfield 129, 3) := by decide +kernel
theorem dX9_passesAll_204 : decode cX9_passesAll 204 = .ok (.invokevirtual 302, 3) := by decide +kernel
theorem dX9_passesAll_207 : decode cX9_passesAll 207 = .ok (.putfield 129, 3) := by decide +kernel
theorem dX9_passesAll_210 : decode cX9_passesAll 210 = .ok (.aload_n 0, 1) := by decide +kernel
theorem dX9_passesAll_211 : decode cX9_passesAll 211 = .ok (.aload_n 0, 1) := by decide +kernel
theorem dX9_passesAll_212 : decode cX9_passesAll 212 = .ok (.aload_n 0, 1) := by decide +kernel
theorem dX9_passesAll_213 : decode cX9_passesAll 213 = .ok (.getfield 132, 3) := by decide +kernel
theorem dX9_passesAll_216 : decode cX9_passesAll 216 = .ok (.invokevirtual 302, 3) := by decide +kernel
theorem dX9_passesAll_219 : decode cX9_passesAll 219 = .ok (.putfield 132, 3) := by decide +kernel
theorem dX9_passesAll_222 : decode cX9_passesAll 222 = .ok (.return_, 1) := by decide +kernel
theorem dX9_minds_0 : decode cX9_minds 0 = .ok (.aload_n 0, 1) := by decide +kernel
theorem dX9_minds_1 : decode cX9_minds 1 = .ok (.iconst 2, 1) := by decide +kernel
theorem dX9_minds_2 : decode cX9_minds 2 = .ok (.iconst 1, 1) := by decide +kernel
theorem dX9_minds_3 : decode cX9_minds 3 = .ok (.invokevirtual 281, 3) := by decide +kernel
theorem dX9_minds_6 : decode cX9_minds 6 = .ok (.return_, 1) := by decide +kernel
theorem dX9_forgets_0 : decode cX9_forgets 0 = .ok (.aload_n 0, 1) := by decide +kernel
theorem dX9_forgets_1 : decode cX9_forgets 1 = .ok (.iconst 2, 1) := by decide +kernel
theorem dX9_forgets_2 : decode cX9_forgets 2 = .ok (.iconst 0, 1) := by decide +kernel
theorem dX9_forgets_3 : decode cX9_forgets 3 = .ok (.invokevirtual 281, 3) := by decide +kernel
theorem dX9_forgets_6 : decode cX9_forgets 6 = .ok (.return_, 1) := by decide +kernel
theorem dX9_remembers_0 : decode cX9_remembers 0 = .ok (.aload_n 0, 1) := by decide +kernel
theorem dX9_remembers_1 : decode cX9_remembers 1 = .ok (.getfield 288, 3) := by decide +kernel
theorem dX9_remembers_4 : decode cX9_remembers 4 = .ok (.bipush 8, 2) := by decide +kernel
theorem dX9_remembers_6 : decode cX9_remembers 6 = .ok (.if_icmp .ne 19, 3) := by decide +kernel
theorem dX9_remembers_9 : decode cX9_remembers 9 = .ok (.aload_n 0, 1) := by decide +kernel
theorem dX9_remembers_10 : decode cX9_remembers 10 = .ok (.aload_n 0, 1) := by decide +kernel
theorem dX9_remembers_11 : decode cX9_remembers 11 = .ok (.getfield 305, 3) := by decide +kernel
theorem dX9_remembers_14 : decode cX9_remembers 14 = .ok (.iconst 1, 1) := by decide +kernel
theorem dX9_remembers_15 : decode cX9_remembers 15 = .ok (.iadd, 1) := by decide +kernel
theorem dX9_remembers_16 : decode cX9_remembers 16 = .ok (.bipush 8, 2) := by decide +kernel
theorem dX9_remembers_18 : decode cX9_remembers 18 = .ok (.irem, 1) := by decide +kernel
theorem dX9_remembers_19 : decode cX9_remembers 19 = .ok (.putfield 305, 3) := by decide +kernel
theorem dX9_remembers_22 : decode cX9_remembers 22 = .ok (.goto 13, 3) := by decide +kernel
theorem dX9_remembers_25 : decode cX9_remembers 25 = .ok (.aload_n 0, 1) := by decide +kernel
theorem dX9_remembers_26 : decode cX9_remembers 26 = .ok (.dup, 1) := by decide +kernel
theorem dX9_remembers_27 : decode cX9_remembers 27 = .ok (.getfield 288, 3) := by decide +kernel
theorem dX9_remembers_30 : decode cX9_remembers 30 = .ok (.iconst 1, 1) := by decide +kernel
theorem dX9_remembers_31 : decode cX9_remembers 31 = .ok (.iadd, 1) := by decide +kernel
theorem dX9_remembers_32 : decode cX9_remembers 32 = .ok (.putfield 288, 3) := by decide +kernel
theorem dX9_remembers_35 : decode cX9_remembers 35 = .ok (.aload_n 0, 1) := by decide +kernel
theorem dX9_remembers_36 : decode cX9_remembers 36 = .ok (.iconst 3, 1) := by decide +kernel
theorem dX9_remembers_37 : decode cX9_remembers 37 = .ok (.aload_n 0, 1) := by decide +kernel
theorem dX9_remembers_38 : decode cX9_remembers 38 = .ok (.getfield 305, 3) := by decide +kernel
theorem dX9_remembers_41 : decode cX9_remembers 41 = .ok (.aload_n 0, 1) := by decide +kernel
theorem dX9_remembers_42 : decode cX9_remembers 42 = .ok (.getfield 288, 3) := by decide +kernel
theorem dX9_remembers_45 : decode cX9_remembers 45 = .ok (.iadd, 1) := by decide +kernel
theorem dX9_remembers_46 : decode cX9_remembers 46 = .ok (.iconst 1, 1) := by decide +kernel
theorem dX9_remembers_47 : decode cX9_remembers 47 = .ok (.isub, 1) := by decide +kernel
theorem dX9_remembers_48 : decode cX9_remembers 48 = .ok (.bipush 8, 2) := by decide +kernel
theorem dX9_remembers_50 : decode cX9_remembers 50 = .ok (.irem, 1) := by decide +kernel
theorem dX9_remembers_51 : decode cX9_remembers 51 = .ok (.iadd, 1) := by decide +kernel
theorem dX9_remembers_52 : decode cX9_remembers 52 = .ok (.iconst 1, 1) := by decide +kernel
theorem dX9_remembers_53 : decode cX9_remembers 53 = .ok (.invokevirtual 281, 3) := by decide +kernel
theorem dX9_remembers_56 : decode cX9_remembers 56 = .ok (.return_, 1) := by decide +kernel
theorem dX9_back_0 : decode cX9_back 0 = .ok (.aload_n 0, 1) := by decide +kernel
theorem dX9_back_1 : decode cX9_back 1 = .ok (.getfield 288, 3) := by decide +kernel
theorem dX9_back_4 : decode cX9_back 4 = .ok (.ifCond .ne 10, 3) := by decide +kernel
theorem dX9_back_7 : decode cX9_back 7 = .ok (.aload_n 0, 1) := by decide +kernel
theorem dX9_back_8 : decode cX9_back 8 = .ok (.bipush (-3), 2) := by decide +kernel
theorem dX9_back_10 : decode cX9_back 10 = .ok (.invokevirtual 224, 3) := by decide +kernel
theorem dX9_back_13 : decode cX9_back 13 = .ok (.ireturn, 1) := by decide +kernel
theorem dX9_back_14 : decode cX9_back 14 = .ok (.aload_n 0, 1) := by decide +kernel
theorem dX9_back_15 : decode cX9_back 15 = .ok (.iconst 3, 1) := by decide +kernel
theorem dX9_back_16 : decode cX9_back 16 = .ok (.aload_n 0, 1) := by decide +kernel
theorem dX9_back_17 : decode cX9_back 17 = .ok (.getfield 305, 3) := by decide +kernel
theorem dX9_back_20 : decode cX9_back 20 = .ok (.aload_n 0, 1) := by decide +kernel
theorem dX9_back_21 : decode cX9_back 21 = .ok (.getfield 288, 3) := by decide +kernel
theorem dX9_back_24 : decode cX9_back 24 = .ok (.iadd, 1) := by decide +kernel
theorem dX9_back_25 : decode cX9_back 25 = .ok (.iconst 1, 1) := by decide +kernel
theorem dX9_back_26 : decode cX9_back 26 = .ok (.isub, 1) := by decide +kernel
theorem dX9_back_27 : decode cX9_back 27 = .ok (.bipush 8, 2) := by decide +kernel
theorem dX9_back_29 : decode cX9_back 29 = .ok (.irem, 1) := by decide +kernel
theorem dX9_back_30 : decode cX9_back 30 = .ok (.iadd, 1) := by decide +kernel
theorem dX9_back_31 : decode cX9_back 31 = .ok (.iconst 0, 1) := by decide +kernel
theorem dX9_back_32 : decode cX9_back 32 = .ok (.invokevirtual 281, 3) := by decide +kernel
theorem dX9_back_35 : decode cX9_back 35 = .ok (.aload_n 0, 1) := by decide +kernel
theorem dX9_back_36 : decode cX9_back 36 = .ok (.dup, 1) := by decide +kernel
theorem dX9_back_37 : decode cX9_back 37 = .ok (.getfield 288, 3) := by decide +kernel
theorem dX9_back_40 : decode cX9_back 40 = .ok (.iconst 1, 1) := by decide +kernel
theorem dX9_back_41 : decode cX9_back 41 = .ok (.isub, 1) := by decide +kernel
theorem dX9_back_42 : decode cX9_back 42 = .ok (.putfield 288, 3) := by decide +kernel
theorem dX9_back_45 : decode cX9_back 45 = .ok (.aload_n 0, 1) := by decide +kernel
theorem dX9_back_46 : decode cX9_back 46 = .ok (.getfield 288, 3) := by decide +kernel
theorem dX9_back_49 : decode cX9_back 49 = .ok (.ireturn, 1) := by decide +kernel
theorem dX9_image_0 : decode cX9_image 0 = .ok (.aload_n 0, 1) := by decide +kernel
theorem dX9_image_1 : decode cX9_image 1 = .ok (.iconst 1, 1) := by decide +kernel
theorem dX9_image_2 : decode cX9_image 2 = .ok (.putfield 308, 3) := by decide +kernel
theorem dX9_image_5 : decode cX9_image 5 = .ok (.aload_n 0, 1) := by decide +kernel
theorem dX9_image_6 : decode cX9_image 6 = .ok (.iconst 0, 1) := by decide +kernel
theorem dX9_image_7 : decode cX9_image 7 = .ok (.iconst 1, 1) := by decide +kernel
theorem dX9_image_8 : decode cX9_image 8 = .ok (.invokevirtual 281, 3) := by decide +kernel
theorem dX9_image_11 : decode cX9_image 11 = .ok (.aload_n 0, 1) := by decide +kernel
theorem dX9_image_12 : decode cX9_image 12 = .ok (.getfield 122, 3) := by decide +kernel
theorem dX9_image_15 : decode cX9_image 15 = .ok (.ireturn, 1) := by decide +kernel
theorem dX9_on_0 : decode cX9_on 0 = .ok (.aload_n 0, 1) := by decide +kernel
theorem dX9_on_1 : decode cX9_on 1 = .ok (.getfield 308, 3) := by decide +kernel
theorem dX9_on_4 : decode cX9_on 4 = .ok (.ifCond .ne 10, 3) := by decide +kernel
theorem dX9_on_7 : decode cX9_on 7 = .ok (.aload_n 0, 1) := by decide +kernel
theorem dX9_on_8 : decode cX9_on 8 = .ok (.bipush (-3), 2) := by decide +kernel
theorem dX9_on_10 : decode cX9_on 10 = .ok (.invokevirtual 224, 3) := by decide +kernel
theorem dX9_on_13 : decode cX9_on 13 = .ok (.ireturn, 1) := by decide +kernel
theorem dX9_on_14 : decode cX9_on 14 = .ok (.aload_n 0, 1) := by decide +kernel
theorem dX9_on_15 : decode cX9_on 15 = .ok (.iconst 0, 1) := by decide +kernel
theorem dX9_on_16 : decode cX9_on 16 = .ok (.iconst 0, 1) := by decide +kernel
theorem dX9_on_17 : decode cX9_on 17 = .ok (.invokevirtual 281, 3) := by decide +kernel
theorem dX9_on_20 : decode cX9_on 20 = .ok (.aload_n 0, 1) := by decide +kernel
theorem dX9_on_21 : decode cX9_on 21 = .ok (.iconst 0, 1) := by decide +kernel
theorem dX9_on_22 : decode cX9_on 22 = .ok (.putfield 288, 3) := by decide +kernel
theorem dX9_on_25 : decode cX9_on 25 = .ok (.aload_n 0, 1) := by decide +kernel
theorem dX9_on_26 : decode cX9_on 26 = .ok (.getfield 122, 3) := by decide +kernel
theorem dX9_on_29 : decode cX9_on 29 = .ok (.ireturn, 1) := by decide +kernel
theorem dX9_widens_0 : decode cX9_widens 0 = .ok (.iload_n 1, 1) := by decide +kernel
theorem dX9_widens_1 : decode cX9_widens 1 = .ok (.invokestatic 311, 3) := by decide +kernel
theorem dX9_widens_4 : decode cX9_widens 4 = .ok (.ifCond .ne 7, 3) := by decide +kernel
theorem dX9_widens_7 : decode cX9_widens 7 = .ok (.iconst (-1), 1) := by decide +kernel
theorem dX9_widens_8 : decode cX9_widens 8 = .ok (.goto 10, 3) := by decide +kernel
theorem dX9_widens_11 : decode cX9_widens 11 = .ok (.iload_n 2, 1) := by decide +kernel
theorem dX9_widens_12 : decode cX9_widens 12 = .ok (.iconst 2, 1) := by decide +kernel
theorem dX9_widens_13 : decode cX9_widens 13 = .ok (.bipush 9, 2) := by decide +kernel
theorem dX9_widens_15 : decode cX9_widens 15 = .ok (.invokestatic 217, 3) := by decide +kernel
theorem dX9_widens_18 : decode cX9_widens 18 = .ok (.istore_n 3, 1) := by decide +kernel
theorem dX9_widens_19 : decode cX9_widens 19 = .ok (.iload_n 3, 1) := by decide +kernel
theorem dX9_widens_20 : decode cX9_widens 20 = .ok (.ifCond .eq 9, 3) := by decide +kernel
theorem dX9_widens_23 : decode cX9_widens 23 = .ok (.aload_n 0, 1) := by decide +kernel
theorem dX9_widens_24 : decode cX9_widens 24 = .ok (.iload_n 3, 1) := by decide +kernel
theorem dX9_widens_25 : decode cX9_widens 25 = .ok (.invokevirtual 224, 3) := by decide +kernel
theorem dX9_widens_28 : decode cX9_widens 28 = .ok (.ireturn, 1) := by decide +kernel
theorem dX9_widens_29 : decode cX9_widens 29 = .ok (.aload_n 0, 1) := by decide +kernel
theorem dX9_widens_30 : decode cX9_widens 30 = .ok (.invokevirtual 314, 3) := by decide +kernel
theorem dX9_widens_33 : decode cX9_widens 33 = .ok (.aload_n 0, 1) := by decide +kernel
theorem dX9_widens_34 : decode cX9_widens 34 = .ok (.getfield 13, 3) := by decide +kernel
theorem dX9_widens_37 : decode cX9_widens 37 = .ok (.iload_n 1, 1) := by decide +kernel
theorem dX9_widens_38 : decode cX9_widens 38 = .ok (.iaload, 1) := by decide +kernel
theorem dX9_widens_39 : decode cX9_widens 39 = .ok (.istore 4, 2) := by decide +kernel
theorem dX9_widens_41 : decode cX9_widens 41 = .ok (.aload_n 0, 1) := by decide +kernel
theorem dX9_widens_42 : decode cX9_widens 42 = .ok (.getfield 13, 3) := by decide +kernel
theorem dX9_widens_45 : decode cX9_widens 45 = .ok (.iload_n 1, 1) := by decide +kernel
theorem dX9_widens_46 : decode cX9_widens 46 = .ok (.iload_n 2, 1) := by decide +kernel
theorem dX9_widens_47 : decode cX9_widens 47 = .ok (.iastore, 1) := by decide +kernel
theorem dX9_widens_48 : decode cX9_widens 48 = .ok (.iload 4, 2) := by decide +kernel
theorem dX9_widens_50 : decode cX9_widens 50 = .ok (.ireturn, 1) := by decide +kernel
theorem dX9_isLetterOrNone_0 : decode cX9_isLetterOrNone 0 = .ok (.iload_n 0, 1) := by decide +kernel
theorem dX9_isLetterOrNone_1 : decode cX9_isLetterOrNone 1 = .ok (.iconst (-1), 1) := by decide +kernel
theorem dX9_isLetterOrNone_2 : decode cX9_isLetterOrNone 2 = .ok (.bipush 7, 2) := by decide +kernel
theorem dX9_isLetterOrNone_4 : decode cX9_isLetterOrNone 4 = .ok (.invokestatic 125, 3) := by decide +kernel
theorem dX9_isLetterOrNone_7 : decode cX9_isLetterOrNone 7 = .ok (.ireturn, 1) := by decide +kernel
theorem dX9_adds_0 : decode cX9_adds 0 = .ok (.iload_n 1, 1) := by decide +kernel
theorem dX9_adds_1 : decode cX9_adds 1 = .ok (.invokestatic 311, 3) := by decide +kernel
theorem dX9_adds_4 : decode cX9_adds 4 = .ok (.ifCond .eq 29, 3) := by decide +kernel
theorem dX9_adds_7 : decode cX9_adds 7 = .ok (.iload_n 2, 1) := by decide +kernel
theorem dX9_adds_8 : decode cX9_adds 8 = .ok (.invokestatic 317, 3) := by decide +kernel
theorem dX9_adds_11 : decode cX9_adds 11 = .ok (.ifCond .eq 22, 3) := by decide +kernel
theorem dX9_adds_14 : decode cX9_adds 14 = .ok (.iload_n 3, 1) := by decide +kernel
theorem dX9_adds_15 : decode cX9_adds 15 = .ok (.invokestatic 317, 3) := by decide +kernel
theorem dX9_adds_18 : decode cX9_adds 18 = .ok (.ifCond .eq 15, 3) := by decide +kernel
theorem dX9_adds_21 : decode cX9_adds 21 = .ok (.iload_n 2, 1) := by decide +kernel
theorem dX9_adds_22 : decode cX9_adds 22 = .ok (.ifCond .ge 7, 3) := by decide +kernel
theorem dX9_adds_25 : decode cX9_adds 25 = .ok (.iload_n 3, 1) := by decide +kernel
theorem dX9_adds_26 : decode cX9_adds 26 = .ok (.ifCond .ge 7, 3) := by decide +kernel
theorem dX9_adds_29 : decode cX9_adds 29 = .ok (.iconst 1, 1) := by decide +kernel
theorem dX9_adds_30 : decode cX9_adds 30 = .ok (.goto 4, 3) := by decide +kernel
theorem dX9_adds_33 : decode cX9_adds 33 = .ok (.iconst 0, 1) := by decide +kernel
theorem dX9_adds_34 : decode cX9_adds 34 = .ok (.istore 4, 2) := by decide +kernel
theorem dX9_adds_36 : decode cX9_adds 36 = .ok (.iload 4, 2) := by decide +kernel
theorem dX9_adds_38 : decode cX9_adds 38 = .ok (.ifCond .ne 7, 3) := by decide +kernel
theorem dX9_adds_41 : decode cX9_adds 41 = .ok (.iconst (-1), 1) := by decide +kernel
theorem dX9_adds_42 : decode cX9_adds 42 = .ok (.goto 18, 3) := by decide +kernel
theorem dX9_adds_45 : decode cX9_adds 45 = .ok (.aload_n 0, 1) := by decide +kernel
theorem dX9_adds_46 : decode cX9_adds 46 = .ok (.getfield 122, 3) := by decide +kernel
theorem dX9_adds_49 : decode cX9_adds 49 = .ok (.bipush 16, 2) := by decide +kernel
theorem dX9_adds_51 : decode cX9_adds 51 = .ok (.if_icmp .ne 8, 3) := by decide +kernel
theorem dX9_adds_54 : decode cX9_adds 54 = .ok (.bipush (-6), 2) := by decide +kernel
theorem dX9_adds_56 : decode cX9_adds 56 = .ok (.goto 4, 3) := by decide +kernel
theorem dX9_adds_59 : decode cX9_adds 59 = .ok (.iconst 0, 1) := by decide +kernel
theorem dX9_adds_60 : decode cX9_adds 60 = .ok (.istore 5, 2) := by decide +kernel
theorem dX9_adds_62 : decode cX9_adds 62 = .ok (.iload 5, 2) := by decide +kernel
theorem dX9_adds_64 : decode cX9_adds 64 = .ok (.ifCond .eq 10, 3) := by decide +kernel
theorem dX9_adds_67 : decode cX9_adds 67 = .ok (.aload_n 0, 1) := by decide +kernel
theorem dX9_adds_68 : decode cX9_adds 68 = .ok (.iload 5, 2) := by decide +kernel
theorem dX9_adds_70 : decode cX9_adds 70 = .ok (.invokevirtual 224, 3) := by decide +kernel
theorem dX9_adds_73 : decode cX9_adds 73 = .ok (.ireturn, 1) := by decide +kernel
theorem dX9_adds_74 : decode cX9_adds 74 = .ok (.aload_n 0, 1) := by decide +kernel
theorem dX9_adds_75 : decode cX9_adds 75 = .ok (.invokevirtual 314, 3) := by decide +kernel
theorem dX9_adds_78 : decode cX9_adds 78 = .ok (.aload_n 0, 1) := by decide +kernel
theorem dX9_adds_79 : decode cX9_adds 79 = .ok (.getfield 16, 3) := by decide +kernel
theorem dX9_adds_82 : decode cX9_adds 82 = .ok (.aload_n 0, 1) := by decide +kernel
theorem dX9_adds_83 : decode cX9_adds 83 = .ok (.getfield 122, 3) := by decide +kernel
theorem dX9_adds_86 : decode cX9_adds 86 = .ok (.iload_n 2, 1) := by decide +kernel
theorem dX9_adds_87 : decode cX9_adds 87 = .ok (.ifCond .ge 7, 3) := by decide +kernel
theorem dX9_adds_90 : decode cX9_adds 90 = .ok (.iconst 1, 1) := by decide +kernel
theorem dX9_adds_91 : decode cX9_adds 91 = .ok (.goto 12, 3) := by decide +kernel
theorem dX9_adds_94 : decode cX9_adds 94 = .ok (.iload_n 3, 1) := by decide +kernel
theorem dX9_adds_95 : decode cX9_adds 95 = .ok (.ifCond .ge 7, 3) := by decide +kernel
theorem dX9_adds_98 : decode cX9_adds 98 = .ok (.iconst 2, 1) := by decide +kernel
theorem dX9_adds_99 : decode cX9_adds 99 = .ok (.goto 4, 3) := by decide +kernel
theorem dX9_adds_102 : decode cX9_adds 102 = .ok (.iconst 3, 1) := by decide +kernel
theorem dX9_adds_103 : decode cX9_adds 103 = .ok (.iastore, 1) := by decide +kernel
theorem dX9_adds_104 : decode cX9_adds 104 = .ok (.aload_n 0, 1) := by decide +kernel
theorem dX9_adds_105 : decode cX9_adds 105 = .ok (.getfield 19, 3) := by decide +kernel
theorem dX9_adds_108 : decode cX9_adds 108 = .ok (.bipush 12, 2) := by decide +kernel
theorem dX9_adds_110 : decode cX9_adds 110 = .ok (.aload_n 0, 1) := by decide +kernel
theorem dX9_adds_111 : decode cX9_adds 111 = .ok (.getfield 122, 3) := by decide +kernel
theorem dX9_adds_114 : decode cX9_adds 114 = .ok (.imul, 1) := by decide +kernel
theorem dX9_adds_115 : decode cX9_adds 115 = .ok (.iload_n 1, 1) := by decide +kernel
theorem dX9_adds_116 : decode cX9_adds 116 = .ok (.iastore, 1) := by decide +kernel
theorem dX9_adds_117 : decode cX9_adds 117 = .ok (.aload_n 0, 1) := by decide +kernel
theorem dX9_adds_118 : decode cX9_adds 118 = .ok (.getfield 19, 3) := by decide +kernel
theorem dX9_adds_121 : decode cX9_adds 121 = .ok (.bipush 12, 2) := by decide +kernel
theorem dX9_adds_123 : decode cX9_adds 123 = .ok (.aload_n 0, 1) := by decide +kernel
theorem dX9_adds_124 : decode cX9_adds 124 = .ok (.getfield 122, 3) := by decide +kernel
theorem dX9_adds_127 : decode cX9_adds 127 = .ok (.imul, 1) := by decide +kernel
theorem dX9_adds_128 : decode cX9_adds 128 = .ok (.iconst 1, 1) := by decide +kernel
theorem dX9_adds_129 : decode cX9_adds 129 = .ok (.iadd, 1) := by decide +kernel
theorem dX9_adds_130 : decode cX9_adds 130 = .ok (.iload_n 2, 1) := by decide +kernel
theorem dX9_adds_131 : decode cX9_adds 131 = .ok (.iastore, 1) := by decide +kernel
theorem dX9_adds_132 : decode cX9_adds 132 = .ok (.aload_n 0, 1) := by decide +kernel
theorem dX9_adds_133 : decode cX9_adds 133 = .ok (.getfield 19, 3) := by decide +kernel
theorem dX9_adds_136 : decode cX9_adds 136 = .ok (.bipush 12, 2) := by decide +kernel
theorem dX9_adds_138 : decode cX9_adds 138 = .ok (.aload_n 0, 1) := by decide +kernel
theorem dX9_adds_139 : decode cX9_adds 139 = .ok (.getfield 122, 3) := by decide +kernel
theorem dX9_adds_142 : decode cX9_adds 142 = .ok (.imul, 1) := by decide +kernel
theorem dX9_adds_143 : decode cX9_adds 143 = .ok (.iconst 2, 1) := by decide +kernel
theorem dX9_adds_144 : decode cX9_adds 144 = .ok (.iadd, 1) := by decide +kernel
theorem dX9_adds_145 : decode cX9_adds 145 = .ok (.iload_n 3, 1) := by decide +kernel
theorem dX9_adds_146 : decode cX9_adds 146 = .ok (.iastore, 1) := by decide +kernel
theorem dX9_adds_147 : decode cX9_adds 147 = .ok (.aload_n 0, 1) := by decide +kernel
theorem dX9_adds_148 : decode cX9_adds 148 = .ok (.getfield 22, 3) := by decide +kernel
theorem dX9_adds_151 : decode cX9_adds 151 = .ok (.aload_n 0, 1) := by decide +kernel
theorem dX9_adds_152 : decode cX9_adds 152 = .ok (.getfield 122, 3) := by decide +kernel
theorem dX9_adds_155 : decode cX9_adds 155 = .ok (.iconst 0, 1) := by decide +kernel
theorem dX9_adds_156 : decode cX9_adds 156 = .ok (.iastore, 1) := by decide +kernel
theorem dX9_adds_157 : decode cX9_adds 157 = .ok (.aload_n 0, 1) := by decide +kernel
theorem dX9_adds_158 : decode cX9_adds 158 = .ok (.dup, 1) := by decide +kernel
theorem dX9_adds_159 : decode cX9_adds 159 = .ok (.getfield 122, 3) := by decide +kernel
theorem dX9_adds_162 : decode cX9_adds 162 = .ok (.iconst 1, 1) := by decide +kernel
theorem dX9_adds_163 : decode cX9_adds 163 = .ok (.iadd, 1) := by decide +kernel
theorem dX9_adds_164 : decode cX9_adds 164 = .ok (.putfield 122, 3) := by decide +kernel
theorem dX9_adds_167 : decode cX9_adds 167 = .ok (.aload_n 0, 1) := by decide +kernel
theorem dX9_adds_168 : decode cX9_adds 168 = .ok (.getfield 122, 3) := by decide +kernel
theorem dX9_adds_171 : decode cX9_adds 171 = .ok (.iconst 1, 1) := by decide +kernel
theorem dX9_adds_172 : decode cX9_adds 172 = .ok (.isub, 1) := by decide +kernel
theorem dX9_adds_173 : decode cX9_adds 173 = .ok (.ireturn, 1) := by decide +kernel
theorem dX9_forces_0 : decode cX9_forces 0 = .ok (.aload_n 0, 1) := by decide +kernel
theorem dX9_forces_1 : decode cX9_forces 1 = .ok (.iload_n 1, 1) := by decide +kernel
theorem dX9_forces_2 : decode cX9_forces 2 = .ok (.invokevirtual 320, 3) := by decide +kernel
theorem dX9_forces_5 : decode cX9_forces 5 = .ok (.ifCond .ne 9, 3) := by decide +kernel
theorem dX9_forces_8 : decode cX9_forces 8 = .ok (.aload_n 0, 1) := by decide +kernel
theorem dX9_forces_9 : decode cX9_forces 9 = .ok (.iconst (-1), 1) := by decide +kernel
theorem dX9_forces_10 : decode cX9_forces 10 = .ok (.invokevirtual 224, 3) := by decide +kernel
theorem dX9_forces_13 : decode cX9_forces 13 = .ok (.ireturn, 1) := by decide +kernel
theorem dX9_forces_14 : decode cX9_forces 14 = .ok (.aload_n 0, 1) := by decide +kernel
theorem dX9_forces_15 : decode cX9_forces 15 = .ok (.invokevirtual 314, 3) := by decide +kernel
theorem dX9_forces_18 : decode cX9_forces 18 = .ok (.aload_n 0, 1) := by decide +kernel
theorem dX9_forces_19 : decode cX9_forces 19 = .ok (.getfield 22, 3) := by decide +kernel
theorem dX9_forces_22 : decode cX9_forces 22 = .ok (.iload_n 1, 1) := by decide +kernel
theorem dX9_forces_23 : decode cX9_forces 23 = .ok (.iconst 1, 1) := by decide +kernel
theorem dX9_forces_24 : decode cX9_forces 24 = .ok (.aload_n 0, 1) := by decide +kernel
theorem dX9_forces_25 : decode cX9_forces 25 = .ok (.getfield 22, 3) := by decide +kernel
theorem dX9_forces_28 : decode cX9_forces 28 = .ok (.iload_n 1, 1) := by decide +kernel
theorem dX9_forces_29 : decode cX9_forces 29 = .ok (.iaload, 1) := by decide +kernel
theorem dX9_forces_30 : decode cX9_forces 30 = .ok (.isub, 1) := by decide +kernel
theorem dX9_forces_31 : decode cX9_forces 31 = .ok (.iastore, 1) := by decide +kernel
theorem dX9_forces_32 : decode cX9_forces 32 = .ok (.aload_n 0, 1) := by decide +kernel
theorem dX9_forces_33 : decode cX9_forces 33 = .ok (.getfield 22, 3) := by decide +kernel
theorem dX9_forces_36 : decode cX9_forces 36 = .ok (.iload_n 1, 1) := by decide +kernel
theorem dX9_forces_37 : decode cX9_forces 37 = .ok (.iaload, 1) := by decide +kernel
theorem dX9_forces_38 : decode cX9_forces 38 = .ok (.ireturn, 1) := by decide +kernel
theorem dX9_drop_0 : decode cX9_drop 0 = .ok (.aload_n 0, 1) := by decide +kernel
theorem dX9_drop_1 : decode cX9_drop 1 = .ok (.dup, 1) := by decide +kernel
theorem dX9_drop_2 : decode cX9_drop 2 = .ok (.getfield 122, 3) := by decide +kernel
theorem dX9_drop_5 : decode cX9_drop 5 = .ok (.iconst 1, 1) := by decide +kernel
theorem dX9_drop_6 : decode cX9_drop 6 = .ok (.isub, 1) := by decide +kernel
theorem dX9_drop_7 : decode cX9_drop 7 = .ok (.putfield 122, 3) := by decide +kernel
theorem dX9_drop_10 : decode cX9_drop 10 = .ok (.iload_n 1, 1) := by decide +kernel
theorem dX9_drop_11 : decode cX9_drop 11 = .ok (.istore_n 2, 1) := by decide +kernel
theorem dX9_drop_12 : decode cX9_drop 12 = .ok (.iload_n 2, 1) := by decide +kernel
theorem dX9_drop_13 : decode cX9_drop 13 = .ok (.aload_n 0, 1) := by decide +kernel
theorem dX9_drop_14 : decode cX9_drop 14 = .ok (.getfield 122, 3) := by decide +kernel
theorem dX9_drop_17 : decode cX9_drop 17 = .ok (.if_icmp .ge 76, 3) := by decide +kernel
theorem dX9_drop_20 : decode cX9_drop 20 = .ok (.aload_n 0, 1) := by decide +kernel
theorem dX9_drop_21 : decode cX9_drop 21 = .ok (.getfield 16, 3) := by decide +kernel
theorem dX9_drop_24 : decode cX9_drop 24 = .ok (.iload_n 2, 1) := by decide +kernel
theorem dX9_drop_25 : decode cX9_drop 25 = .ok (.aload_n 0, 1) := by decide +kernel
theorem dX9_drop_26 : decode cX9_drop 26 = .ok (.getfield 16, 3) := by decide +kernel
theorem dX9_drop_29 : decode cX9_drop 29 = .ok (.iload_n 2, 1) := by decide +kernel
theorem dX9_drop_30 : decode cX9_drop 30 = .ok (.iconst 1, 1) := by decide +kernel
theorem dX9_drop_31 : decode cX9_drop 31 = .ok (.iadd, 1) := by decide +kernel
theorem dX9_drop_32 : decode cX9_drop 32 = .ok (.iaload, 1) := by decide +kernel
theorem dX9_drop_33 : decode cX9_drop 33 = .ok (.iastore, 1) := by decide +kernel
theorem dX9_drop_34 : decode cX9_drop 34 = .ok (.aload_n 0, 1) := by decide +kernel
theorem dX9_drop_35 : decode cX9_drop 35 = .ok (.getfield 22, 3) := by decide +kernel
theorem dX9_drop_38 : decode cX9_drop 38 = .ok (.iload_n 2, 1) := by decide +kernel
theorem dX9_drop_39 : decode cX9_drop 39 = .ok (.aload_n 0, 1) := by decide +kernel
theorem dX9_drop_40 : decode cX9_drop 40 = .ok (.getfield 22, 3) := by decide +kernel
theorem dX9_drop_43 : decode cX9_drop 43 = .ok (.iload_n 2, 1) := by decide +kernel
theorem dX9_drop_44 : decode cX9_drop 44 = .ok (.iconst 1, 1) := by decide +kernel
theorem dX9_drop_45 : decode cX9_drop 45 = .ok (.iadd, 1) := by decide +kernel
theorem dX9_drop_46 : decode cX9_drop 46 = .ok (.iaload, 1) := by decide +kernel
theorem dX9_drop_47 : decode cX9_drop 47 = .ok (.iastore, 1) := by decide +kernel
theorem dX9_drop_48 : decode cX9_drop 48 = .ok (.iconst 0, 1) := by decide +kernel
theorem dX9_drop_49 : decode cX9_drop 49 = .ok (.istore_n 3, 1) := by decide +kernel
theorem dX9_drop_50 : decode cX9_drop 50 = .ok (.iload_n 3, 1) := by decide +kernel
theorem dX9_drop_51 : decode cX9_drop 51 = .ok (.bipush 12, 2) := by decide +kernel
theorem dX9_drop_53 : decode cX9_drop 53 = .ok (.if_icmp .ge 34, 3) := by decide +kernel
theorem dX9_drop_56 : decode cX9_drop 56 = .ok (.aload_n 0, 1) := by decide +kernel
theorem dX9_drop_57 : decode cX9_drop 57 = .ok (.getfield 19, 3) := by decide +kernel
theorem dX9_drop_60 : decode cX9_drop 60 = .ok (.bipush 12, 2) := by decide +kernel
theorem dX9_drop_62 : decode cX9_drop 62 = .ok (.iload_n 2, 1) := by decide +kernel
theorem dX9_drop_63 : decode cX9_drop 63 = .ok (.imul, 1) := by decide +kernel
theorem dX9_drop_64 : decode cX9_drop 64 = .ok (.iload_n 3, 1) := by decide +kernel
theorem dX9_drop_65 : decode cX9_drop 65 = .ok (.iadd, 1) := by decide +kernel
theorem dX9_drop_66 : decode cX9_drop 66 = .ok (.aload_n 0, 1) := by decide +kernel
theorem dX9_drop_67 : decode cX9_drop 67 = .ok (.getfield 19, 3) := by decide +kernel
theorem dX9_drop_70 : decode cX9_drop 70 = .ok (.bipush 12, 2) := by decide +kernel
theorem dX9_drop_72 : decode cX9_drop 72 = .ok (.iload_n 2, 1) := by decide +kernel
theorem dX9_drop_73 : decode cX9_drop 73 = .ok (.imul, 1) := by decide +kernel
theorem dX9_drop_74 : decode cX9_drop 74 = .ok (.bipush 12, 2) := by decide +kernel
theorem dX9_drop_76 : decode cX9_drop 76 = .ok (.iadd, 1) := by decide +kernel
theorem dX9_drop_77 : decode cX9_drop 77 = .ok (.iload_n 3, 1) := by decide +kernel
theorem dX9_drop_78 : decode cX9_drop 78 = .ok (.iadd, 1) := by decide +kernel
theorem dX9_drop_79 : decode cX9_drop 79 = .ok (.iaload, 1) := by decide +kernel
theorem dX9_drop_80 : decode cX9_drop 80 = .ok (.iastore, 1) := by decide +kernel
theorem dX9_drop_81 : decode cX9_drop 81 = .ok (.iinc 3 1, 3) := by decide +kernel
theorem dX9_drop_84 : decode cX9_drop 84 = .ok (.goto (-34), 3) := by decide +kernel
theorem dX9_drop_87 : decode cX9_drop 87 = .ok (.iinc 2 1, 3) := by decide +kernel
theorem dX9_drop_90 : decode cX9_drop 90 = .ok (.goto (-78), 3) := by decide +kernel
theorem dX9_drop_93 : decode cX9_drop 93 = .ok (.return_, 1) := by decide +kernel
theorem dX9_drops_0 : decode cX9_drops 0 = .ok (.aload_n 0, 1) := by decide +kernel
theorem dX9_drops_1 : decode cX9_drops 1 = .ok (.iload_n 1, 1) := by decide +kernel
theorem dX9_drops_2 : decode cX9_drops 2 = .ok (.invokevirtual 320, 3) := by decide +kernel
theorem dX9_drops_5 : decode cX9_drops 5 = .ok (.ifCond .ne 9, 3) := by decide +kernel
theorem dX9_drops_8 : decode cX9_drops 8 = .ok (.aload_n 0, 1) := by decide +kernel
theorem dX9_drops_9 : decode cX9_drops 9 = .ok (.iconst (-1), 1) := by decide +kernel
theorem dX9_drops_10 : decode cX9_drops 10 = .ok (.invokevirtual 224, 3) := by decide +kernel
theorem dX9_drops_13 : decode cX9_drops 13 = .ok (.ireturn, 1) := by decide +kernel
theorem dX9_drops_14 : decode cX9_drops 14 = .ok (.aload_n 0, 1) := by decide +kernel
theorem dX9_drops_15 : decode cX9_drops 15 = .ok (.invokevirtual 314, 3) := by decide +kernel
theorem dX9_drops_18 : decode cX9_drops 18 = .ok (.aload_n 0, 1) := by decide +kernel
theorem dX9_drops_19 : decode cX9_drops 19 = .ok (.iload_n 1, 1) := by decide +kernel
theorem dX9_drops_20 : decode cX9_drops 20 = .ok (.invokevirtual 323, 3) := by decide +kernel
theorem dX9_drops_23 : decode cX9_drops 23 = .ok (.aload_n 0, 1) := by decide +kernel
theorem dX9_drops_24 : decode cX9_drops 24 = .ok (.getfield 122, 3) := by decide +kernel
theorem dX9_drops_27 : decode cX9_drops 27 = .ok (.ireturn, 1) := by decide +kernel
theorem dX9_patterns_0 : decode cX9_patterns 0 = .ok (.iload_n 2, 1) := by decide +kernel
theorem dX9_patterns_1 : decode cX9_patterns 1 = .ok (.ifCond .ge 7, 3) := by decide +kernel
theorem dX9_patterns_4 : decode cX9_patterns 4 = .ok (.iconst 1, 1) := by decide +kernel
theorem dX9_patterns_5 : decode cX9_patterns 5 = .ok (.goto 4, 3) := by decide +kernel
theorem dX9_patterns_8 : decode cX9_patterns 8 = .ok (.iconst 2, 1) := by decide +kernel
theorem dX9_patterns_9 : decode cX9_patterns 9 = .ok (.istore 5, 2) := by decide +kernel
theorem dX9_patterns_11 : decode cX9_patterns 11 = .ok (.iload_n 1, 1) := by decide +kernel
theorem dX9_patterns_12 : decode cX9_patterns 12 = .ok (.invokestatic 311, 3) := by decide +kernel
theorem dX9_patterns_15 : decode cX9_patterns 15 = .ok (.ifCond .eq 20, 3) := by decide +kernel
theorem dX9_patterns_18 : decode cX9_patterns 18 = .ok (.iload_n 2, 1) := by decide +kernel
theorem dX9_patterns_19 : decode cX9_patterns 19 = .ok (.invokestatic 317, 3) := by decide +kernel
theorem dX9_patterns_22 : decode cX9_patterns 22 = .ok (.ifCond .eq 13, 3) := by decide +kernel
theorem dX9_patterns_25 : decode cX9_patterns 25 = .ok (.iload_n 3, 1) := by decide +kernel
theorem dX9_patterns_26 : decode cX9_patterns 26 = .ok (.iconst 0, 1) := by decide +kernel
theorem dX9_patterns_27 : decode cX9_patterns 27 = .ok (.iload 5, 2) := by decide +kernel
theorem dX9_patterns_29 : decode cX9_patterns 29 = .ok (.invokestatic 125, 3) := by decide +kernel
theorem dX9_patterns_32 : decode cX9_patterns 32 = .ok (.ifCond .ne 7, 3) := by decide +kernel
theorem dX9_patterns_35 : decode cX9_patterns 35 = .ok (.iconst (-1), 1) := by decide +kernel
theorem dX9_patterns_36 : decode cX9_patterns 36 = .ok (.goto 11, 3) := by decide +kernel
theorem dX9_patterns_39 : decode cX9_patterns 39 = .ok (.iload 4, 2) := by decide +kernel
theorem dX9_patterns_41 : decode cX9_patterns 41 = .ok (.iconst 1, 1) := by decide +kernel
theorem dX9_patterns_42 : decode cX9_patterns 42 = .ok (.bipush 9, 2) := by decide +kernel
theorem dX9_patterns_44 : decode cX9_patterns 44 = .ok (.invokestatic 217, 3) := by decide +kernel
theorem dX9_patterns_47 : decode cX9_patterns 47 = .ok (.istore 6, 2) := by decide +kernel
theorem dX9_patterns_49 : decode cX9_patterns 49 = .ok (.aload_n 0, 1) := by decide +kernel
theorem dX9_patterns_50 : decode cX9_patterns 50 = .ok (.getfield 77, 3) := by decide +kernel
theorem dX9_patterns_53 : decode cX9_patterns 53 = .ok (.iconst 0, 1) := by decide +kernel
theorem dX9_patterns_54 : decode cX9_patterns 54 = .ok (.iload_n 1, 1) := by decide +kernel
theorem dX9_patterns_55 : decode cX9_patterns 55 = .ok (.iastore, 1) := by decide +kernel
theorem dX9_patterns_56 : decode cX9_patterns 56 = .ok (.aload_n 0, 1) := by decide +kernel
theorem dX9_patterns_57 : decode cX9_patterns 57 = .ok (.getfield 77, 3) := by decide +kernel
theorem dX9_patterns_60 : decode cX9_patterns 60 = .ok (.iconst 1, 1) := by decide +kernel
theorem dX9_patterns_61 : decode cX9_patterns 61 = .ok (.iload_n 2, 1) := by decide +kernel
theorem dX9_patterns_62 : decode cX9_patterns 62 = .ok (.iastore, 1) := by decide +kernel
theorem dX9_patterns_63 : decode cX9_patterns 63 = .ok (.aload_n 0, 1) := by decide +kernel
theorem dX9_patterns_64 : decode cX9_patterns 64 = .ok (.iload 5, 2) := by decide +kernel
theorem dX9_patterns_66 : decode cX9_patterns 66 = .ok (.iload_n 3, 1) := by decide +kernel
theorem dX9_patterns_67 : decode cX9_patterns 67 = .ok (.invokevirtual 252, 3) := by decide +kernel
theorem dX9_patterns_70 : decode cX9_patterns 70 = .ok (.istore 7, 2) := by decide +kernel
theorem dX9_patterns_72 : decode cX9_patterns 72 = .ok (.iload 6, 2) := by decide +kernel
theorem dX9_patterns_74 : decode cX9_patterns 74 = .ok (.ifCond .ne 14, 3) := by decide +kernel
theorem dX9_patterns_77 : decode cX9_patterns 77 = .ok (.iload 7, 2) := by decide +kernel
theorem dX9_patterns_79 : decode cX9_patterns 79 = .ok (.bipush 8, 2) := by decide +kernel
theorem dX9_patterns_81 : decode cX9_patterns 81 = .ok (.if_icmp .ne 7, 3) := by decide +kernel
theorem dX9_patterns_84 : decode cX9_patterns 84 = .ok (.bipush (-6), 2) := by decide +kernel
theorem dX9_patterns_86 : decode cX9_patterns 86 = .ok (.istore 6, 2) := by decide +kernel
theorem dX9_patterns_88 : decode cX9_patterns 88 = .ok (.iload 6, 2) := by decide +kernel
theorem dX9_patterns_90 : decode cX9_patterns 90 = .ok (.ifCond .eq 10, 3) := by decide +kernel
theorem dX9_patterns_93 : decode cX9_patterns 93 = .ok (.aload_n 0, 1) := by decide +kernel
theorem dX9_patterns_94 : decode cX9_patterns 94 = .ok (.iload 6, 2) := by decide +kernel
theorem dX9_patterns_96 : decode cX9_patterns 96 = .ok (.invokevirtual 224, 3) := by decide +kernel
theorem dX9_patterns_99 : decode cX9_patterns 99 = .ok (.ireturn, 1) := by decide +kernel
theorem dX9_patterns_100 : decode cX9_patterns 100 = .ok (.aload_n 0, 1) := by decide +kernel
theorem dX9_patterns_101 : decode cX9_patterns 101 = .ok (.invokevirtual 314, 3) := by decide +kernel
theorem dX9_patterns_104 : decode cX9_patterns 104 = .ok (.aload_n 0, 1) := by decide +kernel
theorem dX9_patterns_105 : decode cX9_patterns 105 = .ok (.iload 7, 2) := by decide +kernel
theorem dX9_patterns_107 : decode cX9_patterns 107 = .ok (.iload 5, 2) := by decide +kernel
theorem dX9_patterns_109 : decode cX9_patterns 109 = .ok (.iload_n 3, 1) := by decide +kernel
theorem dX9_patterns_110 : decode cX9_patterns 110 = .ok (.iload 4, 2) := by decide +kernel
theorem dX9_patterns_112 : decode cX9_patterns 112 = .ok (.invokevirtual 255, 3) := by decide +kernel
theorem dX9_patterns_115 : decode cX9_patterns 115 = .ok (.aload_n 0, 1) := by decide +kernel
theorem dX9_patterns_116 : decode cX9_patterns 116 = .ok (.getfield 135, 3) := by decide +kernel
theorem dX9_patterns_119 : decode cX9_patterns 119 = .ok (.ireturn, 1) := by decide +kernel
theorem dX9_line_0 : decode cX9_line 0 = .ok (.iload_n 1, 1) := by decide +kernel
theorem dX9_line_1 : decode cX9_line 1 = .ok (.bipush 10, 2) := by decide +kernel
theorem dX9_line_3 : decode cX9_line 3 = .ok (.bipush 60, 2) := by decide +kernel
theorem dX9_line_5 : decode cX9_line 5 = .ok (.invokestatic 217, 3) := by decide +kernel
theorem dX9_line_8 : decode cX9_line 8 = .ok (.istore_n 2, 1) := by decide +kernel
theorem dX9_line_9 : decode cX9_line 9 = .ok (.iload_n 2, 1) := by decide +kernel
theorem dX9_line_10 : decode cX9_line 10 = .ok (.ifCond .eq 9, 3) := by decide +kernel
theorem dX9_line_13 : decode cX9_line 13 = .ok (.aload_n 0, 1) := by decide +kernel
theorem dX9_line_14 : decode cX9_line 14 = .ok (.iload_n 2, 1) := by decide +kernel
theorem dX9_line_15 : decode cX9_line 15 = .ok (.invokevirtual 224, 3) := by decide +kernel
theorem dX9_line_18 : decode cX9_line 18 = .ok (.ireturn, 1) := by decide +kernel
theorem dX9_line_19 : decode cX9_line 19 = .ok (.aload_n 0, 1) := by decide +kernel
theorem dX9_line_20 : decode cX9_line 20 = .ok (.invokevirtual 314, 3) := by decide +kernel
theorem dX9_line_23 : decode cX9_line 23 = .ok (.aload_n 0, 1) := by decide +kernel
theorem dX9_line_24 : decode cX9_line 24 = .ok (.getfield 98, 3) := by decide +kernel
theorem dX9_line_27 : decode cX9_line 27 = .ok (.istore_n 3, 1) := by decide +kernel
theorem dX9_line_28 : decode cX9_line 28 = .ok (.aload_n 0, 1) := by decide +kernel
theorem dX9_line_29 : decode cX9_line 29 = .ok (.iload_n 1, 1) := by decide +kernel
theorem dX9_line_30 : decode cX9_line 30 = .ok (.putfield 98, 3) := by decide +kernel
theorem dX9_line_33 : decode cX9_line 33 = .ok (.iload_n 3, 1) := by decide +kernel
theorem dX9_line_34 : decode cX9_line 34 = .ok (.ireturn, 1) := by decide +kernel
theorem dX9_glue_0 : decode cX9_glue 0 = .ok (.iload_n 1, 1) := by decide +kernel
theorem dX9_glue_1 : decode cX9_glue 1 = .ok (.iconst 2, 1) := by decide +kernel
theorem dX9_glue_2 : decode cX9_glue 2 = .ok (.if_icmp .lt 11, 3) := by decide +kernel
theorem dX9_glue_5 : decode cX9_glue 5 = .ok (.iload_n 2, 1) := by decide +kernel
theorem dX9_glue_6 : decode cX9_glue 6 = .ok (.ifCond .lt 7, 3) := by decide +kernel
theorem dX9_glue_9 : decode cX9_glue 9 = .ok (.iload_n 3, 1) := by decide +kernel
theorem dX9_glue_10 : decode cX9_glue 10 = .ok (.ifCond .ge 8, 3) := by decide +kernel
theorem dX9_glue_13 : decode cX9_glue 13 = .ok (.bipush (-4), 2) := by decide +kernel
theorem dX9_glue_15 : decode cX9_glue 15 = .ok (.goto 26, 3) := by decide +kernel
theorem dX9_glue_18 : decode cX9_glue 18 = .ok (.iload_n 1, 1) := by decide +kernel
theorem dX9_glue_19 : decode cX9_glue 19 = .ok (.bipush 9, 2) := by decide +kernel
theorem dX9_glue_21 : decode cX9_glue 21 = .ok (.if_icmp .gt 14, 3) := by decide +kernel
theorem dX9_glue_24 : decode cX9_glue 24 = .ok (.iload_n 2, 1) := by decide +kernel
theorem dX9_glue_25 : decode cX9_glue 25 = .ok (.bipush 9, 2) := by decide +kernel
theorem dX9_glue_27 : decode cX9_glue 27 = .ok (.if_icmp .gt 8, 3) := by decide +kernel
theorem dX9_glue_30 : decode cX9_glue 30 = .ok (.iload_n 3, 1) := by decide +kernel
theorem dX9_glue_31 : decode cX9_glue 31 = .ok (.iload_n 1, 1) := by decide +kernel
theorem dX9_glue_32 : decode cX9_glue 32 = .ok (.if_icmp .le 8, 3) := by decide +kernel
theorem dX9_glue_35 : decode cX9_glue 35 = .ok (.bipush (-6), 2) := by decide +kernel
theorem dX9_glue_37 : decode cX9_glue 37 = .ok (.goto 4, 3) := by decide +kernel
theorem dX9_glue_40 : decode cX9_glue 40 = .ok (.iconst 0, 1) := by decide +kernel
theorem dX9_glue_41 : decode cX9_glue 41 = .ok (.istore 4, 2) := by decide +kernel
theorem dX9_glue_43 : decode cX9_glue 43 = .ok (.iload 4, 2) := by decide +kernel
theorem dX9_glue_45 : decode cX9_glue 45 = .ok (.ifCond .eq 10, 3) := by decide +kernel
theorem dX9_glue_48 : decode cX9_glue 48 = .ok (.aload_n 0, 1) := by decide +kernel
theorem dX9_glue_49 : decode cX9_glue 49 = .ok (.iload 4, 2) := by decide +kernel
theorem dX9_glue_51 : decode cX9_glue 51 = .ok (.invokevirtual 224, 3) := by decide +kernel
theorem dX9_glue_54 : decode cX9_glue 54 = .ok (.ireturn, 1) := by decide +kernel
theorem dX9_glue_55 : decode cX9_glue 55 = .ok (.aload_n 0, 1) := by decide +kernel
theorem dX9_glue_56 : decode cX9_glue 56 = .ok (.invokevirtual 314, 3) := by decide +kernel
theorem dX9_glue_59 : decode cX9_glue 59 = .ok (.bipush 100, 2) := by decide +kernel
theorem dX9_glue_61 : decode cX9_glue 61 = .ok (.aload_n 0, 1) := by decide +kernel
theorem dX9_glue_62 : decode cX9_glue 62 = .ok (.getfield 102, 3) := by decide +kernel
theorem dX9_glue_65 : decode cX9_glue 65 = .ok (.imul, 1) := by decide +kernel
theorem dX9_glue_66 : decode cX9_glue 66 = .ok (.bipush 10, 2) := by decide +kernel
theorem dX9_glue_68 : decode cX9_glue 68 = .ok (.aload_n 0, 1) := by decide +kernel
theorem dX9_glue_69 : decode cX9_glue 69 = .ok (.getfield 105, 3) := by decide +kernel
theorem dX9_glue_72 : decode cX9_glue 72 = .ok (.imul, 1) := by decide +kernel
theorem dX9_glue_73 : decode cX9_glue 73 = .ok (.iadd, 1) := by decide +kernel
theorem dX9_glue_74 : decode cX9_glue 74 = .ok (.aload_n 0, 1) := by decide +kernel
theorem dX9_glue_75 : decode cX9_glue 75 = .ok (.getfield 108, 3) := by decide +kernel
theorem dX9_glue_78 : decode cX9_glue 78 = .ok (.iadd, 1) := by decide +kernel
theorem dX9_glue_79 : decode cX9_glue 79 = .ok (.istore 5, 2) := by decide +kernel
theorem dX9_glue_81 : decode cX9_glue 81 = .ok (.aload_n 0, 1) := by decide +kernel
theorem dX9_glue_82 : decode cX9_glue 82 = .ok (.iload_n 1, 1) := by decide +kernel
theorem dX9_glue_83 : decode cX9_glue 83 = .ok (.putfield 102, 3) := by decide +kernel
theorem dX9_glue_86 : decode cX9_glue 86 = .ok (.aload_n 0, 1) := by decide +kernel
theorem dX9_glue_87 : decode cX9_glue 87 = .ok (.iload_n 2, 1) := by decide +kernel
theorem dX9_glue_88 : decode cX9_glue 88 = .ok (.putfield 105, 3) := by decide +kernel
theorem dX9_glue_91 : decode cX9_glue 91 = .ok (.aload_n 0, 1) := by decide +kernel
theorem dX9_glue_92 : decode cX9_glue 92 = .ok (.iload_n 3, 1) := by decide +kernel
theorem dX9_glue_93 : decode cX9_glue 93 = .ok (.putfield 108, 3) := by decide +kernel
theorem dX9_glue_96 : decode cX9_glue 96 = .ok (.iload 5, 2) := by decide +kernel
theorem dX9_glue_98 : decode cX9_glue 98 = .ok (.ireturn, 1) := by decide +kernel
theorem dX9_tolerance_0 : decode cX9_tolerance 0 = .ok (.iload_n 1, 1) := by decide +kernel
theorem dX9_tolerance_1 : decode cX9_tolerance 1 = .ok (.iconst 0, 1) := by decide +kernel
theorem dX9_tolerance_2 : decode cX9_tolerance 2 = .ok (.bipush 40, 2) := by decide +kernel
theorem dX9_tolerance_4 : decode cX9_tolerance 4 = .ok (.invokestatic 217, 3) := by decide +kernel
theorem dX9_tolerance_7 : decode cX9_tolerance 7 = .ok (.istore_n 2, 1) := by decide +kernel
theorem dX9_tolerance_8 : decode cX9_tolerance 8 = .ok (.iload_n 2, 1) := by decide +kernel
theorem dX9_tolerance_9 : decode cX9_tolerance 9 = .ok (.ifCond .eq 9, 3) := by decide +kernel
theorem dX9_tolerance_12 : decode cX9_tolerance 12 = .ok (.aload_n 0, 1) := by decide +kernel
theorem dX9_tolerance_13 : decode cX9_tolerance 13 = .ok (.iload_n 2, 1) := by decide +kernel
theorem dX9_tolerance_14 : decode cX9_tolerance 14 = .ok (.invokevirtual 224, 3) := by decide +kernel
theorem dX9_tolerance_17 : decode cX9_tolerance 17 = .ok (.ireturn, 1) := by decide +kernel
theorem dX9_tolerance_18 : decode cX9_tolerance 18 = .ok (.aload_n 0, 1) := by decide +kernel
theorem dX9_tolerance_19 : decode cX9_tolerance 19 = .ok (.invokevirtual 314, 3) := by decide +kernel
theorem dX9_tolerance_22 : decode cX9_tolerance 22 = .ok (.aload_n 0, 1) := by decide +kernel
theorem dX9_tolerance_23 : decode cX9_tolerance 23 = .ok (.getfield 111, 3) := by decide +kernel
theorem dX9_tolerance_26 : decode cX9_tolerance 26 = .ok (.istore_n 3, 1) := by decide +kernel
theorem dX9_tolerance_27 : decode cX9_tolerance 27 = .ok (.aload_n 0, 1) := by decide +kernel
theorem dX9_tolerance_28 : decode cX9_tolerance 28 = .ok (.iload_n 1, 1) := by decide +kernel
theorem dX9_tolerance_29 : decode cX9_tolerance 29 = .ok (.putfield 111, 3) := by decide +kernel
theorem dX9_tolerance_32 : decode cX9_tolerance 32 = .ok (.iload_n 3, 1) := by decide +kernel
theorem dX9_tolerance_33 : decode cX9_tolerance 33 = .ok (.ireturn, 1) := by decide +kernel
theorem dX9_hyphen_0 : decode cX9_hyphen 0 = .ok (.iload_n 1, 1) := by decide +kernel
theorem dX9_hyphen_1 : decode cX9_hyphen 1 = .ok (.iconst 0, 1) := by decide +kernel
theorem dX9_hyphen_2 : decode cX9_hyphen 2 = .ok (.bipush 99, 2) := by decide +kernel
theorem dX9_hyphen_4 : decode cX9_hyphen 4 = .ok (.invokestatic 217, 3) := by decide +kernel
theorem dX9_hyphen_7 : decode cX9_hyphen 7 = .ok (.istore_n 2, 1) := by decide +kernel
theorem dX9_hyphen_8 : decode cX9_hyphen 8 = .ok (.iload_n 2, 1) := by decide +kernel
theorem dX9_hyphen_9 : decode cX9_hyphen 9 = .ok (.ifCond .eq 9, 3) := by decide +kernel
theorem dX9_hyphen_12 : decode cX9_hyphen 12 = .ok (.aload_n 0, 1) := by decide +kernel
theorem dX9_hyphen_13 : decode cX9_hyphen 13 = .ok (.iload_n 2, 1) := by decide +kernel
theorem dX9_hyphen_14 : decode cX9_hyphen 14 = .ok (.invokevirtual 224, 3) := by decide +kernel
theorem dX9_hyphen_17 : decode cX9_hyphen 17 = .ok (.ireturn, 1) := by decide +kernel
theorem dX9_hyphen_18 : decode cX9_hyphen 18 = .ok (.aload_n 0, 1) := by decide +kernel
theorem dX9_hyphen_19 : decode cX9_hyphen 19 = .ok (.invokevirtual 314, 3) := by decide +kernel
theorem dX9_hyphen_22 : decode cX9_hyphen 22 = .ok (.aload_n 0, 1) := by decide +kernel
theorem dX9_hyphen_23 : decode cX9_hyphen 23 = .ok (.getfield 114, 3) := by decide +kernel
theorem dX9_hyphen_26 : decode cX9_hyphen 26 = .ok (.istore_n 3, 1) := by decide +kernel
theorem dX9_hyphen_27 : decode cX9_hyphen 27 = .ok (.aload_n 0, 1) := by decide +kernel
theorem dX9_hyphen_28 : decode cX9_hyphen 28 = .ok (.iload_n 1, 1) := by decide +kernel
theorem dX9_hyphen_29 : decode cX9_hyphen 29 = .ok (.putfield 114, 3) := by decide +kernel
theorem dX9_hyphen_32 : decode cX9_hyphen 32 = .ok (.iload_n 3, 1) := by decide +kernel
theorem dX9_hyphen_33 : decode cX9_hyphen 33 = .ok (.ireturn, 1) := by decide +kernel
theorem dX9_widow_0 : decode cX9_widow 0 = .ok (.iload_n 1, 1) := by decide +kernel
theorem dX9_widow_1 : decode cX9_widow 1 = .ok (.iconst 0, 1) := by decide +kernel
theorem dX9_widow_2 : decode cX9_widow 2 = .ok (.bipush 9, 2) := by decide +kernel
theorem dX9_widow_4 : decode cX9_widow 4 = .ok (.invokestatic 217, 3) := by decide +kernel
theorem dX9_widow_7 : decode cX9_widow 7 = .ok (.istore_n 2, 1) := by decide +kernel
theorem dX9_widow_8 : decode cX9_widow 8 = .ok (.iload_n 2, 1) := by decide +kernel
theorem dX9_widow_9 : decode cX9_widow 9 = .ok (.ifCond .eq 9, 3) := by decide +kernel
theorem dX9_widow_12 : decode cX9_widow 12 = .ok (.aload_n 0, 1) := by decide +kernel
theorem dX9_widow_13 : decode cX9_widow 13 = .ok (.iload_n 2, 1) := by decide +kernel
theorem dX9_widow_14 : decode cX9_widow 14 = .ok (.invokevirtual 224, 3) := by decide +kernel
theorem dX9_widow_17 : decode cX9_widow 17 = .ok (.ireturn, 1) := by decide +kernel
theorem dX9_widow_18 : decode cX9_widow 18 = .ok (.aload_n 0, 1) := by decide +kernel
theorem dX9_widow_19 : decode cX9_widow 19 = .ok (.invokevirtual 314, 3) := by decide +kernel
theorem dX9_widow_22 : decode cX9_widow 22 = .ok (.aload_n 0, 1) := by decide +kernel
theorem dX9_widow_23 : decode cX9_widow 23 = .ok (.getfield 117, 3) := by decide +kernel
theorem dX9_widow_26 : decode cX9_widow 26 = .ok (.istore_n 3, 1) := by decide +kernel
theorem dX9_widow_27 : decode cX9_widow 27 = .ok (.aload_n 0, 1) := by decide +kernel
theorem dX9_widow_28 : decode cX9_widow 28 = .ok (.iload_n 1, 1) := by decide +kernel
theorem dX9_widow_29 : decode cX9_widow 29 = .ok (.putfield 117, 3) := by decide +kernel
theorem dX9_widow_32 : decode cX9_widow 32 = .ok (.iload_n 3, 1) := by decide +kernel
theorem dX9_widow_33 : decode cX9_widow 33 = .ok (.ireturn, 1) := by decide +kernel
theorem dX9_manner_0 : decode cX9_manner 0 = .ok (.iload_n 1, 1) := by decide +kernel
theorem dX9_manner_1 : decode cX9_manner 1 = .ok (.iconst 0, 1) := by decide +kernel
theorem dX9_manner_2 : decode cX9_manner 2 = .ok (.iconst 2, 1) := by decide +kernel
theorem dX9_manner_3 : decode cX9_manner 3 = .ok (.invokestatic 125, 3) := by decide +kernel
theorem dX9_manner_6 : decode cX9_manner 6 = .ok (.ifCond .ne 10, 3) := by decide +kernel
theorem dX9_manner_9 : decode cX9_manner 9 = .ok (.aload_n 0, 1) := by decide +kernel
theorem dX9_manner_10 : decode cX9_manner 10 = .ok (.bipush (-2), 2) := by decide +kernel
theorem dX9_manner_12 : decode cX9_manner 12 = .ok (.invokevirtual 224, 3) := by decide +kernel
theorem dX9_manner_15 : decode cX9_manner 15 = .ok (.ireturn, 1) := by decide +kernel
theorem dX9_manner_16 : decode cX9_manner 16 = .ok (.aload_n 0, 1) := by decide +kernel
theorem dX9_manner_17 : decode cX9_manner 17 = .ok (.invokevirtual 314, 3) := by decide +kernel
theorem dX9_manner_20 : decode cX9_manner 20 = .ok (.aload_n 0, 1) := by decide +kernel
theorem dX9_manner_21 : decode cX9_manner 21 = .ok (.getfield 189, 3) := by decide +kernel
theorem dX9_manner_24 : decode cX9_manner 24 = .ok (.istore_n 2, 1) := by decide +kernel
theorem dX9_manner_25 : decode cX9_manner 25 = .ok (.aload_n 0, 1) := by decide +kernel
theorem dX9_manner_26 : decode cX9_manner 26 = .ok (.iload_n 1, 1) := by decide +kernel
theorem dX9_manner_27 : decode cX9_manner 27 = .ok (.putfield 189, 3) := by decide +kernel
theorem dX9_manner_30 : decode cX9_manner 30 = .ok (.iload_n 2, 1) := by decide +kernel
theorem dX9_manner_31 : decode cX9_manner 31 = .ok (.ireturn, 1) := by decide +kernel
theorem dX9_kind_0 : decode cX9_kind 0 = .ok (.iload_n 1, 1) := by decide +kernel
theorem dX9_kind_1 : decode cX9_kind 1 = .ok (.iconst 0, 1) := by decide +kernel
theorem dX9_kind_2 : decode cX9_kind 2 = .ok (.iconst 5, 1) := by decide +kernel
theorem dX9_kind_3 : decode cX9_kind 3 = .ok (.invokestatic 125, 3) := by decide +kernel
theorem dX9_kind_6 : decode cX9_kind 6 = .ok (.ifCond .ne 8, 3) := by decide +kernel
theorem dX9_kind_9 : decode cX9_kind 9 = .ok (.bipush (-2), 2) := by decide +kernel
theorem dX9_kind_11 : decode cX9_kind 11 = .ok (.goto 10, 3) := by decide +kernel
theorem dX9_kind_14 : decode cX9_kind 14 = .ok (.iload_n 2, 1) := by decide +kernel
theorem dX9_kind_15 : decode cX9_kind 15 = .ok (.iconst 0, 1) := by decide +kernel
theorem dX9_kind_16 : decode cX9_kind 16 = .ok (.bipush 9, 2) := by decide +kernel
theorem dX9_kind_18 : decode cX9_kind 18 = .ok (.invokestatic 217, 3) := by decide +kernel
theorem dX9_kind_21 : decode cX9_kind 21 = .ok (.istore_n 3, 1) := by decide +kernel
theorem dX9_kind_22 : decode cX9_kind 22 = .ok (.iload_n 3, 1) := by decide +kernel
theorem dX9_kind_23 : decode cX9_kind 23 = .ok (.ifCond .eq 9, 3) := by decide +kernel
theorem dX9_kind_26 : decode cX9_kind 26 = .ok (.aload_n 0, 1) := by decide +kernel
theorem dX9_kind_27 : decode cX9_kind 27 = .ok (.iload_n 3, 1) := by decide +kernel
theorem dX9_kind_28 : decode cX9_kind 28 = .ok (.invokevirtual 224, 3) := by decide +kernel
theorem dX9_kind_31 : decode cX9_kind 31 = .ok (.ireturn, 1) := by decide +kernel
theorem dX9_kind_32 : decode cX9_kind 32 = .ok (.aload_n 0, 1) := by decide +kernel
theorem dX9_kind_33 : decode cX9_kind 33 = .ok (.invokevirtual 314, 3) := by decide +kernel
theorem dX9_kind_36 : decode cX9_kind 36 = .ok (.bipush 10, 2) := by decide +kernel
theorem dX9_kind_38 : decode cX9_kind 38 = .ok (.aload_n 0, 1) := by decide +kernel
theorem dX9_kind_39 : decode cX9_kind 39 = .ok (.getfield 129, 3) := by decide +kernel
theorem dX9_kind_42 : decode cX9_kind 42 = .ok (.imul, 1) := by decide +kernel
theorem dX9_kind_43 : decode cX9_kind 43 = .ok (.aload_n 0, 1) := by decide +kernel
theorem dX9_kind_44 : decode cX9_kind 44 = .ok (.getfield 132, 3) := by decide +kernel
theorem dX9_kind_47 : decode cX9_kind 47 = .ok (.iadd, 1) := by decide +kernel
theorem dX9_kind_48 : decode cX9_kind 48 = .ok (.istore 4, 2) := by decide +kernel
theorem dX9_kind_50 : decode cX9_kind 50 = .ok (.aload_n 0, 1) := by decide +kernel
theorem dX9_kind_51 : decode cX9_kind 51 = .ok (.iload_n 1, 1) := by decide +kernel
theorem dX9_kind_52 : decode cX9_kind 52 = .ok (.putfield 129, 3) := by decide +kernel
theorem dX9_kind_55 : decode cX9_kind 55 = .ok (.aload_n 0, 1) := by decide +kernel
theorem dX9_kind_56 : decode cX9_kind 56 = .ok (.iload_n 2, 1) := by decide +kernel
theorem dX9_kind_57 : decode cX9_kind 57 = .ok (.putfield 132, 3) := by decide +kernel
theorem dX9_kind_60 : decode cX9_kind 60 = .ok (.iload 4, 2) := by decide +kernel
theorem dX9_kind_62 : decode cX9_kind 62 = .ok (.ireturn, 1) := by decide +kernel
theorem dX9_widthOf_0 : decode cX9_widthOf 0 = .ok (.iconst 0, 1) := by decide +kernel
theorem dX9_widthOf_1 : decode cX9_widthOf 1 = .ok (.istore_n 2, 1) := by decide +kernel
theorem dX9_widthOf_2 : decode cX9_widthOf 2 = .ok (.iconst 0, 1) := by decide +kernel
theorem dX9_widthOf_3 : decode cX9_widthOf 3 = .ok (.istore_n 3, 1) := by decide +kernel
theorem dX9_widthOf_4 : decode cX9_widthOf 4 = .ok (.iload_n 3, 1) := by decide +kernel
theorem dX9_widthOf_5 : decode cX9_widthOf 5 = .ok (.aload_n 0, 1) := by decide +kernel
theorem dX9_widthOf_6 : decode cX9_widthOf 6 = .ok (.getfield 16, 3) := by decide +kernel
theorem dX9_widthOf_9 : decode cX9_widthOf 9 = .ok (.iload_n 1, 1) := by decide +kernel
theorem dX9_widthOf_10 : decode cX9_widthOf 10 = .ok (.iaload, 1) := by decide +kernel
theorem dX9_widthOf_11 : decode cX9_widthOf 11 = .ok (.if_icmp .ge 28, 3) := by decide +kernel
theorem dX9_widthOf_14 : decode cX9_widthOf 14 = .ok (.iload_n 2, 1) := by decide +kernel
theorem dX9_widthOf_15 : decode cX9_widthOf 15 = .ok (.aload_n 0, 1) := by decide +kernel
theorem dX9_widthOf_16 : decode cX9_widthOf 16 = .ok (.getfield 13, 3) := by decide +kernel
theorem dX9_widthOf_19 : decode cX9_widthOf 19 = .ok (.aload_n 0, 1) := by decide +kernel
theorem dX9_widthOf_20 : decode cX9_widthOf 20 = .ok (.getfield 19, 3) := by decide +kernel
theorem dX9_widthOf_23 : decode cX9_widthOf 23 = .ok (.bipush 12, 2) := by decide +kernel
theorem dX9_widthOf_25 : decode cX9_widthOf 25 = .ok (.iload_n 1, 1) := by decide +kernel
theorem dX9_widthOf_26 : decode cX9_widthOf 26 = .ok (.imul, 1) := by decide +kernel
theorem dX9_widthOf_27 : decode cX9_widthOf 27 = .ok (.iload_n 3, 1) := by decide +kernel
theorem dX9_widthOf_28 : decode cX9_widthOf 28 = .ok (.iadd, 1) := by decide +kernel
theorem dX9_widthOf_29 : decode cX9_widthOf 29 = .ok (.iaload, 1) := by decide +kernel
theorem dX9_widthOf_30 : decode cX9_widthOf 30 = .ok (.iaload, 1) := by decide +kernel
theorem dX9_widthOf_31 : decode cX9_widthOf 31 = .ok (.iadd, 1) := by decide +kernel
theorem dX9_widthOf_32 : decode cX9_widthOf 32 = .ok (.istore_n 2, 1) := by decide +kernel
theorem dX9_widthOf_33 : decode cX9_widthOf 33 = .ok (.iinc 3 1, 3) := by decide +kernel
theorem dX9_widthOf_36 : decode cX9_widthOf 36 = .ok (.goto (-32), 3) := by decide +kernel
theorem dX9_widthOf_39 : decode cX9_widthOf 39 = .ok (.iload_n 2, 1) := by decide +kernel
theorem dX9_widthOf_40 : decode cX9_widthOf 40 = .ok (.ireturn, 1) := by decide +kernel
theorem dX9_placesOf_0 : decode cX9_placesOf 0 = .ok (.iconst 0, 1) := by decide +kernel
theorem dX9_placesOf_1 : decode cX9_placesOf 1 = .ok (.istore_n 2, 1) := by decide +kernel
theorem dX9_placesOf_2 : decode cX9_placesOf 2 = .ok (.iconst 0, 1) := by decide +kernel
theorem dX9_placesOf_3 : decode cX9_placesOf 3 = .ok (.istore_n 3, 1) := by decide +kernel
theorem dX9_placesOf_4 : decode cX9_placesOf 4 = .ok (.iload_n 3, 1) := by decide +kernel
theorem dX9_placesOf_5 : decode cX9_placesOf 5 = .ok (.aload_n 0, 1) := by decide +kernel
theorem dX9_placesOf_6 : decode cX9_placesOf 6 = .ok (.getfield 16, 3) := by decide +kernel
theorem dX9_placesOf_9 : decode cX9_placesOf 9 = .ok (.iload_n 1, 1) := by decide +kernel
theorem dX9_placesOf_10 : decode cX9_placesOf 10 = .ok (.iaload, 1) := by decide +kernel
theorem dX9_placesOf_11 : decode cX9_placesOf 11 = .ok (.if_icmp .ge 28, 3) := by decide +kernel
theorem dX9_placesOf_14 : decode cX9_placesOf 14 = .ok (.iload_n 2, 1) := by decide +kernel
theorem dX9_placesOf_15 : decode cX9_placesOf 15 = .ok (.aload_n 0, 1) := by decide +kernel
theorem dX9_placesOf_16 : decode cX9_placesOf 16 = .ok (.iload_n 1, 1) := by decide +kernel
theorem dX9_placesOf_17 : decode cX9_placesOf 17 = .ok (.iload_n 3, 1) := by decide +kernel
theorem dX9_placesOf_18 : decode cX9_placesOf 18 = .ok (.invokevirtual 148, 3) := by decide +kernel
theorem dX9_placesOf_21 : decode cX9_placesOf 21 = .ok (.ifCond .eq 9, 3) := by decide +kernel
theorem dX9_placesOf_24 : decode cX9_placesOf 24 = .ok (.iconst 1, 1) := by decide +kernel
theorem dX9_placesOf_25 : decode cX9_placesOf 25 = .ok (.iload_n 3, 1) := by decide +kernel
theorem dX9_placesOf_26 : decode cX9_placesOf 26 = .ok (.ishl, 1) := by decide +kernel
theorem dX9_placesOf_27 : decode cX9_placesOf 27 = .ok (.goto 4, 3) := by decide +kernel
theorem dX9_placesOf_30 : decode cX9_placesOf 30 = .ok (.iconst 0, 1) := by decide +kernel
theorem dX9_placesOf_31 : decode cX9_placesOf 31 = .ok (.ior, 1) := by decide +kernel
theorem dX9_placesOf_32 : decode cX9_placesOf 32 = .ok (.istore_n 2, 1) := by decide +kernel
theorem dX9_placesOf_33 : decode cX9_placesOf 33 = .ok (.iinc 3 1, 3) := by decide +kernel
theorem dX9_placesOf_36 : decode cX9_placesOf 36 = .ok (.goto (-32), 3) := by decide +kernel
theorem dX9_placesOf_39 : decode cX9_placesOf 39 = .ok (.iload_n 2, 1) := by decide +kernel
theorem dX9_placesOf_40 : decode cX9_placesOf 40 = .ok (.ireturn, 1) := by decide +kernel
theorem dX9_bits_0 : decode cX9_bits 0 = .ok (.iconst 0, 1) := by decide +kernel
theorem dX9_bits_1 : decode cX9_bits 1 = .ok (.istore_n 1, 1) := by decide +kernel
theorem dX9_bits_2 : decode cX9_bits 2 = .ok (.iconst 0, 1) := by decide +kernel
theorem dX9_bits_3 : decode cX9_bits 3 = .ok (.istore_n 2, 1) := by decide +kernel
theorem dX9_bits_4 : decode cX9_bits 4 = .ok (.iload_n 2, 1) := by decide +kernel
theorem dX9_bits_5 : decode cX9_bits 5 = .ok (.bipush 16, 2) := by decide +kernel
theorem dX9_bits_7 : decode cX9_bits 7 = .ok (.if_icmp .ge 17, 3) := by decide +kernel
theorem dX9_bits_10 : decode cX9_bits 10 = .ok (.iload_n 1, 1) := by decide +kernel
theorem dX9_bits_11 : decode cX9_bits 11 = .ok (.iload_n 0, 1) := by decide +kernel
theorem dX9_bits_12 : decode cX9_bits 12 = .ok (.iload_n 2, 1) := by decide +kernel
theorem dX9_bits_13 : decode cX9_bits 13 = .ok (.ishr, 1) := by decide +kernel
theorem dX9_bits_14 : decode cX9_bits 14 = .ok (.iconst 1, 1) := by decide +kernel
theorem dX9_bits_15 : decode cX9_bits 15 = .ok (.iand, 1) := by decide +kernel
theorem dX9_bits_16 : decode cX9_bits 16 = .ok (.iadd, 1) := by decide +kernel
theorem dX9_bits_17 : decode cX9_bits 17 = .ok (.istore_n 1, 1) := by decide +kernel
theorem dX9_bits_18 : decode cX9_bits 18 = .ok (.iinc 2 1, 3) := by decide +kernel
theorem dX9_bits_21 : decode cX9_bits 21 = .ok (.goto (-17), 3) := by decide +kernel
theorem dX9_bits_24 : decode cX9_bits 24 = .ok (.iload_n 1, 1) := by decide +kernel
theorem dX9_bits_25 : decode cX9_bits 25 = .ok (.ireturn, 1) := by decide +kernel
theorem dX9_word_0 : decode cX9_word 0 = .ok (.aload_n 0, 1) := by decide +kernel
theorem dX9_word_1 : decode cX9_word 1 = .ok (.iload_n 1, 1) := by decide +kernel
theorem dX9_word_2 : decode cX9_word 2 = .ok (.invokevirtual 320, 3) := by decide +kernel
theorem dX9_word_5 : decode cX9_word 5 = .ok (.ifCond .ne 9, 3) := by decide +kernel
theorem dX9_word_8 : decode cX9_word 8 = .ok (.aload_n 0, 1) := by decide +kernel
theorem dX9_word_9 : decode cX9_word 9 = .ok (.iconst (-1), 1) := by decide +kernel
theorem dX9_word_10 : decode cX9_word 10 = .ok (.invokevirtual 224, 3) := by decide +kernel
theorem dX9_word_13 : decode cX9_word 13 = .ok (.ireturn, 1) := by decide +kernel
theorem dX9_word_14 : decode cX9_word 14 = .ok (.iload_n 2, 1) := by decide +kernel
theorem dX9_word_15 : decode cX9_word 15 = .ok (.tableswitch 70 0 4 #[33, 40, 46, 53, 64], 33) := by decide +kernel
theorem dX9_word_48 : decode cX9_word 48 = .ok (.aload_n 0, 1) := by decide +kernel
theorem dX9_word_49 : decode cX9_word 49 = .ok (.getfield 16, 3) := by decide +kernel
theorem dX9_word_52 : decode cX9_word 52 = .ok (.iload_n 1, 1) := by decide +kernel
theorem dX9_word_53 : decode cX9_word 53 = .ok (.iaload, 1) := by decide +kernel
theorem dX9_word_54 : decode cX9_word 54 = .ok (.ireturn, 1) := by decide +kernel
theorem dX9_word_55 : decode cX9_word 55 = .ok (.aload_n 0, 1) := by decide +kernel
theorem dX9_word_56 : decode cX9_word 56 = .ok (.iload_n 1, 1) := by decide +kernel
theorem dX9_word_57 : decode cX9_word 57 = .ok (.invokevirtual 326, 3) := by decide +kernel
theorem dX9_word_60 : decode cX9_word 60 = .ok (.ireturn, 1) := by decide +kernel
theorem dX9_word_61 : decode cX9_word 61 = .ok (.aload_n 0, 1) := by decide +kernel
theorem dX9_word_62 : decode cX9_word 62 = .ok (.getfield 22, 3) := by decide +kernel
theorem dX9_word_65 : decode cX9_word 65 = .ok (.iload_n 1, 1) := by decide +kernel
theorem dX9_word_66 : decode cX9_word 66 = .ok (.iaload, 1) := by decide +kernel
theorem dX9_word_67 : decode cX9_word 67 = .ok (.ireturn, 1) := by decide +kernel
theorem dX9_word_68 : decode cX9_word 68 = .ok (.aload_n 0, 1) := by decide +kernel
theorem dX9_word_69 : decode cX9_word 69 = .ok (.iload_n 1, 1) := by decide +kernel
theorem dX9_word_70 : decode cX9_word 70 = .ok (.invokevirtual 329, 3) := by decide +kernel
theorem dX9_word_73 : decode cX9_word 73 = .ok (.invokestatic 332, 3) := by decide +kernel
theorem dX9_word_76 : decode cX9_word 76 = .ok (.iconst 1, 1) := by decide +kernel
theorem dX9_word_77 : decode cX9_word 77 = .ok (.iadd, 1) := by decide +kernel
theorem dX9_word_78 : decode cX9_word 78 = .ok (.ireturn, 1) := by decide +kernel
theorem dX9_word_79 : decode cX9_word 79 = .ok (.aload_n 0, 1) := by decide +kernel
theorem dX9_word_80 : decode cX9_word 80 = .ok (.iload_n 1, 1) := by decide +kernel
theorem dX9_word_81 : decode cX9_word 81 = .ok (.invokevirtual 329, 3) := by decide +kernel
theorem dX9_word_84 : decode cX9_word 84 = .ok (.ireturn, 1) := by decide +kernel
theorem dX9_word_85 : decode cX9_word 85 = .ok (.aload_n 0, 1) := by decide +kernel
theorem dX9_word_86 : decode cX9_word 86 = .ok (.bipush (-2), 2) := by decide +kernel
theorem dX9_word_88 : decode cX9_word 88 = .ok (.invokevirtual 224, 3) := by decide +kernel
theorem dX9_word_91 : decode cX9_word 91 = .ok (.ireturn, 1) := by decide +kernel
theorem dX9_spelt_0 : decode cX9_spelt 0 = .ok (.aload_n 0, 1) := by decide +kernel
theorem dX9_spelt_1 : decode cX9_spelt 1 = .ok (.iload_n 1, 1) := by decide +kernel
theorem dX9_spelt_2 : decode cX9_spelt 2 = .ok (.invokevirtual 320, 3) := by decide +kernel
theorem dX9_spelt_5 : decode cX9_spelt 5 = .ok (.ifCond .eq 33, 3) := by decide +kernel
theorem dX9_spelt_8 : decode cX9_spelt 8 = .ok (.iload_n 2, 1) := by decide +kernel
theorem dX9_spelt_9 : decode cX9_spelt 9 = .ok (.iconst 0, 1) := by decide +kernel
theorem dX9_spelt_10 : decode cX9_spelt 10 = .ok (.aload_n 0, 1) := by decide +kernel
theorem dX9_spelt_11 : decode cX9_spelt 11 = .ok (.getfield 16, 3) := by decide +kernel
theorem dX9_spelt_14 : decode cX9_spelt 14 = .ok (.iload_n 1, 1) := by decide +kernel
theorem dX9_spelt_15 : decode cX9_spelt 15 = .ok (.iaload, 1) := by decide +kernel
theorem dX9_spelt_16 : decode cX9_spelt 16 = .ok (.iconst 1, 1) := by decide +kernel
theorem dX9_spelt_17 : decode cX9_spelt 17 = .ok (.isub, 1) := by decide +kernel
theorem dX9_spelt_18 : decode cX9_spelt 18 = .ok (.invokestatic 125, 3) := by decide +kernel
theorem dX9_spelt_21 : decode cX9_spelt 21 = .ok (.ifCond .eq 17, 3) := by decide +kernel
theorem dX9_spelt_24 : decode cX9_spelt 24 = .ok (.aload_n 0, 1) := by decide +kernel
theorem dX9_spelt_25 : decode cX9_spelt 25 = .ok (.getfield 19, 3) := by decide +kernel
theorem dX9_spelt_28 : decode cX9_spelt 28 = .ok (.bipush 12, 2) := by decide +kernel
theorem dX9_spelt_30 : decode cX9_spelt 30 = .ok (.iload_n 1, 1) := by decide +kernel
theorem dX9_spelt_31 : decode cX9_spelt 31 = .ok (.imul, 1) := by decide +kernel
theorem dX9_spelt_32 : decode cX9_spelt 32 = .ok (.iload_n 2, 1) := by decide +kernel
theorem dX9_spelt_33 : decode cX9_spelt 33 = .ok (.iadd, 1) := by decide +kernel
theorem dX9_spelt_34 : decode cX9_spelt 34 = .ok (.iaload, 1) := by decide +kernel
theorem dX9_spelt_35 : decode cX9_spelt 35 = .ok (.goto 8, 3) := by decide +kernel
theorem dX9_spelt_38 : decode cX9_spelt 38 = .ok (.aload_n 0, 1) := by decide +kernel
theorem dX9_spelt_39 : decode cX9_spelt 39 = .ok (.iconst (-1), 1) := by decide +kernel
theorem dX9_spelt_40 : decode cX9_spelt 40 = .ok (.invokevirtual 224, 3) := by decide +kernel
theorem dX9_spelt_43 : decode cX9_spelt 43 = .ok (.ireturn, 1) := by decide +kernel
theorem dX9_values_0 : decode cX9_values 0 = .ok (.aload_n 0, 1) := by decide +kernel
theorem dX9_values_1 : decode cX9_values 1 = .ok (.iload_n 1, 1) := by decide +kernel
theorem dX9_values_2 : decode cX9_values 2 = .ok (.invokevirtual 320, 3) := by decide +kernel
theorem dX9_values_5 : decode cX9_values 5 = .ok (.ifCond .eq 26, 3) := by decide +kernel
theorem dX9_values_8 : decode cX9_values 8 = .ok (.iload_n 2, 1) := by decide +kernel
theorem dX9_values_9 : decode cX9_values 9 = .ok (.iconst 0, 1) := by decide +kernel
theorem dX9_values_10 : decode cX9_values 10 = .ok (.aload_n 0, 1) := by decide +kernel
theorem dX9_values_11 : decode cX9_values 11 = .ok (.getfield 16, 3) := by decide +kernel
theorem dX9_values_14 : decode cX9_values 14 = .ok (.iload_n 1, 1) := by decide +kernel
theorem dX9_values_15 : decode cX9_values 15 = .ok (.iaload, 1) := by decide +kernel
theorem dX9_values_16 : decode cX9_values 16 = .ok (.invokestatic 125, 3) := by decide +kernel
theorem dX9_values_19 : decode cX9_values 19 = .ok (.ifCond .eq 12, 3) := by decide +kernel
theorem dX9_values_22 : decode cX9_values 22 = .ok (.aload_n 0, 1) := by decide +kernel
theorem dX9_values_23 : decode cX9_values 23 = .ok (.iload_n 1, 1) := by decide +kernel
theorem dX9_values_24 : decode cX9_values 24 = .ok (.iload_n 2, 1) := by decide +kernel
theorem dX9_values_25 : decode cX9_values 25 = .ok (.invokevirtual 141, 3) := by decide +kernel
theorem dX9_values_28 : decode cX9_values 28 = .ok (.goto 8, 3) := by decide +kernel
theorem dX9_values_31 : decode cX9_values 31 = .ok (.aload_n 0, 1) := by decide +kernel
theorem dX9_values_32 : decode cX9_values 32 = .ok (.iconst (-1), 1) := by decide +kernel
theorem dX9_values_33 : decode cX9_values 33 = .ok (.invokevirtual 224, 3) := by decide +kernel
theorem dX9_values_36 : decode cX9_values 36 = .ok (.ireturn, 1) := by decide +kernel
theorem dX9_pattern_0 : decode cX9_pattern 0 = .ok (.iload_n 1, 1) := by decide +kernel
theorem dX9_pattern_1 : decode cX9_pattern 1 = .ok (.iconst 0, 1) := by decide +kernel
theorem dX9_pattern_2 : decode cX9_pattern 2 = .ok (.aload_n 0, 1) := by decide +kernel
theorem dX9_pattern_3 : decode cX9_pattern 3 = .ok (.getfield 135, 3) := by decide +kernel
theorem dX9_pattern_6 : decode cX9_pattern 6 = .ok (.iconst 1, 1) := by decide +kernel
theorem dX9_pattern_7 : decode cX9_pattern 7 = .ok (.isub, 1) := by decide +kernel
theorem dX9_pattern_8 : decode cX9_pattern 8 = .ok (.invokestatic 125, 3) := by decide +kernel
theorem dX9_pattern_11 : decode cX9_pattern 11 = .ok (.ifCond .ne 9, 3) := by decide +kernel
theorem dX9_pattern_14 : decode cX9_pattern 14 = .ok (.aload_n 0, 1) := by decide +kernel
theorem dX9_pattern_15 : decode cX9_pattern 15 = .ok (.iconst (-1), 1) := by decide +kernel
theorem dX9_pattern_16 : decode cX9_pattern 16 = .ok (.invokevirtual 224, 3) := by decide +kernel
theorem dX9_pattern_19 : decode cX9_pattern 19 = .ok (.ireturn, 1) := by decide +kernel
theorem dX9_pattern_20 : decode cX9_pattern 20 = .ok (.iload_n 2, 1) := by decide +kernel
theorem dX9_pattern_21 : decode cX9_pattern 21 = .ok (.tableswitch 61 0 3 #[31, 38, 45, 52], 31) := by decide +kernel
theorem dX9_pattern_52 : decode cX9_pattern 52 = .ok (.aload_n 0, 1) := by decide +kernel
theorem dX9_pattern_53 : decode cX9_pattern 53 = .ok (.getfield 25, 3) := by decide +kernel
theorem dX9_pattern_56 : decode cX9_pattern 56 = .ok (.iload_n 1, 1) := by decide +kernel
theorem dX9_pattern_57 : decode cX9_pattern 57 = .ok (.iaload, 1) := by decide +kernel
theorem dX9_pattern_58 : decode cX9_pattern 58 = .ok (.ireturn, 1) := by decide +kernel
theorem dX9_pattern_59 : decode cX9_pattern 59 = .ok (.aload_n 0, 1) := by decide +kernel
theorem dX9_pattern_60 : decode cX9_pattern 60 = .ok (.getfield 31, 3) := by decide +kernel
theorem dX9_pattern_63 : decode cX9_pattern 63 = .ok (.iload_n 1, 1) := by decide +kernel
theorem dX9_pattern_64 : decode cX9_pattern 64 = .ok (.iaload, 1) := by decide +kernel
theorem dX9_pattern_65 : decode cX9_pattern 65 = .ok (.ireturn, 1) := by decide +kernel
theorem dX9_pattern_66 : decode cX9_pattern 66 = .ok (.aload_n 0, 1) := by decide +kernel
theorem dX9_pattern_67 : decode cX9_pattern 67 = .ok (.getfield 34, 3) := by decide +kernel
theorem dX9_pattern_70 : decode cX9_pattern 70 = .ok (.iload_n 1, 1) := by decide +kernel
theorem dX9_pattern_71 : decode cX9_pattern 71 = .ok (.iaload, 1) := by decide +kernel
theorem dX9_pattern_72 : decode cX9_pattern 72 = .ok (.ireturn, 1) := by decide +kernel
theorem dX9_pattern_73 : decode cX9_pattern 73 = .ok (.aload_n 0, 1) := by decide +kernel
theorem dX9_pattern_74 : decode cX9_pattern 74 = .ok (.getfield 28, 3) := by decide +kernel
theorem dX9_pattern_77 : decode cX9_pattern 77 = .ok (.iconst 3, 1) := by decide +kernel
theorem dX9_pattern_78 : decode cX9_pattern 78 = .ok (.iload_n 1, 1) := by decide +kernel
theorem dX9_pattern_79 : decode cX9_pattern 79 = .ok (.imul, 1) := by decide +kernel
theorem dX9_pattern_80 : decode cX9_pattern 80 = .ok (.iaload, 1) := by decide +kernel
theorem dX9_pattern_81 : decode cX9_pattern 81 = .ok (.ireturn, 1) := by decide +kernel
theorem dX9_pattern_82 : decode cX9_pattern 82 = .ok (.aload_n 0, 1) := by decide +kernel
theorem dX9_pattern_83 : decode cX9_pattern 83 = .ok (.bipush (-2), 2) := by decide +kernel
theorem dX9_pattern_85 : decode cX9_pattern 85 = .ok (.invokevirtual 224, 3) := by decide +kernel
theorem dX9_pattern_88 : decode cX9_pattern 88 = .ok (.ireturn, 1) := by decide +kernel
theorem dX9_hyphened_0 : decode cX9_hyphened 0 = .ok (.iconst 0, 1) := by decide +kernel
theorem dX9_hyphened_1 : decode cX9_hyphened 1 = .ok (.istore_n 1, 1) := by decide +kernel
theorem dX9_hyphened_2 : decode cX9_hyphened 2 = .ok (.iconst 1, 1) := by decide +kernel
theorem dX9_hyphened_3 : decode cX9_hyphened 3 = .ok (.istore_n 2, 1) := by decide +kernel
theorem dX9_hyphened_4 : decode cX9_hyphened 4 = .ok (.iload_n 2, 1) := by decide +kernel
theorem dX9_hyphened_5 : decode cX9_hyphened 5 = .ok (.aload_n 0, 1) := by decide +kernel
theorem dX9_hyphened_6 : decode cX9_hyphened 6 = .ok (.getfield 211, 3) := by decide +kernel
theorem dX9_hyphened_9 : decode cX9_hyphened 9 = .ok (.if_icmp .gt 34, 3) := by decide +kernel
theorem dX9_hyphened_12 : decode cX9_hyphened 12 = .ok (.iload_n 1, 1) := by decide +kernel
theorem dX9_hyphened_13 : decode cX9_hyphened 13 = .ok (.aload_n 0, 1) := by decide +kernel
theorem dX9_hyphened_14 : decode cX9_hyphened 14 = .ok (.getfield 43, 3) := by decide +kernel
theorem dX9_hyphened_17 : decode cX9_hyphened 17 = .ok (.aload_n 0, 1) := by decide +kernel
theorem dX9_hyphened_18 : decode cX9_hyphened 18 = .ok (.getfield 56, 3) := by decide +kernel
theorem dX9_hyphened_21 : decode cX9_hyphened 21 = .ok (.iload_n 2, 1) := by decide +kernel
theorem dX9_hyphened_22 : decode cX9_hyphened 22 = .ok (.iaload, 1) := by decide +kernel
theorem dX9_hyphened_23 : decode cX9_hyphened 23 = .ok (.iconst 1, 1) := by decide +kernel
theorem dX9_hyphened_24 : decode cX9_hyphened 24 = .ok (.isub, 1) := by decide +kernel
theorem dX9_hyphened_25 : decode cX9_hyphened 25 = .ok (.iaload, 1) := by decide +kernel
theorem dX9_hyphened_26 : decode cX9_hyphened 26 = .ok (.iconst 1, 1) := by decide +kernel
theorem dX9_hyphened_27 : decode cX9_hyphened 27 = .ok (.if_icmp .ne 7, 3) := by decide +kernel
theorem dX9_hyphened_30 : decode cX9_hyphened 30 = .ok (.iconst 1, 1) := by decide +kernel
theorem dX9_hyphened_31 : decode cX9_hyphened 31 = .ok (.goto 4, 3) := by decide +kernel
theorem dX9_hyphened_34 : decode cX9_hyphened 34 = .ok (.iconst 0, 1) := by decide +kernel
theorem dX9_hyphened_35 : decode cX9_hyphened 35 = .ok (.iadd, 1) := by decide +kernel
theorem dX9_hyphened_36 : decode cX9_hyphened 36 = .ok (.istore_n 1, 1) := by decide +kernel
theorem dX9_hyphened_37 : decode cX9_hyphened 37 = .ok (.iinc 2 1, 3) := by decide +kernel
theorem dX9_hyphened_40 : decode cX9_hyphened 40 = .ok (.goto (-36), 3) := by decide +kernel
theorem dX9_hyphened_43 : decode cX9_hyphened 43 = .ok (.iload_n 1, 1) := by decide +kernel
theorem dX9_hyphened_44 : decode cX9_hyphened 44 = .ok (.ireturn, 1) := by decide +kernel
theorem dX9_widows_0 : decode cX9_widows 0 = .ok (.iconst 0, 1) := by decide +kernel
theorem dX9_widows_1 : decode cX9_widows 1 = .ok (.istore_n 1, 1) := by decide +kernel
theorem dX9_widows_2 : decode cX9_widows 2 = .ok (.iconst 0, 1) := by decide +kernel
theorem dX9_widows_3 : decode cX9_widows 3 = .ok (.istore_n 2, 1) := by decide +kernel
theorem dX9_widows_4 : decode cX9_widows 4 = .ok (.iload_n 2, 1) := by decide +kernel
theorem dX9_widows_5 : decode cX9_widows 5 = .ok (.aload_n 0, 1) := by decide +kernel
theorem dX9_widows_6 : decode cX9_widows 6 = .ok (.getfield 211, 3) := by decide +kernel
theorem dX9_widows_9 : decode cX9_widows 9 = .ok (.if_icmp .ge 38, 3) := by decide +kernel
theorem dX9_widows_12 : decode cX9_widows 12 = .ok (.iload_n 1, 1) := by decide +kernel
theorem dX9_widows_13 : decode cX9_widows 13 = .ok (.aload_n 0, 1) := by decide +kernel
theorem dX9_widows_14 : decode cX9_widows 14 = .ok (.aload_n 0, 1) := by decide +kernel
theorem dX9_widows_15 : decode cX9_widows 15 = .ok (.getfield 56, 3) := by decide +kernel
theorem dX9_widows_18 : decode cX9_widows 18 = .ok (.iload_n 2, 1) := by decide +kernel
theorem dX9_widows_19 : decode cX9_widows 19 = .ok (.iaload, 1) := by decide +kernel
theorem dX9_widows_20 : decode cX9_widows 20 = .ok (.aload_n 0, 1) := by decide +kernel
theorem dX9_widows_21 : decode cX9_widows 21 = .ok (.getfield 56, 3) := by decide +kernel
theorem dX9_widows_24 : decode cX9_widows 24 = .ok (.iload_n 2, 1) := by decide +kernel
theorem dX9_widows_25 : decode cX9_widows 25 = .ok (.iconst 1, 1) := by decide +kernel
theorem dX9_widows_26 : decode cX9_widows 26 = .ok (.iadd, 1) := by decide +kernel
theorem dX9_widows_27 : decode cX9_widows 27 = .ok (.iaload, 1) := by decide +kernel
theorem dX9_widows_28 : decode cX9_widows 28 = .ok (.invokevirtual 193, 3) := by decide +kernel
theorem dX9_widows_31 : decode cX9_widows 31 = .ok (.ifCond .eq 7, 3) := by decide +kernel
theorem dX9_widows_34 : decode cX9_widows 34 = .ok (.iconst 1, 1) := by decide +kernel
theorem dX9_widows_35 : decode cX9_widows 35 = .ok (.goto 4, 3) := by decide +kernel
theorem dX9_widows_38 : decode cX9_widows 38 = .ok (.iconst 0, 1) := by decide +kernel
theorem dX9_widows_39 : decode cX9_widows 39 = .ok (.iadd, 1) := by decide +kernel
theorem dX9_widows_40 : decode cX9_widows 40 = .ok (.istore_n 1, 1) := by decide +kernel
theorem dX9_widows_41 : decode cX9_widows 41 = .ok (.iinc 2 1, 3) := by decide +kernel
theorem dX9_widows_44 : decode cX9_widows 44 = .ok (.goto (-40), 3) := by decide +kernel
theorem dX9_widows_47 : decode cX9_widows 47 = .ok (.iload_n 1, 1) := by decide +kernel
theorem dX9_widows_48 : decode cX9_widows 48 = .ok (.ireturn, 1) := by decide +kernel
theorem dX9_ratioOfLine_0 : decode cX9_ratioOfLine 0 = .ok (.aload_n 0, 1) := by decide +kernel
theorem dX9_ratioOfLine_1 : decode cX9_ratioOfLine 1 = .ok (.aload_n 0, 1) := by decide +kernel
theorem dX9_ratioOfLine_2 : decode cX9_ratioOfLine 2 = .ok (.getfield 56, 3) := by decide +kernel
theorem dX9_ratioOfLine_5 : decode cX9_ratioOfLine 5 = .ok (.iload_n 1, 1) := by decide +kernel
theorem dX9_ratioOfLine_6 : decode cX9_ratioOfLine 6 = .ok (.iaload, 1) := by decide +kernel
theorem dX9_ratioOfLine_7 : decode cX9_ratioOfLine 7 = .ok (.aload_n 0, 1) := by decide +kernel
theorem dX9_ratioOfLine_8 : decode cX9_ratioOfLine 8 = .ok (.getfield 56, 3) := by decide +kernel
theorem dX9_ratioOfLine_11 : decode cX9_ratioOfLine 11 = .ok (.iload_n 1, 1) := by decide +kernel
theorem dX9_ratioOfLine_12 : decode cX9_ratioOfLine 12 = .ok (.iconst 1, 1) := by decide +kernel
theorem dX9_ratioOfLine_13 : decode cX9_ratioOfLine 13 = .ok (.iadd, 1) := by decide +kernel
theorem dX9_ratioOfLine_14 : decode cX9_ratioOfLine 14 = .ok (.iaload, 1) := by decide +kernel
theorem dX9_ratioOfLine_15 : decode cX9_ratioOfLine 15 = .ok (.invokevirtual 176, 3) := by decide +kernel
theorem dX9_ratioOfLine_18 : decode cX9_ratioOfLine 18 = .ok (.freturn, 1) := by decide +kernel
theorem dX9_loosest_0 : decode cX9_loosest 0 = .ok (.bipush (-9), 2) := by decide +kernel
theorem dX9_loosest_2 : decode cX9_loosest 2 = .ok (.istore_n 1, 1) := by decide +kernel
theorem dX9_loosest_3 : decode cX9_loosest 3 = .ok (.iconst 0, 1) := by decide +kernel
theorem dX9_loosest_4 : decode cX9_loosest 4 = .ok (.istore_n 2, 1) := by decide +kernel
theorem dX9_loosest_5 : decode cX9_loosest 5 = .ok (.iload_n 2, 1) := by decide +kernel
theorem dX9_loosest_6 : decode cX9_loosest 6 = .ok (.aload_n 0, 1) := by decide +kernel
theorem dX9_loosest_7 : decode cX9_loosest 7 = .ok (.getfield 211, 3) := by decide +kernel
theorem dX9_loosest_10 : decode cX9_loosest 10 = .ok (.if_icmp .ge 33, 3) := by decide +kernel
theorem dX9_loosest_13 : decode cX9_loosest 13 = .ok (.iload_n 1, 1) := by decide +kernel
theorem dX9_loosest_14 : decode cX9_loosest 14 = .ok (.ifCond .lt 17, 3) := by decide +kernel
theorem dX9_loosest_17 : decode cX9_loosest 17 = .ok (.aload_n 0, 1) := by decide +kernel
theorem dX9_loosest_18 : decode cX9_loosest 18 = .ok (.iload_n 2, 1) := by decide +kernel
theorem dX9_loosest_19 : decode cX9_loosest 19 = .ok (.invokevirtual 335, 3) := by decide +kernel
theorem dX9_loosest_22 : decode cX9_loosest 22 = .ok (.aload_n 0, 1) := by decide +kernel
theorem dX9_loosest_23 : decode cX9_loosest 23 = .ok (.iload_n 1, 1) := by decide +kernel
theorem dX9_loosest_24 : decode cX9_loosest 24 = .ok (.invokevirtual 335, 3) := by decide +kernel
theorem dX9_loosest_27 : decode cX9_loosest 27 = .ok (.fcmp .l, 1) := by decide +kernel
theorem dX9_loosest_28 : decode cX9_loosest 28 = .ok (.ifCond .le 7, 3) := by decide +kernel
theorem dX9_loosest_31 : decode cX9_loosest 31 = .ok (.iload_n 2, 1) := by decide +kernel
theorem dX9_loosest_32 : decode cX9_loosest 32 = .ok (.goto 4, 3) := by decide +kernel
theorem dX9_loosest_35 : decode cX9_loosest 35 = .ok (.iload_n 1, 1) := by decide +kernel
theorem dX9_loosest_36 : decode cX9_loosest 36 = .ok (.istore_n 1, 1) := by decide +kernel
theorem dX9_loosest_37 : decode cX9_loosest 37 = .ok (.iinc 2 1, 3) := by decide +kernel
theorem dX9_loosest_40 : decode cX9_loosest 40 = .ok (.goto (-35), 3) := by decide +kernel
theorem dX9_loosest_43 : decode cX9_loosest 43 = .ok (.iload_n 1, 1) := by decide +kernel
theorem dX9_loosest_44 : decode cX9_loosest 44 = .ok (.ireturn, 1) := by decide +kernel
theorem dX9_tightest_0 : decode cX9_tightest 0 = .ok (.bipush (-9), 2) := by decide +kernel
theorem dX9_tightest_2 : decode cX9_tightest 2 = .ok (.istore_n 1, 1) := by decide +kernel
theorem dX9_tightest_3 : decode cX9_tightest 3 = .ok (.iconst 0, 1) := by decide +kernel
theorem dX9_tightest_4 : decode cX9_tightest 4 = .ok (.istore_n 2, 1) := by decide +kernel
theorem dX9_tightest_5 : decode cX9_tightest 5 = .ok (.iload_n 2, 1) := by decide +kernel
theorem dX9_tightest_6 : decode cX9_tightest 6 = .ok (.aload_n 0, 1) := by decide +kernel
theorem dX9_tightest_7 : decode cX9_tightest 7 = .ok (.getfield 211, 3) := by decide +kernel
theorem dX9_tightest_10 : decode cX9_tightest 10 = .ok (.if_icmp .ge 33, 3) := by decide +kernel
theorem dX9_tightest_13 : decode cX9_tightest 13 = .ok (.iload_n 1, 1) := by decide +kernel
theorem dX9_tightest_14 : decode cX9_tightest 14 = .ok (.ifCond .lt 17, 3) := by decide +kernel
theorem dX9_tightest_17 : decode cX9_tightest 17 = .ok (.aload_n 0, 1) := by decide +kernel
theorem dX9_tightest_18 : decode cX9_tightest 18 = .ok (.iload_n 2, 1) := by decide +kernel
theorem dX9_tightest_19 : decode cX9_tightest 19 = .ok (.invokevirtual 335, 3) := by decide +kernel
theorem dX9_tightest_22 : decode cX9_tightest 22 = .ok (.aload_n 0, 1) := by decide +kernel
theorem dX9_tightest_23 : decode cX9_tightest 23 = .ok (.iload_n 1, 1) := by decide +kernel
theorem dX9_tightest_24 : decode cX9_tightest 24 = .ok (.invokevirtual 335, 3) := by decide +kernel
theorem dX9_tightest_27 : decode cX9_tightest 27 = .ok (.fcmp .g, 1) := by decide +kernel
theorem dX9_tightest_28 : decode cX9_tightest 28 = .ok (.ifCond .ge 7, 3) := by decide +kernel
theorem dX9_tightest_31 : decode cX9_tightest 31 = .ok (.iload_n 2, 1) := by decide +kernel
theorem dX9_tightest_32 : decode cX9_tightest 32 = .ok (.goto 4, 3) := by decide +kernel
theorem dX9_tightest_35 : decode cX9_tightest 35 = .ok (.iload_n 1, 1) := by decide +kernel
theorem dX9_tightest_36 : decode cX9_tightest 36 = .ok (.istore_n 1, 1) := by decide +kernel
theorem dX9_tightest_37 : decode cX9_tightest 37 = .ok (.iinc 2 1, 3) := by decide +kernel
theorem dX9_tightest_40 : decode cX9_tightest 40 = .ok (.goto (-35), 3) := by decide +kernel
theorem dX9_tightest_43 : decode cX9_tightest 43 = .ok (.iload_n 1, 1) := by decide +kernel
theorem dX9_tightest_44 : decode cX9_tightest 44 = .ok (.ireturn, 1) := by decide +kernel
theorem dX9_lines_0 : decode cX9_lines 0 = .ok (.iload_n 1, 1) := by decide +kernel
theorem dX9_lines_1 : decode cX9_lines 1 = .ok (.iconst 0, 1) := by decide +kernel
theorem dX9_lines_2 : decode cX9_lines 2 = .ok (.iconst 5, 1) := by decide +kernel
theorem dX9_lines_3 : decode cX9_lines 3 = .ok (.invokestatic 125, 3) := by decide +kernel
theorem dX9_lines_6 : decode cX9_lines 6 = .ok (.ifCond .ne 10, 3) := by decide +kernel
theorem dX9_lines_9 : decode cX9_lines 9 = .ok (.aload_n 0, 1) := by decide +kernel
theorem dX9_lines_10 : decode cX9_lines 10 = .ok (.bipush (-2), 2) := by decide +kernel
theorem dX9_lines_12 : decode cX9_lines 12 = .ok (.invokevirtual 224, 3) := by decide +kernel
theorem dX9_lines_15 : decode cX9_lines 15 = .ok (.ireturn, 1) := by decide +kernel
theorem dX9_lines_16 : decode cX9_lines 16 = .ok (.aload_n 0, 1) := by decide +kernel
theorem dX9_lines_17 : decode cX9_lines 17 = .ok (.invokevirtual 214, 3) := by decide +kernel
theorem dX9_lines_20 : decode cX9_lines 20 = .ok (.pop, 1) := by decide +kernel
theorem dX9_lines_21 : decode cX9_lines 21 = .ok (.iload_n 1, 1) := by decide +kernel
theorem dX9_lines_22 : decode cX9_lines 22 = .ok (.iconst 5, 1) := by decide +kernel
theorem dX9_lines_23 : decode cX9_lines 23 = .ok (.if_icmp .ne 8, 3) := by decide +kernel
theorem dX9_lines_26 : decode cX9_lines 26 = .ok (.aload_n 0, 1) := by decide +kernel
theorem dX9_lines_27 : decode cX9_lines 27 = .ok (.getfield 145, 3) := by decide +kernel
theorem dX9_lines_30 : decode cX9_lines 30 = .ok (.ireturn, 1) := by decide +kernel
theorem dX9_lines_31 : decode cX9_lines 31 = .ok (.aload_n 0, 1) := by decide +kernel
theorem dX9_lines_32 : decode cX9_lines 32 = .ok (.getfield 211, 3) := by decide +kernel
theorem dX9_lines_35 : decode cX9_lines 35 = .ok (.ifCond .ge 6, 3) := by decide +kernel
theorem dX9_lines_38 : decode cX9_lines 38 = .ok (.bipush (-9), 2) := by decide +kernel
theorem dX9_lines_40 : decode cX9_lines 40 = .ok (.ireturn, 1) := by decide +kernel
theorem dX9_lines_41 : decode cX9_lines 41 = .ok (.iload_n 1, 1) := by decide +kernel
theorem dX9_lines_42 : decode cX9_lines 42 = .ok (.tableswitch 50 0 3 #[30, 35, 40, 45], 30) := by decide +kernel
theorem dX9_lines_72 : decode cX9_lines 72 = .ok (.aload_n 0, 1) := by decide +kernel
theorem dX9_lines_73 : decode cX9_lines 73 = .ok (.getfield 211, 3) := by decide +kernel
theorem dX9_lines_76 : decode cX9_lines 76 = .ok (.ireturn, 1) := by decide +kernel
theorem dX9_lines_77 : decode cX9_lines 77 = .ok (.aload_n 0, 1) := by decide +kernel
theorem dX9_lines_78 : decode cX9_lines 78 = .ok (.invokevirtual 339, 3) := by decide +kernel
theorem dX9_lines_81 : decode cX9_lines 81 = .ok (.ireturn, 1) := by decide +kernel
theorem dX9_lines_82 : decode cX9_lines 82 = .ok (.aload_n 0, 1) := by decide +kernel
theorem dX9_lines_83 : decode cX9_lines 83 = .ok (.invokevirtual 342, 3) := by decide +kernel
theorem dX9_lines_86 : decode cX9_lines 86 = .ok (.ireturn, 1) := by decide +kernel
theorem dX9_lines_87 : decode cX9_lines 87 = .ok (.aload_n 0, 1) := by decide +kernel
theorem dX9_lines_88 : decode cX9_lines 88 = .ok (.invokevirtual 345, 3) := by decide +kernel
theorem dX9_lines_91 : decode cX9_lines 91 = .ok (.ireturn, 1) := by decide +kernel
theorem dX9_lines_92 : decode cX9_lines 92 = .ok (.aload_n 0, 1) := by decide +kernel
theorem dX9_lines_93 : decode cX9_lines 93 = .ok (.invokevirtual 348, 3) := by decide +kernel
theorem dX9_lines_96 : decode cX9_lines 96 = .ok (.ireturn, 1) := by decide +kernel
theorem dX9_lineOf_0 : decode cX9_lineOf 0 = .ok (.aload_n 0, 1) := by decide +kernel
theorem dX9_lineOf_1 : decode cX9_lineOf 1 = .ok (.iload_n 1, 1) := by decide +kernel
theorem dX9_lineOf_2 : decode cX9_lineOf 2 = .ok (.invokevirtual 351, 3) := by decide +kernel
theorem dX9_lineOf_5 : decode cX9_lineOf 5 = .ok (.ifCond .ne 9, 3) := by decide +kernel
theorem dX9_lineOf_8 : decode cX9_lineOf 8 = .ok (.aload_n 0, 1) := by decide +kernel
theorem dX9_lineOf_9 : decode cX9_lineOf 9 = .ok (.iconst (-1), 1) := by decide +kernel
theorem dX9_lineOf_10 : decode cX9_lineOf 10 = .ok (.invokevirtual 224, 3) := by decide +kernel
theorem dX9_lineOf_13 : decode cX9_lineOf 13 = .ok (.ireturn, 1) := by decide +kernel
theorem dX9_lineOf_14 : decode cX9_lineOf 14 = .ok (.aload_n 0, 1) := by decide +kernel
theorem dX9_lineOf_15 : decode cX9_lineOf 15 = .ok (.getfield 56, 3) := by decide +kernel
theorem dX9_lineOf_18 : decode cX9_lineOf 18 = .ok (.iload_n 1, 1) := by decide +kernel
theorem dX9_lineOf_19 : decode cX9_lineOf 19 = .ok (.iaload, 1) := by decide +kernel
theorem dX9_lineOf_20 : decode cX9_lineOf 20 = .ok (.istore_n 3, 1) := by decide +kernel
theorem dX9_lineOf_21 : decode cX9_lineOf 21 = .ok (.aload_n 0, 1) := by decide +kernel
theorem dX9_lineOf_22 : decode cX9_lineOf 22 = .ok (.getfield 56, 3) := by decide +kernel
theorem dX9_lineOf_25 : decode cX9_lineOf 25 = .ok (.iload_n 1, 1) := by decide +kernel
theorem dX9_lineOf_26 : decode cX9_lineOf 26 = .ok (.iconst 1, 1) := by decide +kernel
theorem dX9_lineOf_27 : decode cX9_lineOf 27 = .ok (.iadd, 1) := by decide +kernel
theorem dX9_lineOf_28 : decode cX9_lineOf 28 = .ok (.iaload, 1) := by decide +kernel
theorem dX9_lineOf_29 : decode cX9_lineOf 29 = .ok (.istore 4, 2) := by decide +kernel
theorem dX9_lineOf_31 : decode cX9_lineOf 31 = .ok (.iload_n 2, 1) := by decide +kernel
theorem dX9_lineOf_32 : decode cX9_lineOf 32 = .ok (.tableswitch 80 0 4 #[36, 38, 43, 51, 70], 36) := by decide +kernel
theorem dX9_lineOf_68 : decode cX9_lineOf 68 = .ok (.iload_n 3, 1) := by decide +kernel
theorem dX9_lineOf_69 : decode cX9_lineOf 69 = .ok (.ireturn, 1) := by decide +kernel
theorem dX9_lineOf_70 : decode cX9_lineOf 70 = .ok (.iload 4, 2) := by decide +kernel
theorem dX9_lineOf_72 : decode cX9_lineOf 72 = .ok (.iload_n 3, 1) := by decide +kernel
theorem dX9_lineOf_73 : decode cX9_lineOf 73 = .ok (.isub, 1) := by decide +kernel
theorem dX9_lineOf_74 : decode cX9_lineOf 74 = .ok (.ireturn, 1) := by decide +kernel
theorem dX9_lineOf_75 : decode cX9_lineOf 75 = .ok (.aload_n 0, 1) := by decide +kernel
theorem dX9_lineOf_76 : decode cX9_lineOf 76 = .ok (.iload_n 3, 1) := by decide +kernel
theorem dX9_lineOf_77 : decode cX9_lineOf 77 = .ok (.iload 4, 2) := by decide +kernel
theorem dX9_lineOf_79 : decode cX9_lineOf 79 = .ok (.invokevirtual 160, 3) := by decide +kernel
theorem dX9_lineOf_82 : decode cX9_lineOf 82 = .ok (.ireturn, 1) := by decide +kernel
theorem dX9_lineOf_83 : decode cX9_lineOf 83 = .ok (.aload_n 0, 1) := by decide +kernel
theorem dX9_lineOf_84 : decode cX9_lineOf 84 = .ok (.getfield 46, 3) := by decide +kernel
theorem dX9_lineOf_87 : decode cX9_lineOf 87 = .ok (.iload 4, 2) := by decide +kernel
theorem dX9_lineOf_89 : decode cX9_lineOf 89 = .ok (.iconst 1, 1) := by decide +kernel
theorem dX9_lineOf_90 : decode cX9_lineOf 90 = .ok (.isub, 1) := by decide +kernel
theorem dX9_lineOf_91 : decode cX9_lineOf 91 = .ok (.iaload, 1) := by decide +kernel
theorem dX9_lineOf_92 : decode cX9_lineOf 92 = .ok (.aload_n 0, 1) := by decide +kernel
theorem dX9_lineOf_93 : decode cX9_lineOf 93 = .ok (.getfield 46, 3) := by decide +kernel
theorem dX9_lineOf_96 : decode cX9_lineOf 96 = .ok (.iload_n 3, 1) := by decide +kernel
theorem dX9_lineOf_97 : decode cX9_lineOf 97 = .ok (.iaload, 1) := by decide +kernel
theorem dX9_lineOf_98 : decode cX9_lineOf 98 = .ok (.isub, 1) := by decide +kernel
theorem dX9_lineOf_99 : decode cX9_lineOf 99 = .ok (.iconst 1, 1) := by decide +kernel
theorem dX9_lineOf_100 : decode cX9_lineOf 100 = .ok (.iadd, 1) := by decide +kernel
theorem dX9_lineOf_101 : decode cX9_lineOf 101 = .ok (.ireturn, 1) := by decide +kernel
theorem dX9_lineOf_102 : decode cX9_lineOf 102 = .ok (.aload_n 0, 1) := by decide +kernel
theorem dX9_lineOf_103 : decode cX9_lineOf 103 = .ok (.getfield 43, 3) := by decide +kernel
theorem dX9_lineOf_106 : decode cX9_lineOf 106 = .ok (.iload 4, 2) := by decide +kernel
theorem dX9_lineOf_108 : decode cX9_lineOf 108 = .ok (.iconst 1, 1) := by decide +kernel
theorem dX9_lineOf_109 : decode cX9_lineOf 109 = .ok (.isub, 1) := by decide +kernel
theorem dX9_lineOf_110 : decode cX9_lineOf 110 = .ok (.iaload, 1) := by decide +kernel
theorem dX9_lineOf_111 : decode cX9_lineOf 111 = .ok (.ireturn, 1) := by decide +kernel
theorem dX9_lineOf_112 : decode cX9_lineOf 112 = .ok (.aload_n 0, 1) := by decide +kernel
theorem dX9_lineOf_113 : decode cX9_lineOf 113 = .ok (.bipush (-2), 2) := by decide +kernel
theorem dX9_lineOf_115 : decode cX9_lineOf 115 = .ok (.invokevirtual 224, 3) := by decide +kernel
theorem dX9_lineOf_118 : decode cX9_lineOf 118 = .ok (.ireturn, 1) := by decide +kernel
theorem dX9_ratio_0 : decode cX9_ratio 0 = .ok (.aload_n 0, 1) := by decide +kernel
theorem dX9_ratio_1 : decode cX9_ratio 1 = .ok (.iload_n 1, 1) := by decide +kernel
theorem dX9_ratio_2 : decode cX9_ratio 2 = .ok (.invokevirtual 351, 3) := by decide +kernel
theorem dX9_ratio_5 : decode cX9_ratio 5 = .ok (.ifCond .eq 14, 3) := by decide +kernel
theorem dX9_ratio_8 : decode cX9_ratio 8 = .ok (.aload_n 0, 1) := by decide +kernel
theorem dX9_ratio_9 : decode cX9_ratio 9 = .ok (.iload_n 1, 1) := by decide +kernel
theorem dX9_ratio_10 : decode cX9_ratio 10 = .ok (.invokevirtual 335, 3) := by decide +kernel
theorem dX9_ratio_13 : decode cX9_ratio 13 = .ok (.invokestatic 354, 3) := by decide +kernel
theorem dX9_ratio_16 : decode cX9_ratio 16 = .ok (.goto 4, 3) := by decide +kernel
theorem dX9_ratio_19 : decode cX9_ratio 19 = .ok (.iconst 0, 1) := by decide +kernel
theorem dX9_ratio_20 : decode cX9_ratio 20 = .ok (.ireturn, 1) := by decide +kernel
theorem dX9_badness_0 : decode cX9_badness 0 = .ok (.aload_n 0, 1) := by decide +kernel
theorem dX9_badness_1 : decode cX9_badness 1 = .ok (.iload_n 1, 1) := by decide +kernel
theorem dX9_badness_2 : decode cX9_badness 2 = .ok (.invokevirtual 351, 3) := by decide +kernel
theorem dX9_badness_5 : decode cX9_badness 5 = .ok (.ifCond .eq 27, 3) := by decide +kernel
theorem dX9_badness_8 : decode cX9_badness 8 = .ok (.aload_n 0, 1) := by decide +kernel
theorem dX9_badness_9 : decode cX9_badness 9 = .ok (.aload_n 0, 1) := by decide +kernel
theorem dX9_badness_10 : decode cX9_badness 10 = .ok (.getfield 56, 3) := by decide +kernel
theorem dX9_badness_13 : decode cX9_badness 13 = .ok (.iload_n 1, 1) := by decide +kernel
theorem dX9_badness_14 : decode cX9_badness 14 = .ok (.iaload, 1) := by decide +kernel
theorem dX9_badness_15 : decode cX9_badness 15 = .ok (.aload_n 0, 1) := by decide +kernel
theorem dX9_badness_16 : decode cX9_badness 16 = .ok (.getfield 56, 3) := by decide +kernel
theorem dX9_badness_19 : decode cX9_badness 19 = .ok (.iload_n 1, 1) := by decide +kernel
theorem dX9_badness_20 : decode cX9_badness 20 = .ok (.iconst 1, 1) := by decide +kernel
theorem dX9_badness_21 : decode cX9_badness 21 = .ok (.iadd, 1) := by decide +kernel
theorem dX9_badness_22 : decode cX9_badness 22 = .ok (.iaload, 1) := by decide +kernel
theorem dX9_badness_23 : decode cX9_badness 23 = .ok (.invokevirtual 186, 3) := by decide +kernel
theorem dX9_badness_26 : decode cX9_badness 26 = .ok (.invokestatic 354, 3) := by decide +kernel
theorem dX9_badness_29 : decode cX9_badness 29 = .ok (.goto 4, 3) := by decide +kernel
theorem dX9_badness_32 : decode cX9_badness 32 = .ok (.iconst 0, 1) := by decide +kernel
theorem dX9_badness_33 : decode cX9_badness 33 = .ok (.ireturn, 1) := by decide +kernel
theorem dX9_demerits_0 : decode cX9_demerits 0 = .ok (.aload_n 0, 1) := by decide +kernel
theorem dX9_demerits_1 : decode cX9_demerits 1 = .ok (.iload_n 1, 1) := by decide +kernel
theorem dX9_demerits_2 : decode cX9_demerits 2 = .ok (.invokevirtual 351, 3) := by decide +kernel
theorem dX9_demerits_5 : decode cX9_demerits 5 = .ok (.ifCond .eq 27, 3) := by decide +kernel
theorem dX9_demerits_8 : decode cX9_demerits 8 = .ok (.aload_n 0, 1) := by decide +kernel
theorem dX9_demerits_9 : decode cX9_demerits 9 = .ok (.aload_n 0, 1) := by decide +kernel
theorem dX9_demerits_10 : decode cX9_demerits 10 = .ok (.getfield 56, 3) := by decide +kernel
theorem dX9_demerits_13 : decode cX9_demerits 13 = .ok (.iload_n 1, 1) := by decide +kernel
theorem dX9_demerits_14 : decode cX9_demerits 14 = .ok (.iaload, 1) := by decide +kernel
theorem dX9_demerits_15 : decode cX9_demerits 15 = .ok (.aload_n 0, 1) := by decide +kernel
theorem dX9_demerits_16 : decode cX9_demerits 16 = .ok (.getfield 56, 3) := by decide +kernel
theorem dX9_demerits_19 : decode cX9_demerits 19 = .ok (.iload_n 1, 1) := by decide +kernel
theorem dX9_demerits_20 : decode cX9_demerits 20 = .ok (.iconst 1, 1) := by decide +kernel
theorem dX9_demerits_21 : decode cX9_demerits 21 = .ok (.iadd, 1) := by decide +kernel
theorem dX9_demerits_22 : decode cX9_demerits 22 = .ok (.iaload, 1) := by decide +kernel
theorem dX9_demerits_23 : decode cX9_demerits 23 = .ok (.invokevirtual 199, 3) := by decide +kernel
theorem dX9_demerits_26 : decode cX9_demerits 26 = .ok (.invokestatic 354, 3) := by decide +kernel
theorem dX9_demerits_29 : decode cX9_demerits 29 = .ok (.goto 4, 3) := by decide +kernel
theorem dX9_demerits_32 : decode cX9_demerits 32 = .ok (.iconst 0, 1) := by decide +kernel
theorem dX9_demerits_33 : decode cX9_demerits 33 = .ok (.ireturn, 1) := by decide +kernel
theorem dX9_findByOf_0 : decode cX9_findByOf 0 = .ok (.aload_n 0, 1) := by decide +kernel
theorem dX9_findByOf_1 : decode cX9_findByOf 1 = .ok (.getfield 89, 3) := by decide +kernel
theorem dX9_findByOf_4 : decode cX9_findByOf 4 = .ok (.iload_n 1, 1) := by decide +kernel
theorem dX9_findByOf_5 : decode cX9_findByOf 5 = .ok (.iconst 0, 1) := by decide +kernel
theorem dX9_findByOf_6 : decode cX9_findByOf 6 = .ok (.iastore, 1) := by decide +kernel
theorem dX9_findByOf_7 : decode cX9_findByOf 7 = .ok (.iload_n 1, 1) := by decide +kernel
theorem dX9_findByOf_8 : decode cX9_findByOf 8 = .ok (.iconst 1, 1) := by decide +kernel
theorem dX9_findByOf_9 : decode cX9_findByOf 9 = .ok (.isub, 1) := by decide +kernel
theorem dX9_findByOf_10 : decode cX9_findByOf 10 = .ok (.istore_n 2, 1) := by decide +kernel
theorem dX9_findByOf_11 : decode cX9_findByOf 11 = .ok (.iload_n 2, 1) := by decide +kernel
theorem dX9_findByOf_12 : decode cX9_findByOf 12 = .ok (.ifCond .lt 97, 3) := by decide +kernel
theorem dX9_findByOf_15 : decode cX9_findByOf 15 = .ok (.aload_n 0, 1) := by decide +kernel
theorem dX9_findByOf_16 : decode cX9_findByOf 16 = .ok (.getfield 92, 3) := by decide +kernel
theorem dX9_findByOf_19 : decode cX9_findByOf 19 = .ok (.iload_n 2, 1) := by decide +kernel
theorem dX9_findByOf_20 : decode cX9_findByOf 20 = .ok (.iaload, 1) := by decide +kernel
theorem dX9_findByOf_21 : decode cX9_findByOf 21 = .ok (.iconst 1, 1) := by decide +kernel
theorem dX9_findByOf_22 : decode cX9_findByOf 22 = .ok (.if_icmp .ne 60, 3) := by decide +kernel
theorem dX9_findByOf_25 : decode cX9_findByOf 25 = .ok (.aload_n 0, 1) := by decide +kernel
theorem dX9_findByOf_26 : decode cX9_findByOf 26 = .ok (.iload_n 2, 1) := by decide +kernel
theorem dX9_findByOf_27 : decode cX9_findByOf 27 = .ok (.iload_n 1, 1) := by decide +kernel
theorem dX9_findByOf_28 : decode cX9_findByOf 28 = .ok (.invokevirtual 196, 3) := by decide +kernel
theorem dX9_findByOf_31 : decode cX9_findByOf 31 = .ok (.ifCond .eq 51, 3) := by decide +kernel
theorem dX9_findByOf_34 : decode cX9_findByOf 34 = .ok (.aload_n 0, 1) := by decide +kernel
theorem dX9_findByOf_35 : decode cX9_findByOf 35 = .ok (.getfield 86, 3) := by decide +kernel
theorem dX9_findByOf_38 : decode cX9_findByOf 38 = .ok (.iload_n 2, 1) := by decide +kernel
theorem dX9_findByOf_39 : decode cX9_findByOf 39 = .ok (.faload, 1) := by decide +kernel
theorem dX9_findByOf_40 : decode cX9_findByOf 40 = .ok (.aload_n 0, 1) := by decide +kernel
theorem dX9_findByOf_41 : decode cX9_findByOf 41 = .ok (.iload_n 2, 1) := by decide +kernel
theorem dX9_findByOf_42 : decode cX9_findByOf 42 = .ok (.iload_n 1, 1) := by decide +kernel
theorem dX9_findByOf_43 : decode cX9_findByOf 43 = .ok (.invokevirtual 199, 3) := by decide +kernel
theorem dX9_findByOf_46 : decode cX9_findByOf 46 = .ok (.fadd, 1) := by decide +kernel
theorem dX9_findByOf_47 : decode cX9_findByOf 47 = .ok (.fstore_n 3, 1) := by decide +kernel
theorem dX9_findByOf_48 : decode cX9_findByOf 48 = .ok (.aload_n 0, 1) := by decide +kernel
theorem dX9_findByOf_49 : decode cX9_findByOf 49 = .ok (.getfield 89, 3) := by decide +kernel
theorem dX9_findByOf_52 : decode cX9_findByOf 52 = .ok (.iload_n 1, 1) := by decide +kernel
theorem dX9_findByOf_53 : decode cX9_findByOf 53 = .ok (.iaload, 1) := by decide +kernel
theorem dX9_findByOf_54 : decode cX9_findByOf 54 = .ok (.ifCond .eq 14, 3) := by decide +kernel
theorem dX9_findByOf_57 : decode cX9_findByOf 57 = .ok (.fload_n 3, 1) := by decide +kernel
theorem dX9_findByOf_58 : decode cX9_findByOf 58 = .ok (.aload_n 0, 1) := by decide +kernel
theorem dX9_findByOf_59 : decode cX9_findByOf 59 = .ok (.getfield 83, 3) := by decide +kernel
theorem dX9_findByOf_62 : decode cX9_findByOf 62 = .ok (.iload_n 1, 1) := by decide +kernel
theorem dX9_findByOf_63 : decode cX9_findByOf 63 = .ok (.faload, 1) := by decide +kernel
theorem dX9_findByOf_64 : decode cX9_findByOf 64 = .ok (.fcmp .g, 1) := by decide +kernel
theorem dX9_findByOf_65 : decode cX9_findByOf 65 = .ok (.ifCond .ge 10, 3) := by decide +kernel
theorem dX9_findByOf_68 : decode cX9_findByOf 68 = .ok (.aload_n 0, 1) := by decide +kernel
theorem dX9_findByOf_69 : decode cX9_findByOf 69 = .ok (.getfield 83, 3) := by decide +kernel
theorem dX9_findByOf_72 : decode cX9_findByOf 72 = .ok (.iload_n 1, 1) := by decide +kernel
theorem dX9_findByOf_73 : decode cX9_findByOf 73 = .ok (.fload_n 3, 1) := by decide +kernel
theorem dX9_findByOf_74 : decode cX9_findByOf 74 = .ok (.fastore, 1) := by decide +kernel
theorem dX9_findByOf_75 : decode cX9_findByOf 75 = .ok (.aload_n 0, 1) := by decide +kernel
theorem dX9_findByOf_76 : decode cX9_findByOf 76 = .ok (.getfield 89, 3) := by decide +kernel
theorem dX9_findByOf_79 : decode cX9_findByOf 79 = .ok (.iload_n 1, 1) := by decide +kernel
theorem dX9_findByOf_80 : decode cX9_findByOf 80 = .ok (.iconst 1, 1) := by decide +kernel
theorem dX9_findByOf_81 : decode cX9_findByOf 81 = .ok (.iastore, 1) := by decide +kernel
theorem dX9_findByOf_82 : decode cX9_findByOf 82 = .ok (.iload_n 2, 1) := by decide +kernel
theorem dX9_findByOf_83 : decode cX9_findByOf 83 = .ok (.ifCond .le 19, 3) := by decide +kernel
theorem dX9_findByOf_86 : decode cX9_findByOf 86 = .ok (.aload_n 0, 1) := by decide +kernel
theorem dX9_findByOf_87 : decode cX9_findByOf 87 = .ok (.getfield 43, 3) := by decide +kernel
theorem dX9_findByOf_90 : decode cX9_findByOf 90 = .ok (.iload_n 2, 1) := by decide +kernel
theorem dX9_findByOf_91 : decode cX9_findByOf 91 = .ok (.iconst 1, 1) := by decide +kernel
theorem dX9_findByOf_92 : decode cX9_findByOf 92 = .ok (.isub, 1) := by decide +kernel
theorem dX9_findByOf_93 : decode cX9_findByOf 93 = .ok (.iaload, 1) := by decide +kernel
theorem dX9_findByOf_94 : decode cX9_findByOf 94 = .ok (.iconst 2, 1) := by decide +kernel
theorem dX9_findByOf_95 : decode cX9_findByOf 95 = .ok (.if_icmp .ne 7, 3) := by decide +kernel
theorem dX9_findByOf_98 : decode cX9_findByOf 98 = .ok (.iconst (-1), 1) := by decide +kernel
theorem dX9_findByOf_99 : decode cX9_findByOf 99 = .ok (.goto 6, 3) := by decide +kernel
theorem dX9_findByOf_102 : decode cX9_findByOf 102 = .ok (.iload_n 2, 1) := by decide +kernel
theorem dX9_findByOf_103 : decode cX9_findByOf 103 = .ok (.iconst 1, 1) := by decide +kernel
theorem dX9_findByOf_104 : decode cX9_findByOf 104 = .ok (.isub, 1) := by decide +kernel
theorem dX9_findByOf_105 : decode cX9_findByOf 105 = .ok (.istore_n 2, 1) := by decide +kernel
theorem dX9_findByOf_106 : decode cX9_findByOf 106 = .ok (.goto (-95), 3) := by decide +kernel
theorem dX9_findByOf_109 : decode cX9_findByOf 109 = .ok (.return_, 1) := by decide +kernel
theorem dX9_byLines_0 : decode cX9_byLines 0 = .ok (.aload_n 0, 1) := by decide +kernel
theorem dX9_byLines_1 : decode cX9_byLines 1 = .ok (.invokevirtual 202, 3) := by decide +kernel
theorem dX9_byLines_4 : decode cX9_byLines 4 = .ok (.iconst 0, 1) := by decide +kernel
theorem dX9_byLines_5 : decode cX9_byLines 5 = .ok (.istore_n 2, 1) := by decide +kernel
theorem dX9_byLines_6 : decode cX9_byLines 6 = .ok (.iload_n 2, 1) := by decide +kernel
theorem dX9_byLines_7 : decode cX9_byLines 7 = .ok (.aload_n 0, 1) := by decide +kernel
theorem dX9_byLines_8 : decode cX9_byLines 8 = .ok (.getfield 145, 3) := by decide +kernel
theorem dX9_byLines_11 : decode cX9_byLines 11 = .ok (.if_icmp .gt 16, 3) := by decide +kernel
theorem dX9_byLines_14 : decode cX9_byLines 14 = .ok (.aload_n 0, 1) := by decide +kernel
theorem dX9_byLines_15 : decode cX9_byLines 15 = .ok (.getfield 92, 3) := by decide +kernel
theorem dX9_byLines_18 : decode cX9_byLines 18 = .ok (.iload_n 2, 1) := by decide +kernel
theorem dX9_byLines_19 : decode cX9_byLines 19 = .ok (.iconst 0, 1) := by decide +kernel
theorem dX9_byLines_20 : decode cX9_byLines 20 = .ok (.iastore, 1) := by decide +kernel
theorem dX9_byLines_21 : decode cX9_byLines 21 = .ok (.iinc 2 1, 3) := by decide +kernel
theorem dX9_byLines_24 : decode cX9_byLines 24 = .ok (.goto (-18), 3) := by decide +kernel
theorem dX9_byLines_27 : decode cX9_byLines 27 = .ok (.aload_n 0, 1) := by decide +kernel
theorem dX9_byLines_28 : decode cX9_byLines 28 = .ok (.getfield 92, 3) := by decide +kernel
theorem dX9_byLines_31 : decode cX9_byLines 31 = .ok (.iconst 0, 1) := by decide +kernel
theorem dX9_byLines_32 : decode cX9_byLines 32 = .ok (.iconst 1, 1) := by decide +kernel
theorem dX9_byLines_33 : decode cX9_byLines 33 = .ok (.iastore, 1) := by decide +kernel
theorem dX9_byLines_34 : decode cX9_byLines 34 = .ok (.aload_n 0, 1) := by decide +kernel
theorem dX9_byLines_35 : decode cX9_byLines 35 = .ok (.getfield 86, 3) := by decide +kernel
theorem dX9_byLines_38 : decode cX9_byLines 38 = .ok (.iconst 0, 1) := by decide +kernel
theorem dX9_byLines_39 : decode cX9_byLines 39 = .ok (.fconst 0, 1) := by decide +kernel
theorem dX9_byLines_40 : decode cX9_byLines 40 = .ok (.fastore, 1) := by decide +kernel
theorem dX9_byLines_41 : decode cX9_byLines 41 = .ok (.iconst 0, 1) := by decide +kernel
theorem dX9_byLines_42 : decode cX9_byLines 42 = .ok (.istore_n 2, 1) := by decide +kernel
theorem dX9_byLines_43 : decode cX9_byLines 43 = .ok (.iload_n 2, 1) := by decide +kernel
theorem dX9_byLines_44 : decode cX9_byLines 44 = .ok (.iload_n 1, 1) := by decide +kernel
theorem dX9_byLines_45 : decode cX9_byLines 45 = .ok (.if_icmp .ge 77, 3) := by decide +kernel
theorem dX9_byLines_48 : decode cX9_byLines 48 = .ok (.aload_n 0, 1) := by decide +kernel
theorem dX9_byLines_49 : decode cX9_byLines 49 = .ok (.getfield 89, 3) := by decide +kernel
theorem dX9_byLines_52 : decode cX9_byLines 52 = .ok (.iconst 0, 1) := by decide +kernel
theorem dX9_byLines_53 : decode cX9_byLines 53 = .ok (.iconst 0, 1) := by decide +kernel
theorem dX9_byLines_54 : decode cX9_byLines 54 = .ok (.iastore, 1) := by decide +kernel
theorem dX9_byLines_55 : decode cX9_byLines 55 = .ok (.iconst 1, 1) := by decide +kernel
theorem dX9_byLines_56 : decode cX9_byLines 56 = .ok (.istore_n 3, 1) := by decide +kernel
theorem dX9_byLines_57 : decode cX9_byLines 57 = .ok (.iload_n 3, 1) := by decide +kernel
theorem dX9_byLines_58 : decode cX9_byLines 58 = .ok (.aload_n 0, 1) := by decide +kernel
theorem dX9_byLines_59 : decode cX9_byLines 59 = .ok (.getfield 145, 3) := by decide +kernel
theorem dX9_byLines_62 : decode cX9_byLines 62 = .ok (.if_icmp .gt 14, 3) := by decide +kernel
theorem dX9_byLines_65 : decode cX9_byLines 65 = .ok (.aload_n 0, 1) := by decide +kernel
theorem dX9_byLines_66 : decode cX9_byLines 66 = .ok (.iload_n 3, 1) := by decide +kernel
theorem dX9_byLines_67 : decode cX9_byLines 67 = .ok (.invokevirtual 360, 3) := by decide +kernel
theorem dX9_byLines_70 : decode cX9_byLines 70 = .ok (.iinc 3 1, 3) := by decide +kernel
theorem dX9_byLines_73 : decode cX9_byLines 73 = .ok (.goto (-16), 3) := by decide +kernel
theorem dX9_byLines_76 : decode cX9_byLines 76 = .ok (.iconst 0, 1) := by decide +kernel
theorem dX9_byLines_77 : decode cX9_byLines 77 = .ok (.istore_n 3, 1) := by decide +kernel
theorem dX9_byLines_78 : decode cX9_byLines 78 = .ok (.iload_n 3, 1) := by decide +kernel
theorem dX9_byLines_79 : decode cX9_byLines 79 = .ok (.aload_n 0, 1) := by decide +kernel
theorem dX9_byLines_80 : decode cX9_byLines 80 = .ok (.getfield 145, 3) := by decide +kernel
theorem dX9_byLines_83 : decode cX9_byLines 83 = .ok (.if_icmp .gt 33, 3) := by decide +kernel
theorem dX9_byLines_86 : decode cX9_byLines 86 = .ok (.aload_n 0, 1) := by decide +kernel
theorem dX9_byLines_87 : decode cX9_byLines 87 = .ok (.getfield 92, 3) := by decide +kernel
theorem dX9_byLines_90 : decode cX9_byLines 90 = .ok (.iload_n 3, 1) := by decide +kernel
theorem dX9_byLines_91 : decode cX9_byLines 91 = .ok (.aload_n 0, 1) := by decide +kernel
theorem dX9_byLines_92 : decode cX9_byLines 92 = .ok (.getfield 89, 3) := by decide +kernel
theorem dX9_byLines_95 : decode cX9_byLines 95 = .ok (.iload_n 3, 1) := by decide +kernel
theorem dX9_byLines_96 : decode cX9_byLines 96 = .ok (.iaload, 1) := by decide +kernel
theorem dX9_byLines_97 : decode cX9_byLines 97 = .ok (.iastore, 1) := by decide +kernel
theorem dX9_byLines_98 : decode cX9_byLines 98 = .ok (.aload_n 0, 1) := by decide +kernel
theorem dX9_byLines_99 : decode cX9_byLines 99 = .ok (.getfield 86, 3) := by decide +kernel
theorem dX9_byLines_102 : decode cX9_byLines 102 = .ok (.iload_n 3, 1) := by decide +kernel
theorem dX9_byLines_103 : decode cX9_byLines 103 = .ok (.aload_n 0, 1) := by decide +kernel
theorem dX9_byLines_104 : decode cX9_byLines 104 = .ok (.getfield 83, 3) := by decide +kernel
theorem dX9_byLines_107 : decode cX9_byLines 107 = .ok (.iload_n 3, 1) := by decide +kernel
theorem dX9_byLines_108 : decode cX9_byLines 108 = .ok (.faload, 1) := by decide +kernel
theorem dX9_byLines_109 : decode cX9_byLines 109 = .ok (.fastore, 1) := by decide +kernel
theorem dX9_byLines_110 : decode cX9_byLines 110 = .ok (.iinc 3 1, 3) := by decide +kernel
theorem dX9_byLines_113 : decode cX9_byLines 113 = .ok (.goto (-35), 3) := by decide +kernel
theorem dX9_byLines_116 : decode cX9_byLines 116 = .ok (.iinc 2 1, 3) := by decide +kernel
theorem dX9_byLines_119 : decode cX9_byLines 119 = .ok (.goto (-76), 3) := by decide +kernel
theorem dX9_byLines_122 : decode cX9_byLines 122 = .ok (.aload_n 0, 1) := by decide +kernel
theorem dX9_byLines_123 : decode cX9_byLines 123 = .ok (.getfield 92, 3) := by decide +kernel
theorem dX9_byLines_126 : decode cX9_byLines 126 = .ok (.aload_n 0, 1) := by decide +kernel
theorem dX9_byLines_127 : decode cX9_byLines 127 = .ok (.getfield 145, 3) := by decide +kernel
theorem dX9_byLines_130 : decode cX9_byLines 130 = .ok (.iaload, 1) := by decide +kernel
theorem dX9_byLines_131 : decode cX9_byLines 131 = .ok (.iconst 1, 1) := by decide +kernel
theorem dX9_byLines_132 : decode cX9_byLines 132 = .ok (.if_icmp .ne 18, 3) := by decide +kernel
theorem dX9_byLines_135 : decode cX9_byLines 135 = .ok (.aload_n 0, 1) := by decide +kernel
theorem dX9_byLines_136 : decode cX9_byLines 136 = .ok (.getfield 86, 3) := by decide +kernel
theorem dX9_byLines_139 : decode cX9_byLines 139 = .ok (.aload_n 0, 1) := by decide +kernel
theorem dX9_byLines_140 : decode cX9_byLines 140 = .ok (.getfield 145, 3) := by decide +kernel
theorem dX9_byLines_143 : decode cX9_byLines 143 = .ok (.faload, 1) := by decide +kernel
theorem dX9_byLines_144 : decode cX9_byLines 144 = .ok (.invokestatic 354, 3) := by decide +kernel
theorem dX9_byLines_147 : decode cX9_byLines 147 = .ok (.goto 4, 3) := by decide +kernel
theorem dX9_byLines_150 : decode cX9_byLines 150 = .ok (.iconst 0, 1) := by decide +kernel
theorem dX9_byLines_151 : decode cX9_byLines 151 = .ok (.ireturn, 1) := by decide +kernel
theorem dX9_total_0 : decode cX9_total 0 = .ok (.iload_n 1, 1) := by decide +kernel
theorem dX9_total_1 : decode cX9_total 1 = .ok (.iconst 1, 1) := by decide +kernel
theorem dX9_total_2 : decode cX9_total 2 = .ok (.bipush 20, 2) := by decide +kernel
theorem dX9_total_4 : decode cX9_total 4 = .ok (.invokestatic 125, 3) := by decide +kernel
theorem dX9_total_7 : decode cX9_total 7 = .ok (.ifCond .eq 9, 3) := by decide +kernel
theorem dX9_total_10 : decode cX9_total 10 = .ok (.aload_n 0, 1) := by decide +kernel
theorem dX9_total_11 : decode cX9_total 11 = .ok (.iload_n 1, 1) := by decide +kernel
theorem dX9_total_12 : decode cX9_total 12 = .ok (.invokevirtual 363, 3) := by decide +kernel
theorem dX9_total_15 : decode cX9_total 15 = .ok (.ireturn, 1) := by decide +kernel
theorem dX9_total_16 : decode cX9_total 16 = .ok (.iload_n 1, 1) := by decide +kernel
theorem dX9_total_17 : decode cX9_total 17 = .ok (.ifCond .ne 20, 3) := by decide +kernel
theorem dX9_total_20 : decode cX9_total 20 = .ok (.aload_n 0, 1) := by decide +kernel
theorem dX9_total_21 : decode cX9_total 21 = .ok (.invokevirtual 214, 3) := by decide +kernel
theorem dX9_total_24 : decode cX9_total 24 = .ok (.ifCond .lt 13, 3) := by decide +kernel
theorem dX9_total_27 : decode cX9_total 27 = .ok (.aload_n 0, 1) := by decide +kernel
theorem dX9_total_28 : decode cX9_total 28 = .ok (.invokevirtual 366, 3) := by decide +kernel
theorem dX9_total_31 : decode cX9_total 31 = .ok (.invokestatic 354, 3) := by decide +kernel
theorem dX9_total_34 : decode cX9_total 34 = .ok (.goto 4, 3) := by decide +kernel
theorem dX9_total_37 : decode cX9_total 37 = .ok (.iconst 0, 1) := by decide +kernel
theorem dX9_total_38 : decode cX9_total 38 = .ok (.ireturn, 1) := by decide +kernel
theorem dX9_farthestFrom_0 : decode cX9_farthestFrom 0 = .ok (.bipush (-9), 2) := by decide +kernel
theorem dX9_farthestFrom_2 : decode cX9_farthestFrom 2 = .ok (.istore_n 2, 1) := by decide +kernel
theorem dX9_farthestFrom_3 : decode cX9_farthestFrom 3 = .ok (.iconst 1, 1) := by decide +kernel
theorem dX9_farthestFrom_4 : decode cX9_farthestFrom 4 = .ok (.istore_n 3, 1) := by decide +kernel
theorem dX9_farthestFrom_5 : decode cX9_farthestFrom 5 = .ok (.iload_n 1, 1) := by decide +kernel
theorem dX9_farthestFrom_6 : decode cX9_farthestFrom 6 = .ok (.iconst 1, 1) := by decide +kernel
theorem dX9_farthestFrom_7 : decode cX9_farthestFrom 7 = .ok (.iadd, 1) := by decide +kernel
theorem dX9_farthestFrom_8 : decode cX9_farthestFrom 8 = .ok (.istore 4, 2) := by decide +kernel
theorem dX9_farthestFrom_10 : decode cX9_farthestFrom 10 = .ok (.iload 4, 2) := by decide +kernel
theorem dX9_farthestFrom_12 : decode cX9_farthestFrom 12 = .ok (.aload_n 0, 1) := by decide +kernel
theorem dX9_farthestFrom_13 : decode cX9_farthestFrom 13 = .ok (.getfield 145, 3) := by decide +kernel
theorem dX9_farthestFrom_16 : decode cX9_farthestFrom 16 = .ok (.if_icmp .gt 49, 3) := by decide +kernel
theorem dX9_farthestFrom_19 : decode cX9_farthestFrom 19 = .ok (.iload_n 3, 1) := by decide +kernel
theorem dX9_farthestFrom_20 : decode cX9_farthestFrom 20 = .ok (.ifCond .eq 45, 3) := by decide +kernel
theorem dX9_farthestFrom_23 : decode cX9_farthestFrom 23 = .ok (.aload_n 0, 1) := by decide +kernel
theorem dX9_farthestFrom_24 : decode cX9_farthestFrom 24 = .ok (.iload_n 1, 1) := by decide +kernel
theorem dX9_farthestFrom_25 : decode cX9_farthestFrom 25 = .ok (.iload 4, 2) := by decide +kernel
theorem dX9_farthestFrom_27 : decode cX9_farthestFrom 27 = .ok (.invokevirtual 196, 3) := by decide +kernel
theorem dX9_farthestFrom_30 : decode cX9_farthestFrom 30 = .ok (.ifCond .eq 8, 3) := by decide +kernel
theorem dX9_farthestFrom_33 : decode cX9_farthestFrom 33 = .ok (.iload 4, 2) := by decide +kernel
theorem dX9_farthestFrom_35 : decode cX9_farthestFrom 35 = .ok (.goto 4, 3) := by decide +kernel
theorem dX9_farthestFrom_38 : decode cX9_farthestFrom 38 = .ok (.iload_n 2, 1) := by decide +kernel
theorem dX9_farthestFrom_39 : decode cX9_farthestFrom 39 = .ok (.istore_n 2, 1) := by decide +kernel
theorem dX9_farthestFrom_40 : decode cX9_farthestFrom 40 = .ok (.aload_n 0, 1) := by decide +kernel
theorem dX9_farthestFrom_41 : decode cX9_farthestFrom 41 = .ok (.getfield 43, 3) := by decide +kernel
theorem dX9_farthestFrom_44 : decode cX9_farthestFrom 44 = .ok (.iload 4, 2) := by decide +kernel
theorem dX9_farthestFrom_46 : decode cX9_farthestFrom 46 = .ok (.iconst 1, 1) := by decide +kernel
theorem dX9_farthestFrom_47 : decode cX9_farthestFrom 47 = .ok (.isub, 1) := by decide +kernel
theorem dX9_farthestFrom_48 : decode cX9_farthestFrom 48 = .ok (.iaload, 1) := by decide +kernel
theorem dX9_farthestFrom_49 : decode cX9_farthestFrom 49 = .ok (.iconst 2, 1) := by decide +kernel
theorem dX9_farthestFrom_50 : decode cX9_farthestFrom 50 = .ok (.if_icmp .eq 7, 3) := by decide +kernel
theorem dX9_farthestFrom_53 : decode cX9_farthestFrom 53 = .ok (.iconst 1, 1) := by decide +kernel
theorem dX9_farthestFrom_54 : decode cX9_farthestFrom 54 = .ok (.goto 4, 3) := by decide +kernel
theorem dX9_farthestFrom_57 : decode cX9_farthestFrom 57 = .ok (.iconst 0, 1) := by decide +kernel
theorem dX9_farthestFrom_58 : decode cX9_farthestFrom 58 = .ok (.istore_n 3, 1) := by decide +kernel
theorem dX9_farthestFrom_59 : decode cX9_farthestFrom 59 = .ok (.iinc 4 1, 3) := by decide +kernel
theorem dX9_farthestFrom_62 : decode cX9_farthestFrom 62 = .ok (.goto (-52), 3) := by decide +kernel
theorem dX9_farthestFrom_65 : decode cX9_farthestFrom 65 = .ok (.iload_n 2, 1) := by decide +kernel
theorem dX9_farthestFrom_66 : decode cX9_farthestFrom 66 = .ok (.ireturn, 1) := by decide +kernel
theorem dX9_firstFit_0 : decode cX9_firstFit 0 = .ok (.aload_n 0, 1) := by decide +kernel
theorem dX9_firstFit_1 : decode cX9_firstFit 1 = .ok (.invokevirtual 202, 3) := by decide +kernel
theorem dX9_firstFit_4 : decode cX9_firstFit 4 = .ok (.iconst 0, 1) := by decide +kernel
theorem dX9_firstFit_5 : decode cX9_firstFit 5 = .ok (.istore_n 1, 1) := by decide +kernel
theorem dX9_firstFit_6 : decode cX9_firstFit 6 = .ok (.iconst 0, 1) := by decide +kernel
theorem dX9_firstFit_7 : decode cX9_firstFit 7 = .ok (.istore_n 2, 1) := by decide +kernel
theorem dX9_firstFit_8 : decode cX9_firstFit 8 = .ok (.iload_n 2, 1) := by decide +kernel
theorem dX9_firstFit_9 : decode cX9_firstFit 9 = .ok (.ifCond .lt 23, 3) := by decide +kernel
theorem dX9_firstFit_12 : decode cX9_firstFit 12 = .ok (.iload_n 2, 1) := by decide +kernel
theorem dX9_firstFit_13 : decode cX9_firstFit 13 = .ok (.aload_n 0, 1) := by decide +kernel
theorem dX9_firstFit_14 : decode cX9_firstFit 14 = .ok (.getfield 145, 3) := by decide +kernel
theorem dX9_firstFit_17 : decode cX9_firstFit 17 = .ok (.if_icmp .ge 15, 3) := by decide +kernel
theorem dX9_firstFit_20 : decode cX9_firstFit 20 = .ok (.aload_n 0, 1) := by decide +kernel
theorem dX9_firstFit_21 : decode cX9_firstFit 21 = .ok (.iload_n 2, 1) := by decide +kernel
theorem dX9_firstFit_22 : decode cX9_firstFit 22 = .ok (.invokevirtual 370, 3) := by decide +kernel
theorem dX9_firstFit_25 : decode cX9_firstFit 25 = .ok (.istore_n 2, 1) := by decide +kernel
theorem dX9_firstFit_26 : decode cX9_firstFit 26 = .ok (.iinc 1 1, 3) := by decide +kernel
theorem dX9_firstFit_29 : decode cX9_firstFit 29 = .ok (.goto (-21), 3) := by decide +kernel
theorem dX9_firstFit_32 : decode cX9_firstFit 32 = .ok (.iload_n 2, 1) := by decide +kernel
theorem dX9_firstFit_33 : decode cX9_firstFit 33 = .ok (.ifCond .ge 8, 3) := by decide +kernel
theorem dX9_firstFit_36 : decode cX9_firstFit 36 = .ok (.bipush (-9), 2) := by decide +kernel
theorem dX9_firstFit_38 : decode cX9_firstFit 38 = .ok (.goto 4, 3) := by decide +kernel
theorem dX9_firstFit_41 : decode cX9_firstFit 41 = .ok (.iload_n 1, 1) := by decide +kernel
theorem dX9_firstFit_42 : decode cX9_firstFit 42 = .ok (.ireturn, 1) := by decide +kernel
theorem dX9_linesWith_0 : decode cX9_linesWith 0 = .ok (.aload_n 0, 1) := by decide +kernel
theorem dX9_linesWith_1 : decode cX9_linesWith 1 = .ok (.getfield 98, 3) := by decide +kernel
theorem dX9_linesWith_4 : decode cX9_linesWith 4 = .ok (.istore_n 2, 1) := by decide +kernel
theorem dX9_linesWith_5 : decode cX9_linesWith 5 = .ok (.aload_n 0, 1) := by decide +kernel
theorem dX9_linesWith_6 : decode cX9_linesWith 6 = .ok (.iload_n 1, 1) := by decide +kernel
theorem dX9_linesWith_7 : decode cX9_linesWith 7 = .ok (.putfield 98, 3) := by decide +kernel
theorem dX9_linesWith_10 : decode cX9_linesWith 10 = .ok (.aload_n 0, 1) := by decide +kernel
theorem dX9_linesWith_11 : decode cX9_linesWith 11 = .ok (.invokevirtual 214, 3) := by decide +kernel
theorem dX9_linesWith_14 : decode cX9_linesWith 14 = .ok (.istore_n 3, 1) := by decide +kernel
theorem dX9_linesWith_15 : decode cX9_linesWith 15 = .ok (.aload_n 0, 1) := by decide +kernel
theorem dX9_linesWith_16 : decode cX9_linesWith 16 = .ok (.iload_n 2, 1) := by decide +kernel
theorem dX9_linesWith_17 : decode cX9_linesWith 17 = .ok (.putfield 98, 3) := by decide +kernel
theorem dX9_linesWith_20 : decode cX9_linesWith 20 = .ok (.iload_n 3, 1) := by decide +kernel
theorem dX9_linesWith_21 : decode cX9_linesWith 21 = .ok (.ireturn, 1) := by decide +kernel
theorem dX9_with_0 : decode cX9_with 0 = .ok (.iload_n 1, 1) := by decide +kernel
theorem dX9_with_1 : decode cX9_with 1 = .ok (.bipush 10, 2) := by decide +kernel
theorem dX9_with_3 : decode cX9_with 3 = .ok (.bipush 60, 2) := by decide +kernel
theorem dX9_with_5 : decode cX9_with 5 = .ok (.invokestatic 217, 3) := by decide +kernel
theorem dX9_with_8 : decode cX9_with 8 = .ok (.istore_n 2, 1) := by decide +kernel
theorem dX9_with_9 : decode cX9_with 9 = .ok (.iload_n 2, 1) := by decide +kernel
theorem dX9_with_10 : decode cX9_with 10 = .ok (.ifCond .eq 11, 3) := by decide +kernel
theorem dX9_with_13 : decode cX9_with 13 = .ok (.aload_n 0, 1) := by decide +kernel
theorem dX9_with_14 : decode cX9_with 14 = .ok (.iload_n 2, 1) := by decide +kernel
theorem dX9_with_15 : decode cX9_with 15 = .ok (.invokevirtual 224, 3) := by decide +kernel
theorem dX9_with_18 : decode cX9_with 18 = .ok (.goto 8, 3) := by decide +kernel
theorem dX9_with_21 : decode cX9_with 21 = .ok (.aload_n 0, 1) := by decide +kernel
theorem dX9_with_22 : decode cX9_with 22 = .ok (.iload_n 1, 1) := by decide +kernel
theorem dX9_with_23 : decode cX9_with 23 = .ok (.invokevirtual 373, 3) := by decide +kernel
theorem dX9_with_26 : decode cX9_with 26 = .ok (.ireturn, 1) := by decide +kernel
theorem dX9_narrowest_0 : decode cX9_narrowest 0 = .ok (.iload_n 1, 1) := by decide +kernel
theorem dX9_narrowest_1 : decode cX9_narrowest 1 = .ok (.iconst 1, 1) := by decide +kernel
theorem dX9_narrowest_2 : decode cX9_narrowest 2 = .ok (.bipush 20, 2) := by decide +kernel
theorem dX9_narrowest_4 : decode cX9_narrowest 4 = .ok (.invokestatic 217, 3) := by decide +kernel
theorem dX9_narrowest_7 : decode cX9_narrowest 7 = .ok (.istore_n 2, 1) := by decide +kernel
theorem dX9_narrowest_8 : decode cX9_narrowest 8 = .ok (.iload_n 2, 1) := by decide +kernel
theorem dX9_narrowest_9 : decode cX9_narrowest 9 = .ok (.ifCond .eq 9, 3) := by decide +kernel
theorem dX9_narrowest_12 : decode cX9_narrowest 12 = .ok (.aload_n 0, 1) := by decide +kernel
theorem dX9_narrowest_13 : decode cX9_narrowest 13 = .ok (.iload_n 2, 1) := by decide +kernel
theorem dX9_narrowest_14 : decode cX9_narrowest 14 = .ok (.invokevirtual 224, 3) := by decide +kernel
theorem dX9_narrowest_17 : decode cX9_narrowest 17 = .ok (.ireturn, 1) := by decide +kernel
theorem dX9_narrowest_18 : decode cX9_narrowest 18 = .ok (.bipush 10, 2) := by decide +kernel
theorem dX9_narrowest_20 : decode cX9_narrowest 20 = .ok (.istore_n 3, 1) := by decide +kernel
theorem dX9_narrowest_21 : decode cX9_narrowest 21 = .ok (.iload_n 3, 1) := by decide +kernel
theorem dX9_narrowest_22 : decode cX9_narrowest 22 = .ok (.bipush 60, 2) := by decide +kernel
theorem dX9_narrowest_24 : decode cX9_narrowest 24 = .ok (.if_icmp .gt 24, 3) := by decide +kernel
theorem dX9_narrowest_27 : decode cX9_narrowest 27 = .ok (.aload_n 0, 1) := by decide +kernel
theorem dX9_narrowest_28 : decode cX9_narrowest 28 = .ok (.iload_n 3, 1) := by decide +kernel
theorem dX9_narrowest_29 : decode cX9_narrowest 29 = .ok (.invokevirtual 373, 3) := by decide +kernel
theorem dX9_narrowest_32 : decode cX9_narrowest 32 = .ok (.iconst 0, 1) := by decide +kernel
theorem dX9_narrowest_33 : decode cX9_narrowest 33 = .ok (.iload_n 1, 1) := by decide +kernel
theorem dX9_narrowest_34 : decode cX9_narrowest 34 = .ok (.invokestatic 125, 3) := by decide +kernel
theorem dX9_narrowest_37 : decode cX9_narrowest 37 = .ok (.ifCond .eq 5, 3) := by decide +kernel
theorem dX9_narrowest_40 : decode cX9_narrowest 40 = .ok (.iload_n 3, 1) := by decide +kernel
theorem dX9_narrowest_41 : decode cX9_narrowest 41 = .ok (.ireturn, 1) := by decide +kernel
theorem dX9_narrowest_42 : decode cX9_narrowest 42 = .ok (.iinc 3 1, 3) := by decide +kernel
theorem dX9_narrowest_45 : decode cX9_narrowest 45 = .ok (.goto (-24), 3) := by decide +kernel
theorem dX9_narrowest_48 : decode cX9_narrowest 48 = .ok (.bipush (-9), 2) := by decide +kernel
theorem dX9_narrowest_50 : decode cX9_narrowest 50 = .ok (.ireturn, 1) := by decide +kernel
theorem dX9_linesWithout_0 : decode cX9_linesWithout 0 = .ok (.aload_n 0, 1) := by decide +kernel
theorem dX9_linesWithout_1 : decode cX9_linesWithout 1 = .ok (.invokevirtual 376, 3) := by decide +kernel
theorem dX9_linesWithout_4 : decode cX9_linesWithout 4 = .ok (.aload_n 0, 1) := by decide +kernel
theorem dX9_linesWithout_5 : decode cX9_linesWithout 5 = .ok (.iload_n 1, 1) := by decide +kernel
theorem dX9_linesWithout_6 : decode cX9_linesWithout 6 = .ok (.invokevirtual 323, 3) := by decide +kernel
theorem dX9_linesWithout_9 : decode cX9_linesWithout 9 = .ok (.aload_n 0, 1) := by decide +kernel
theorem dX9_linesWithout_10 : decode cX9_linesWithout 10 = .ok (.invokevirtual 214, 3) := by decide +kernel
theorem dX9_linesWithout_13 : decode cX9_linesWithout 13 = .ok (.istore_n 2, 1) := by decide +kernel
theorem dX9_linesWithout_14 : decode cX9_linesWithout 14 = .ok (.aload_n 0, 1) := by decide +kernel
theorem dX9_linesWithout_15 : decode cX9_linesWithout 15 = .ok (.invokevirtual 379, 3) := by decide +kernel
theorem dX9_linesWithout_18 : decode cX9_linesWithout 18 = .ok (.iload_n 2, 1) := by decide +kernel
theorem dX9_linesWithout_19 : decode cX9_linesWithout 19 = .ok (.ireturn, 1) := by decide +kernel
theorem dX9_without_0 : decode cX9_without 0 = .ok (.aload_n 0, 1) := by decide +kernel
theorem dX9_without_1 : decode cX9_without 1 = .ok (.iload_n 1, 1) := by decide +kernel
theorem dX9_without_2 : decode cX9_without 2 = .ok (.invokevirtual 320, 3) := by decide +kernel
theorem dX9_without_5 : decode cX9_without 5 = .ok (.ifCond .ne 7, 3) := by decide +kernel
theorem dX9_without_8 : decode cX9_without 8 = .ok (.iconst (-1), 1) := by decide +kernel
theorem dX9_without_9 : decode cX9_without 9 = .ok (.goto 18, 3) := by decide +kernel
theorem dX9_without_12 : decode cX9_without 12 = .ok (.iload_n 2, 1) := by decide +kernel
theorem dX9_without_13 : decode cX9_without 13 = .ok (.iconst 0, 1) := by decide +kernel
theorem dX9_without_14 : decode cX9_without 14 = .ok (.iconst 1, 1) := by decide +kernel
theorem dX9_without_15 : decode cX9_without 15 = .ok (.invokestatic 125, 3) := by decide +kernel
theorem dX9_without_18 : decode cX9_without 18 = .ok (.ifCond .ne 8, 3) := by decide +kernel
theorem dX9_without_21 : decode cX9_without 21 = .ok (.bipush (-2), 2) := by decide +kernel
theorem dX9_without_23 : decode cX9_without 23 = .ok (.goto 4, 3) := by decide +kernel
theorem dX9_without_26 : decode cX9_without 26 = .ok (.iconst 0, 1) := by decide +kernel
theorem dX9_without_27 : decode cX9_without 27 = .ok (.istore_n 3, 1) := by decide +kernel
theorem dX9_without_28 : decode cX9_without 28 = .ok (.iload_n 3, 1) := by decide +kernel
theorem dX9_without_29 : decode cX9_without 29 = .ok (.ifCond .eq 9, 3) := by decide +kernel
theorem dX9_without_32 : decode cX9_without 32 = .ok (.aload_n 0, 1) := by decide +kernel
theorem dX9_without_33 : decode cX9_without 33 = .ok (.iload_n 3, 1) := by decide +kernel
theorem dX9_without_34 : decode cX9_without 34 = .ok (.invokevirtual 224, 3) := by decide +kernel
theorem dX9_without_37 : decode cX9_without 37 = .ok (.ireturn, 1) := by decide +kernel
theorem dX9_without_38 : decode cX9_without 38 = .ok (.aload_n 0, 1) := by decide +kernel
theorem dX9_without_39 : decode cX9_without 39 = .ok (.iload_n 1, 1) := by decide +kernel
theorem dX9_without_40 : decode cX9_without 40 = .ok (.invokevirtual 382, 3) := by decide +kernel
theorem dX9_without_43 : decode cX9_without 43 = .ok (.istore 4, 2) := by decide +kernel
theorem dX9_without_45 : decode cX9_without 45 = .ok (.iload_n 2, 1) := by decide +kernel
theorem dX9_without_46 : decode cX9_without 46 = .ok (.ifCond .ne 8, 3) := by decide +kernel
theorem dX9_without_49 : decode cX9_without 49 = .ok (.iload 4, 2) := by decide +kernel
theorem dX9_without_51 : decode cX9_without 51 = .ok (.goto 19, 3) := by decide +kernel
theorem dX9_without_54 : decode cX9_without 54 = .ok (.iload 4, 2) := by decide +kernel
theorem dX9_without_56 : decode cX9_without 56 = .ok (.ifCond .ge 7, 3) := by decide +kernel
theorem dX9_without_59 : decode cX9_without 59 = .ok (.iconst 0, 1) := by decide +kernel
theorem dX9_without_60 : decode cX9_without 60 = .ok (.goto 10, 3) := by decide +kernel
theorem dX9_without_63 : decode cX9_without 63 = .ok (.aload_n 0, 1) := by decide +kernel
theorem dX9_without_64 : decode cX9_without 64 = .ok (.invokevirtual 366, 3) := by decide +kernel
theorem dX9_without_67 : decode cX9_without 67 = .ok (.invokestatic 354, 3) := by decide +kernel
theorem dX9_without_70 : decode cX9_without 70 = .ok (.ireturn, 1) := by decide +kernel
theorem dX9_worst_0 : decode cX9_worst 0 = .ok (.aload_n 0, 1) := by decide +kernel
theorem dX9_worst_1 : decode cX9_worst 1 = .ok (.invokevirtual 214, 3) := by decide +kernel
theorem dX9_worst_4 : decode cX9_worst 4 = .ok (.ifCond .lt 7, 3) := by decide +kernel
theorem dX9_worst_7 : decode cX9_worst 7 = .ok (.iconst 1, 1) := by decide +kernel
theorem dX9_worst_8 : decode cX9_worst 8 = .ok (.goto 4, 3) := by decide +kernel
theorem dX9_worst_11 : decode cX9_worst 11 = .ok (.iconst 0, 1) := by decide +kernel
theorem dX9_worst_12 : decode cX9_worst 12 = .ok (.istore_n 1, 1) := by decide +kernel
theorem dX9_worst_13 : decode cX9_worst 13 = .ok (.aload_n 0, 1) := by decide +kernel
theorem dX9_worst_14 : decode cX9_worst 14 = .ok (.invokevirtual 366, 3) := by decide +kernel
theorem dX9_worst_17 : decode cX9_worst 17 = .ok (.fstore_n 2, 1) := by decide +kernel
theorem dX9_worst_18 : decode cX9_worst 18 = .ok (.bipush (-9), 2) := by decide +kernel
theorem dX9_worst_20 : decode cX9_worst 20 = .ok (.istore_n 3, 1) := by decide +kernel
theorem dX9_worst_21 : decode cX9_worst 21 = .ok (.iconst 0, 1) := by decide +kernel
theorem dX9_worst_22 : decode cX9_worst 22 = .ok (.istore 4, 2) := by decide +kernel
theorem dX9_worst_24 : decode cX9_worst 24 = .ok (.iload 4, 2) := by decide +kernel
theorem dX9_worst_26 : decode cX9_worst 26 = .ok (.aload_n 0, 1) := by decide +kernel
theorem dX9_worst_27 : decode cX9_worst 27 = .ok (.getfield 122, 3) := by decide +kernel
theorem dX9_worst_30 : decode cX9_worst 30 = .ok (.if_icmp .ge 44, 3) := by decide +kernel
theorem dX9_worst_33 : decode cX9_worst 33 = .ok (.aload_n 0, 1) := by decide +kernel
theorem dX9_worst_34 : decode cX9_worst 34 = .ok (.iload 4, 2) := by decide +kernel
theorem dX9_worst_36 : decode cX9_worst 36 = .ok (.invokevirtual 382, 3) := by decide +kernel
theorem dX9_worst_39 : decode cX9_worst 39 = .ok (.ifCond .lt 29, 3) := by decide +kernel
theorem dX9_worst_42 : decode cX9_worst 42 = .ok (.iload_n 1, 1) := by decide +kernel
theorem dX9_worst_43 : decode cX9_worst 43 = .ok (.ifCond .eq 15, 3) := by decide +kernel
theorem dX9_worst_46 : decode cX9_worst 46 = .ok (.aload_n 0, 1) := by decide +kernel
theorem dX9_worst_47 : decode cX9_worst 47 = .ok (.invokevirtual 366, 3) := by decide +kernel
theorem dX9_worst_50 : decode cX9_worst 50 = .ok (.fload_n 2, 1) := by decide +kernel
theorem dX9_worst_51 : decode cX9_worst 51 = .ok (.fcmp .l, 1) := by decide +kernel
theorem dX9_worst_52 : decode cX9_worst 52 = .ok (.ifCond .lt 6, 3) := by decide +kernel
theorem dX9_worst_55 : decode cX9_worst 55 = .ok (.goto 13, 3) := by decide +kernel
theorem dX9_worst_58 : decode cX9_worst 58 = .ok (.iload 4, 2) := by decide +kernel
theorem dX9_worst_60 : decode cX9_worst 60 = .ok (.istore_n 3, 1) := by decide +kernel
theorem dX9_worst_61 : decode cX9_worst 61 = .ok (.iconst 1, 1) := by decide +kernel
theorem dX9_worst_62 : decode cX9_worst 62 = .ok (.istore_n 1, 1) := by decide +kernel
theorem dX9_worst_63 : decode cX9_worst 63 = .ok (.aload_n 0, 1) := by decide +kernel
theorem dX9_worst_64 : decode cX9_worst 64 = .ok (.invokevirtual 366, 3) := by decide +kernel
theorem dX9_worst_67 : decode cX9_worst 67 = .ok (.fstore_n 2, 1) := by decide +kernel
theorem dX9_worst_68 : decode cX9_worst 68 = .ok (.iinc 4 1, 3) := by decide +kernel
theorem dX9_worst_71 : decode cX9_worst 71 = .ok (.goto (-47), 3) := by decide +kernel
theorem dX9_worst_74 : decode cX9_worst 74 = .ok (.iload_n 3, 1) := by decide +kernel
theorem dX9_worst_75 : decode cX9_worst 75 = .ok (.ireturn, 1) := by decide +kernel
theorem dX9_manners_0 : decode cX9_manners 0 = .ok (.bipush (-9), 2) := by decide +kernel
theorem dX9_manners_2 : decode cX9_manners 2 = .ok (.istore_n 1, 1) := by decide +kernel
theorem dX9_manners_3 : decode cX9_manners 3 = .ok (.bipush (-9), 2) := by decide +kernel
theorem dX9_manners_5 : decode cX9_manners 5 = .ok (.istore_n 2, 1) := by decide +kernel
theorem dX9_manners_6 : decode cX9_manners 6 = .ok (.aload_n 0, 1) := by decide +kernel
theorem dX9_manners_7 : decode cX9_manners 7 = .ok (.getfield 189, 3) := by decide +kernel
theorem dX9_manners_10 : decode cX9_manners 10 = .ok (.istore_n 3, 1) := by decide +kernel
theorem dX9_manners_11 : decode cX9_manners 11 = .ok (.iconst 0, 1) := by decide +kernel
theorem dX9_manners_12 : decode cX9_manners 12 = .ok (.istore 4, 2) := by decide +kernel
theorem dX9_manners_14 : decode cX9_manners 14 = .ok (.iload 4, 2) := by decide +kernel
theorem dX9_manners_16 : decode cX9_manners 16 = .ok (.iconst 3, 1) := by decide +kernel
theorem dX9_manners_17 : decode cX9_manners 17 = .ok (.if_icmp .ge 45, 3) := by decide +kernel
theorem dX9_manners_20 : decode cX9_manners 20 = .ok (.aload_n 0, 1) := by decide +kernel
theorem dX9_manners_21 : decode cX9_manners 21 = .ok (.iload 4, 2) := by decide +kernel
theorem dX9_manners_23 : decode cX9_manners 23 = .ok (.putfield 189, 3) := by decide +kernel
theorem dX9_manners_26 : decode cX9_manners 26 = .ok (.aload_n 0, 1) := by decide +kernel
theorem dX9_manners_27 : decode cX9_manners 27 = .ok (.invokevirtual 214, 3) := by decide +kernel
theorem dX9_manners_30 : decode cX9_manners 30 = .ok (.istore 5, 2) := by decide +kernel
theorem dX9_manners_32 : decode cX9_manners 32 = .ok (.iload 5, 2) := by decide +kernel
theorem dX9_manners_34 : decode cX9_manners 34 = .ok (.ifCond .lt 22, 3) := by decide +kernel
theorem dX9_manners_37 : decode cX9_manners 37 = .ok (.iload_n 1, 1) := by decide +kernel
theorem dX9_manners_38 : decode cX9_manners 38 = .ok (.ifCond .lt 12, 3) := by decide +kernel
theorem dX9_manners_41 : decode cX9_manners 41 = .ok (.iload 5, 2) := by decide +kernel
theorem dX9_manners_43 : decode cX9_manners 43 = .ok (.iload_n 2, 1) := by decide +kernel
theorem dX9_manners_44 : decode cX9_manners 44 = .ok (.if_icmp .lt 6, 3) := by decide +kernel
theorem dX9_manners_47 : decode cX9_manners 47 = .ok (.goto 9, 3) := by decide +kernel
theorem dX9_manners_50 : decode cX9_manners 50 = .ok (.iload 4, 2) := by decide +kernel
theorem dX9_manners_52 : decode cX9_manners 52 = .ok (.istore_n 1, 1) := by decide +kernel
theorem dX9_manners_53 : decode cX9_manners 53 = .ok (.iload 5, 2) := by decide +kernel
theorem dX9_manners_55 : decode cX9_manners 55 = .ok (.istore_n 2, 1) := by decide +kernel
theorem dX9_manners_56 : decode cX9_manners 56 = .ok (.iinc 4 1, 3) := by decide +kernel
theorem dX9_manners_59 : decode cX9_manners 59 = .ok (.goto (-45), 3) := by decide +kernel
theorem dX9_manners_62 : decode cX9_manners 62 = .ok (.aload_n 0, 1) := by decide +kernel
theorem dX9_manners_63 : decode cX9_manners 63 = .ok (.iload_n 3, 1) := by decide +kernel
theorem dX9_manners_64 : decode cX9_manners 64 = .ok (.putfield 189, 3) := by decide +kernel
theorem dX9_manners_67 : decode cX9_manners 67 = .ok (.iload_n 1, 1) := by decide +kernel
theorem dX9_manners_68 : decode cX9_manners 68 = .ok (.ireturn, 1) := by decide +kernel
theorem dX9_two_0 : decode cX9_two 0 = .ok (.iload_n 1, 1) := by decide +kernel
theorem dX9_two_1 : decode cX9_two 1 = .ok (.bipush 10, 2) := by decide +kernel
theorem dX9_two_3 : decode cX9_two 3 = .ok (.if_icmp .lt 9, 3) := by decide +kernel
theorem dX9_two_6 : decode cX9_two 6 = .ok (.iload_n 2, 1) := by decide +kernel
theorem dX9_two_7 : decode cX9_two 7 = .ok (.bipush 10, 2) := by decide +kernel
theorem dX9_two_9 : decode cX9_two 9 = .ok (.if_icmp .ge 8, 3) := by decide +kernel
theorem dX9_two_12 : decode cX9_two 12 = .ok (.bipush (-4), 2) := by decide +kernel
theorem dX9_two_14 : decode cX9_two 14 = .ok (.goto 21, 3) := by decide +kernel
theorem dX9_two_17 : decode cX9_two 17 = .ok (.iload_n 1, 1) := by decide +kernel
theorem dX9_two_18 : decode cX9_two 18 = .ok (.bipush 60, 2) := by decide +kernel
theorem dX9_two_20 : decode cX9_two 20 = .ok (.if_icmp .gt 9, 3) := by decide +kernel
theorem dX9_two_23 : decode cX9_two 23 = .ok (.iload_n 2, 1) := by decide +kernel
theorem dX9_two_24 : decode cX9_two 24 = .ok (.bipush 60, 2) := by decide +kernel
theorem dX9_two_26 : decode cX9_two 26 = .ok (.if_icmp .le 8, 3) := by decide +kernel
theorem dX9_two_29 : decode cX9_two 29 = .ok (.bipush (-6), 2) := by decide +kernel
theorem dX9_two_31 : decode cX9_two 31 = .ok (.goto 4, 3) := by decide +kernel
theorem dX9_two_34 : decode cX9_two 34 = .ok (.iconst 0, 1) := by decide +kernel
theorem dX9_two_35 : decode cX9_two 35 = .ok (.istore_n 3, 1) := by decide +kernel
theorem dX9_two_36 : decode cX9_two 36 = .ok (.iload_n 3, 1) := by decide +kernel
theorem dX9_two_37 : decode cX9_two 37 = .ok (.ifCond .eq 9, 3) := by decide +kernel
theorem dX9_two_40 : decode cX9_two 40 = .ok (.aload_n 0, 1) := by decide +kernel
theorem dX9_two_41 : decode cX9_two 41 = .ok (.iload_n 3, 1) := by decide +kernel
theorem dX9_two_42 : decode cX9_two 42 = .ok (.invokevirtual 224, 3) := by decide +kernel
theorem dX9_two_45 : decode cX9_two 45 = .ok (.ireturn, 1) := by decide +kernel
theorem dX9_two_46 : decode cX9_two 46 = .ok (.aload_n 0, 1) := by decide +kernel
theorem dX9_two_47 : decode cX9_two 47 = .ok (.iload_n 1, 1) := by decide +kernel
theorem dX9_two_48 : decode cX9_two 48 = .ok (.invokevirtual 373, 3) := by decide +kernel
theorem dX9_two_51 : decode cX9_two 51 = .ok (.ifCond .lt 7, 3) := by decide +kernel
theorem dX9_two_54 : decode cX9_two 54 = .ok (.iconst 1, 1) := by decide +kernel
theorem dX9_two_55 : decode cX9_two 55 = .ok (.goto 4, 3) := by decide +kernel
theorem dX9_two_58 : decode cX9_two 58 = .ok (.iconst 0, 1) := by decide +kernel
theorem dX9_two_59 : decode cX9_two 59 = .ok (.istore 4, 2) := by decide +kernel
theorem dX9_two_61 : decode cX9_two 61 = .ok (.aload_n 0, 1) := by decide +kernel
theorem dX9_two_62 : decode cX9_two 62 = .ok (.invokevirtual 366, 3) := by decide +kernel
theorem dX9_two_65 : decode cX9_two 65 = .ok (.fstore 5, 2) := by decide +kernel
theorem dX9_two_67 : decode cX9_two 67 = .ok (.aload_n 0, 1) := by decide +kernel
theorem dX9_two_68 : decode cX9_two 68 = .ok (.iload_n 2, 1) := by decide +kernel
theorem dX9_two_69 : decode cX9_two 69 = .ok (.invokevirtual 373, 3) := by decide +kernel
theorem dX9_two_72 : decode cX9_two 72 = .ok (.ifCond .lt 7, 3) := by decide +kernel
theorem dX9_two_75 : decode cX9_two 75 = .ok (.iconst 1, 1) := by decide +kernel
theorem dX9_two_76 : decode cX9_two 76 = .ok (.goto 4, 3) := by decide +kernel
theorem dX9_two_79 : decode cX9_two 79 = .ok (.iconst 0, 1) := by decide +kernel
theorem dX9_two_80 : decode cX9_two 80 = .ok (.istore 6, 2) := by decide +kernel
theorem dX9_two_82 : decode cX9_two 82 = .ok (.aload_n 0, 1) := by decide +kernel
theorem dX9_two_83 : decode cX9_two 83 = .ok (.invokevirtual 366, 3) := by decide +kernel
theorem dX9_two_86 : decode cX9_two 86 = .ok (.fstore 7, 2) := by decide +kernel
theorem dX9_two_88 : decode cX9_two 88 = .ok (.iload 4, 2) := by decide +kernel
theorem dX9_two_90 : decode cX9_two 90 = .ok (.ifCond .eq 18, 3) := by decide +kernel
theorem dX9_two_93 : decode cX9_two 93 = .ok (.iload 6, 2) := by decide +kernel
theorem dX9_two_95 : decode cX9_two 95 = .ok (.ifCond .eq 11, 3) := by decide +kernel
theorem dX9_two_98 : decode cX9_two 98 = .ok (.fload 5, 2) := by decide +kernel
theorem dX9_two_100 : decode cX9_two 100 = .ok (.fload 7, 2) := by decide +kernel
theorem dX9_two_102 : decode cX9_two 102 = .ok (.fcmp .g, 1) := by decide +kernel
theorem dX9_two_103 : decode cX9_two 103 = .ok (.ifCond .ge 5, 3) := by decide +kernel
theorem dX9_two_106 : decode cX9_two 106 = .ok (.iconst 0, 1) := by decide +kernel
theorem dX9_two_107 : decode cX9_two 107 = .ok (.ireturn, 1) := by decide +kernel
theorem dX9_two_108 : decode cX9_two 108 = .ok (.iload 6, 2) := by decide +kernel
theorem dX9_two_110 : decode cX9_two 110 = .ok (.ifCond .eq 20, 3) := by decide +kernel
theorem dX9_two_113 : decode cX9_two 113 = .ok (.iload 4, 2) := by decide +kernel
theorem dX9_two_115 : decode cX9_two 115 = .ok (.ifCond .eq 11, 3) := by decide +kernel
theorem dX9_two_118 : decode cX9_two 118 = .ok (.fload 7, 2) := by decide +kernel
theorem dX9_two_120 : decode cX9_two 120 = .ok (.fload 5, 2) := by decide +kernel
theorem dX9_two_122 : decode cX9_two 122 = .ok (.fcmp .g, 1) := by decide +kernel
theorem dX9_two_123 : decode cX9_two 123 = .ok (.ifCond .ge 7, 3) := by decide +kernel
theorem dX9_two_126 : decode cX9_two 126 = .ok (.iconst 1, 1) := by decide +kernel
theorem dX9_two_127 : decode cX9_two 127 = .ok (.goto 5, 3) := by decide +kernel
theorem dX9_two_130 : decode cX9_two 130 = .ok (.bipush (-9), 2) := by decide +kernel
theorem dX9_two_132 : decode cX9_two 132 = .ok (.ireturn, 1) := by decide +kernel
theorem dX9_divisor_0 : decode cX9_divisor 0 = .ok (.lload_n 0, 1) := by decide +kernel
theorem dX9_divisor_1 : decode cX9_divisor 1 = .ok (.lstore 4, 2) := by decide +kernel
theorem dX9_divisor_3 : decode cX9_divisor 3 = .ok (.lload_n 2, 1) := by decide +kernel
theorem dX9_divisor_4 : decode cX9_divisor 4 = .ok (.lstore 6, 2) := by decide +kernel
theorem dX9_divisor_6 : decode cX9_divisor 6 = .ok (.lload 6, 2) := by decide +kernel
theorem dX9_divisor_8 : decode cX9_divisor 8 = .ok (.lconst 0, 1) := by decide +kernel
theorem dX9_divisor_9 : decode cX9_divisor 9 = .ok (.lcmp, 1) := by decide +kernel
theorem dX9_divisor_10 : decode cX9_divisor 10 = .ok (.ifCond .eq 21, 3) := by decide +kernel
theorem dX9_divisor_13 : decode cX9_divisor 13 = .ok (.lload 4, 2) := by decide +kernel
theorem dX9_divisor_15 : decode cX9_divisor 15 = .ok (.lload 6, 2) := by decide +kernel
theorem dX9_divisor_17 : decode cX9_divisor 17 = .ok (.lrem, 1) := by decide +kernel
theorem dX9_divisor_18 : decode cX9_divisor 18 = .ok (.lstore 8, 2) := by decide +kernel
theorem dX9_divisor_20 : decode cX9_divisor 20 = .ok (.lload 6, 2) := by decide +kernel
theorem dX9_divisor_22 : decode cX9_divisor 22 = .ok (.lstore 4, 2) := by decide +kernel
theorem dX9_divisor_24 : decode cX9_divisor 24 = .ok (.lload 8, 2) := by decide +kernel
theorem dX9_divisor_26 : decode cX9_divisor 26 = .ok (.lstore 6, 2) := by decide +kernel
theorem dX9_divisor_28 : decode cX9_divisor 28 = .ok (.goto (-22), 3) := by decide +kernel
theorem dX9_divisor_31 : decode cX9_divisor 31 = .ok (.lload 4, 2) := by decide +kernel
theorem dX9_divisor_33 : decode cX9_divisor 33 = .ok (.lreturn, 1) := by decide +kernel
theorem dX9_partOf_0 : decode cX9_partOf 0 = .ok (.iload 4, 2) := by decide +kernel
theorem dX9_partOf_2 : decode cX9_partOf 2 = .ok (.ifCond .ne 7, 3) := by decide +kernel
theorem dX9_partOf_5 : decode cX9_partOf 5 = .ok (.lload_n 0, 1) := by decide +kernel
theorem dX9_partOf_6 : decode cX9_partOf 6 = .ok (.goto 4, 3) := by decide +kernel
theorem dX9_partOf_9 : decode cX9_partOf 9 = .ok (.lload_n 2, 1) := by decide +kernel
theorem dX9_partOf_10 : decode cX9_partOf 10 = .ok (.lload_n 0, 1) := by decide +kernel
theorem dX9_partOf_11 : decode cX9_partOf 11 = .ok (.lload_n 2, 1) := by decide +kernel
theorem dX9_partOf_12 : decode cX9_partOf 12 = .ok (.invokestatic 385, 3) := by decide +kernel
theorem dX9_partOf_15 : decode cX9_partOf 15 = .ok (.ldiv, 1) := by decide +kernel
theorem dX9_partOf_16 : decode cX9_partOf 16 = .ok (.lreturn, 1) := by decide +kernel
theorem dX9_lost_0 : decode cX9_lost 0 = .ok (.iload_n 1, 1) := by decide +kernel
theorem dX9_lost_1 : decode cX9_lost 1 = .ok (.ifCond .lt 8, 3) := by decide +kernel
theorem dX9_lost_4 : decode cX9_lost 4 = .ok (.iload_n 2, 1) := by decide +kernel
theorem dX9_lost_5 : decode cX9_lost 5 = .ok (.iconst 2, 1) := by decide +kernel
theorem dX9_lost_6 : decode cX9_lost 6 = .ok (.if_icmp .ge 8, 3) := by decide +kernel
theorem dX9_lost_9 : decode cX9_lost 9 = .ok (.bipush (-4), 2) := by decide +kernel
theorem dX9_lost_11 : decode cX9_lost 11 = .ok (.goto 35, 3) := by decide +kernel
theorem dX9_lost_14 : decode cX9_lost 14 = .ok (.iload_n 1, 1) := by decide +kernel
theorem dX9_lost_15 : decode cX9_lost 15 = .ok (.bipush 20, 2) := by decide +kernel
theorem dX9_lost_17 : decode cX9_lost 17 = .ok (.if_icmp .gt 9, 3) := by decide +kernel
theorem dX9_lost_20 : decode cX9_lost 20 = .ok (.iload_n 2, 1) := by decide +kernel
theorem dX9_lost_21 : decode cX9_lost 21 = .ok (.bipush 20, 2) := by decide +kernel
theorem dX9_lost_23 : decode cX9_lost 23 = .ok (.if_icmp .le 8, 3) := by decide +kernel
theorem dX9_lost_26 : decode cX9_lost 26 = .ok (.bipush (-6), 2) := by decide +kernel
theorem dX9_lost_28 : decode cX9_lost 28 = .ok (.goto 18, 3) := by decide +kernel
theorem dX9_lost_31 : decode cX9_lost 31 = .ok (.iload_n 3, 1) := by decide +kernel
theorem dX9_lost_32 : decode cX9_lost 32 = .ok (.iconst 0, 1) := by decide +kernel
theorem dX9_lost_33 : decode cX9_lost 33 = .ok (.iconst 1, 1) := by decide +kernel
theorem dX9_lost_34 : decode cX9_lost 34 = .ok (.invokestatic 125, 3) := by decide +kernel
theorem dX9_lost_37 : decode cX9_lost 37 = .ok (.ifCond .ne 8, 3) := by decide +kernel
theorem dX9_lost_40 : decode cX9_lost 40 = .ok (.bipush (-2), 2) := by decide +kernel
theorem dX9_lost_42 : decode cX9_lost 42 = .ok (.goto 4, 3) := by decide +kernel
theorem dX9_lost_45 : decode cX9_lost 45 = .ok (.iconst 0, 1) := by decide +kernel
theorem dX9_lost_46 : decode cX9_lost 46 = .ok (.istore 4, 2) := by decide +kernel
theorem dX9_lost_48 : decode cX9_lost 48 = .ok (.iload 4, 2) := by decide +kernel
theorem dX9_lost_50 : decode cX9_lost 50 = .ok (.ifCond .eq 10, 3) := by decide +kernel
theorem dX9_lost_53 : decode cX9_lost 53 = .ok (.aload_n 0, 1) := by decide +kernel
theorem dX9_lost_54 : decode cX9_lost 54 = .ok (.iload 4, 2) := by decide +kernel
theorem dX9_lost_56 : decode cX9_lost 56 = .ok (.invokevirtual 389, 3) := by decide +kernel
theorem dX9_lost_59 : decode cX9_lost 59 = .ok (.lreturn, 1) := by decide +kernel
theorem dX9_lost_60 : decode cX9_lost 60 = .ok (.aload_n 0, 1) := by decide +kernel
theorem dX9_lost_61 : decode cX9_lost 61 = .ok (.getfield 122, 3) := by decide +kernel
theorem dX9_lost_64 : decode cX9_lost 64 = .ok (.bipush 6, 2) := by decide +kernel
theorem dX9_lost_66 : decode cX9_lost 66 = .ok (.if_icmp .ge 10, 3) := by decide +kernel
theorem dX9_lost_69 : decode cX9_lost 69 = .ok (.aload_n 0, 1) := by decide +kernel
theorem dX9_lost_70 : decode cX9_lost 70 = .ok (.getfield 122, 3) := by decide +kernel
theorem dX9_lost_73 : decode cX9_lost 73 = .ok (.goto 5, 3) := by decide +kernel
theorem dX9_lost_76 : decode cX9_lost 76 = .ok (.bipush 6, 2) := by decide +kernel
theorem dX9_lost_78 : decode cX9_lost 78 = .ok (.istore 5, 2) := by decide +kernel
theorem dX9_lost_80 : decode cX9_lost 80 = .ok (.lconst 0, 1) := by decide +kernel
theorem dX9_lost_81 : decode cX9_lost 81 = .ok (.lstore 6, 2) := by decide +kernel
theorem dX9_lost_83 : decode cX9_lost 83 = .ok (.lconst 1, 1) := by decide +kernel
theorem dX9_lost_84 : decode cX9_lost 84 = .ok (.lstore 8, 2) := by decide +kernel
theorem dX9_lost_86 : decode cX9_lost 86 = .ok (.iconst 0, 1) := by decide +kernel
theorem dX9_lost_87 : decode cX9_lost 87 = .ok (.istore 10, 2) := by decide +kernel
theorem dX9_lost_89 : decode cX9_lost 89 = .ok (.iload 10, 2) := by decide +kernel
theorem dX9_lost_91 : decode cX9_lost 91 = .ok (.iload 5, 2) := by decide +kernel
theorem dX9_lost_93 : decode cX9_lost 93 = .ok (.if_icmp .ge 16, 3) := by decide +kernel
theorem dX9_lost_96 : decode cX9_lost 96 = .ok (.lload 8, 2) := by decide +kernel
theorem dX9_lost_98 : decode cX9_lost 98 = .ok (.iload_n 2, 1) := by decide +kernel
theorem dX9_lost_99 : decode cX9_lost 99 = .ok (.i2l, 1) := by decide +kernel
theorem dX9_lost_100 : decode cX9_lost 100 = .ok (.lmul, 1) := by decide +kernel
theorem dX9_lost_101 : decode cX9_lost 101 = .ok (.lstore 8, 2) := by decide +kernel
theorem dX9_lost_103 : decode cX9_lost 103 = .ok (.iinc 10 1, 3) := by decide +kernel
theorem dX9_lost_106 : decode cX9_lost 106 = .ok (.goto (-17), 3) := by decide +kernel
theorem dX9_lost_109 : decode cX9_lost 109 = .ok (.iconst 0, 1) := by decide +kernel
theorem dX9_lost_110 : decode cX9_lost 110 = .ok (.istore 10, 2) := by decide +kernel
theorem dX9_lost_112 : decode cX9_lost 112 = .ok (.iload 10, 2) := by decide +kernel
theorem dX9_lost_114 : decode cX9_lost 114 = .ok (.iconst 1, 1) := by decide +kernel
theorem dX9_lost_115 : decode cX9_lost 115 = .ok (.iload 5, 2) := by decide +kernel
theorem dX9_lost_117 : decode cX9_lost 117 = .ok (.ishl, 1) := by decide +kernel
theorem dX9_lost_118 : decode cX9_lost 118 = .ok (.if_icmp .ge 107, 3) := by decide +kernel
theorem dX9_lost_121 : decode cX9_lost 121 = .ok (.lconst 1, 1) := by decide +kernel
theorem dX9_lost_122 : decode cX9_lost 122 = .ok (.lstore 11, 2) := by decide +kernel
theorem dX9_lost_124 : decode cX9_lost 124 = .ok (.aload_n 0, 1) := by decide +kernel
theorem dX9_lost_125 : decode cX9_lost 125 = .ok (.invokevirtual 376, 3) := by decide +kernel
theorem dX9_lost_128 : decode cX9_lost 128 = .ok (.iload 5, 2) := by decide +kernel
theorem dX9_lost_130 : decode cX9_lost 130 = .ok (.iconst 1, 1) := by decide +kernel
theorem dX9_lost_131 : decode cX9_lost 131 = .ok (.isub, 1) := by decide +kernel
theorem dX9_lost_132 : decode cX9_lost 132 = .ok (.istore 13, 2) := by decide +kernel
theorem dX9_lost_134 : decode cX9_lost 134 = .ok (.iload 13, 2) := by decide +kernel
theorem dX9_lost_136 : decode cX9_lost 136 = .ok (.ifCond .lt 56, 3) := by decide +kernel
theorem dX9_lost_139 : decode cX9_lost 139 = .ok (.iload 10, 2) := by decide +kernel
theorem dX9_lost_141 : decode cX9_lost 141 = .ok (.iload 13, 2) := by decide +kernel
theorem dX9_lost_143 : decode cX9_lost 143 = .ok (.ishr, 1) := by decide +kernel
theorem dX9_lost_144 : decode cX9_lost 144 = .ok (.iconst 1, 1) := by decide +kernel
theorem dX9_lost_145 : decode cX9_lost 145 = .ok (.iand, 1) := by decide +kernel
theorem dX9_lost_146 : decode cX9_lost 146 = .ok (.iconst 1, 1) := by decide +kernel
theorem dX9_lost_147 : decode cX9_lost 147 = .ok (.if_icmp .ne 7, 3) := by decide +kernel
theorem dX9_lost_150 : decode cX9_lost 150 = .ok (.iconst 1, 1) := by decide +kernel
theorem dX9_lost_151 : decode cX9_lost 151 = .ok (.goto 4, 3) := by decide +kernel
theorem dX9_lost_154 : decode cX9_lost 154 = .ok (.iconst 0, 1) := by decide +kernel
theorem dX9_lost_155 : decode cX9_lost 155 = .ok (.istore 14, 2) := by decide +kernel
theorem dX9_lost_157 : decode cX9_lost 157 = .ok (.lload 11, 2) := by decide +kernel
theorem dX9_lost_159 : decode cX9_lost 159 = .ok (.iload 14, 2) := by decide +kernel
theorem dX9_lost_161 : decode cX9_lost 161 = .ok (.ifCond .eq 7, 3) := by decide +kernel
theorem dX9_lost_164 : decode cX9_lost 164 = .ok (.lconst 1, 1) := by decide +kernel
theorem dX9_lost_165 : decode cX9_lost 165 = .ok (.goto 7, 3) := by decide +kernel
theorem dX9_lost_168 : decode cX9_lost 168 = .ok (.iload_n 2, 1) := by decide +kernel
theorem dX9_lost_169 : decode cX9_lost 169 = .ok (.iconst 1, 1) := by decide +kernel
theorem dX9_lost_170 : decode cX9_lost 170 = .ok (.isub, 1) := by decide +kernel
theorem dX9_lost_171 : decode cX9_lost 171 = .ok (.i2l, 1) := by decide +kernel
theorem dX9_lost_172 : decode cX9_lost 172 = .ok (.lmul, 1) := by decide +kernel
theorem dX9_lost_173 : decode cX9_lost 173 = .ok (.lstore 11, 2) := by decide +kernel
theorem dX9_lost_175 : decode cX9_lost 175 = .ok (.iload 14, 2) := by decide +kernel
theorem dX9_lost_177 : decode cX9_lost 177 = .ok (.ifCond .eq 9, 3) := by decide +kernel
theorem dX9_lost_180 : decode cX9_lost 180 = .ok (.aload_n 0, 1) := by decide +kernel
theorem dX9_lost_181 : decode cX9_lost 181 = .ok (.iload 13, 2) := by decide +kernel
theorem dX9_lost_183 : decode cX9_lost 183 = .ok (.invokevirtual 323, 3) := by decide +kernel
theorem dX9_lost_186 : decode cX9_lost 186 = .ok (.iinc 13 (-1), 3) := by decide +kernel
theorem dX9_lost_189 : decode cX9_lost 189 = .ok (.goto (-55), 3) := by decide +kernel
theorem dX9_lost_192 : decode cX9_lost 192 = .ok (.lload 6, 2) := by decide +kernel
theorem dX9_lost_194 : decode cX9_lost 194 = .ok (.aload_n 0, 1) := by decide +kernel
theorem dX9_lost_195 : decode cX9_lost 195 = .ok (.invokevirtual 214, 3) := by decide +kernel
theorem dX9_lost_198 : decode cX9_lost 198 = .ok (.iconst 0, 1) := by decide +kernel
theorem dX9_lost_199 : decode cX9_lost 199 = .ok (.iload_n 1, 1) := by decide +kernel
theorem dX9_lost_200 : decode cX9_lost 200 = .ok (.invokestatic 125, 3) := by decide +kernel
theorem dX9_lost_203 : decode cX9_lost 203 = .ok (.ifCond .eq 8, 3) := by decide +kernel
theorem dX9_lost_206 : decode cX9_lost 206 = .ok (.lload 11, 2) := by decide +kernel
theorem dX9_lost_208 : decode cX9_lost 208 = .ok (.goto 4, 3) := by decide +kernel
theorem dX9_lost_211 : decode cX9_lost 211 = .ok (.lconst 0, 1) := by decide +kernel
theorem dX9_lost_212 : decode cX9_lost 212 = .ok (.ladd, 1) := by decide +kernel
theorem dX9_lost_213 : decode cX9_lost 213 = .ok (.lstore 6, 2) := by decide +kernel
theorem dX9_lost_215 : decode cX9_lost 215 = .ok (.aload_n 0, 1) := by decide +kernel
theorem dX9_lost_216 : decode cX9_lost 216 = .ok (.invokevirtual 379, 3) := by decide +kernel
theorem dX9_lost_219 : decode cX9_lost 219 = .ok (.iinc 10 1, 3) := by decide +kernel
theorem dX9_lost_222 : decode cX9_lost 222 = .ok (.goto (-110), 3) := by decide +kernel
theorem dX9_lost_225 : decode cX9_lost 225 = .ok (.lload 6, 2) := by decide +kernel
theorem dX9_lost_227 : decode cX9_lost 227 = .ok (.lload 8, 2) := by decide +kernel
theorem dX9_lost_229 : decode cX9_lost 229 = .ok (.iload_n 3, 1) := by decide +kernel
theorem dX9_lost_230 : decode cX9_lost 230 = .ok (.invokestatic 393, 3) := by decide +kernel
theorem dX9_lost_233 : decode cX9_lost 233 = .ok (.lreturn, 1) := by decide +kernel
theorem dX9_mean_0 : decode cX9_mean 0 = .ok (.iload_n 1, 1) := by decide +kernel
theorem dX9_mean_1 : decode cX9_mean 1 = .ok (.iconst 0, 1) := by decide +kernel
theorem dX9_mean_2 : decode cX9_mean 2 = .ok (.iconst 1, 1) := by decide +kernel
theorem dX9_mean_3 : decode cX9_mean 3 = .ok (.invokestatic 125, 3) := by decide +kernel
theorem dX9_mean_6 : decode cX9_mean 6 = .ok (.ifCond .ne 10, 3) := by decide +kernel
theorem dX9_mean_9 : decode cX9_mean 9 = .ok (.aload_n 0, 1) := by decide +kernel
theorem dX9_mean_10 : decode cX9_mean 10 = .ok (.bipush (-2), 2) := by decide +kernel
theorem dX9_mean_12 : decode cX9_mean 12 = .ok (.invokevirtual 389, 3) := by decide +kernel
theorem dX9_mean_15 : decode cX9_mean 15 = .ok (.lreturn, 1) := by decide +kernel
theorem dX9_mean_16 : decode cX9_mean 16 = .ok (.aload_n 0, 1) := by decide +kernel
theorem dX9_mean_17 : decode cX9_mean 17 = .ok (.invokevirtual 214, 3) := by decide +kernel
theorem dX9_mean_20 : decode cX9_mean 20 = .ok (.ifCond .gt 6, 3) := by decide +kernel
theorem dX9_mean_23 : decode cX9_mean 23 = .ok (.iload_n 1, 1) := by decide +kernel
theorem dX9_mean_24 : decode cX9_mean 24 = .ok (.i2l, 1) := by decide +kernel
theorem dX9_mean_25 : decode cX9_mean 25 = .ok (.lreturn, 1) := by decide +kernel
theorem dX9_mean_26 : decode cX9_mean 26 = .ok (.iconst 0, 1) := by decide +kernel
theorem dX9_mean_27 : decode cX9_mean 27 = .ok (.istore_n 2, 1) := by decide +kernel
theorem dX9_mean_28 : decode cX9_mean 28 = .ok (.iconst 0, 1) := by decide +kernel
theorem dX9_mean_29 : decode cX9_mean 29 = .ok (.istore_n 3, 1) := by decide +kernel
theorem dX9_mean_30 : decode cX9_mean 30 = .ok (.iload_n 3, 1) := by decide +kernel
theorem dX9_mean_31 : decode cX9_mean 31 = .ok (.aload_n 0, 1) := by decide +kernel
theorem dX9_mean_32 : decode cX9_mean 32 = .ok (.getfield 211, 3) := by decide +kernel
theorem dX9_mean_35 : decode cX9_mean 35 = .ok (.if_icmp .ge 30, 3) := by decide +kernel
theorem dX9_mean_38 : decode cX9_mean 38 = .ok (.iload_n 2, 1) := by decide +kernel
theorem dX9_mean_39 : decode cX9_mean 39 = .ok (.aload_n 0, 1) := by decide +kernel
theorem dX9_mean_40 : decode cX9_mean 40 = .ok (.aload_n 0, 1) := by decide +kernel
theorem dX9_mean_41 : decode cX9_mean 41 = .ok (.getfield 56, 3) := by decide +kernel
theorem dX9_mean_44 : decode cX9_mean 44 = .ok (.iload_n 3, 1) := by decide +kernel
theorem dX9_mean_45 : decode cX9_mean 45 = .ok (.iaload, 1) := by decide +kernel
theorem dX9_mean_46 : decode cX9_mean 46 = .ok (.aload_n 0, 1) := by decide +kernel
theorem dX9_mean_47 : decode cX9_mean 47 = .ok (.getfield 56, 3) := by decide +kernel
theorem dX9_mean_50 : decode cX9_mean 50 = .ok (.iload_n 3, 1) := by decide +kernel
theorem dX9_mean_51 : decode cX9_mean 51 = .ok (.iconst 1, 1) := by decide +kernel
theorem dX9_mean_52 : decode cX9_mean 52 = .ok (.iadd, 1) := by decide +kernel
theorem dX9_mean_53 : decode cX9_mean 53 = .ok (.iaload, 1) := by decide +kernel
theorem dX9_mean_54 : decode cX9_mean 54 = .ok (.invokevirtual 160, 3) := by decide +kernel
theorem dX9_mean_57 : decode cX9_mean 57 = .ok (.iadd, 1) := by decide +kernel
theorem dX9_mean_58 : decode cX9_mean 58 = .ok (.istore_n 2, 1) := by decide +kernel
theorem dX9_mean_59 : decode cX9_mean 59 = .ok (.iinc 3 1, 3) := by decide +kernel
theorem dX9_mean_62 : decode cX9_mean 62 = .ok (.goto (-32), 3) := by decide +kernel
theorem dX9_mean_65 : decode cX9_mean 65 = .ok (.iload_n 2, 1) := by decide +kernel
theorem dX9_mean_66 : decode cX9_mean 66 = .ok (.i2l, 1) := by decide +kernel
theorem dX9_mean_67 : decode cX9_mean 67 = .ok (.aload_n 0, 1) := by decide +kernel
theorem dX9_mean_68 : decode cX9_mean 68 = .ok (.getfield 211, 3) := by decide +kernel
theorem dX9_mean_71 : decode cX9_mean 71 = .ok (.i2l, 1) := by decide +kernel
theorem dX9_mean_72 : decode cX9_mean 72 = .ok (.iload_n 1, 1) := by decide +kernel
theorem dX9_mean_73 : decode cX9_mean 73 = .ok (.invokestatic 393, 3) := by decide +kernel
theorem dX9_mean_76 : decode cX9_mean 76 = .ok (.lreturn, 1) := by decide +kernel
theorem dX9_areLinesSo_0 : decode cX9_areLinesSo 0 = .ok (.iconst 0, 1) := by decide +kernel
theorem dX9_areLinesSo_1 : decode cX9_areLinesSo 1 = .ok (.istore_n 1, 1) := by decide +kernel
theorem dX9_areLinesSo_2 : decode cX9_areLinesSo 2 = .ok (.iload_n 1, 1) := by decide +kernel
theorem dX9_areLinesSo_3 : decode cX9_areLinesSo 3 = .ok (.aload_n 0, 1) := by decide +kernel
theorem dX9_areLinesSo_4 : decode cX9_areLinesSo 4 = .ok (.getfield 397, 3) := by decide +kernel
theorem dX9_areLinesSo_7 : decode cX9_areLinesSo 7 = .ok (.if_icmp .ge 40, 3) := by decide +kernel
theorem dX9_areLinesSo_10 : decode cX9_areLinesSo 10 = .ok (.aload_n 0, 1) := by decide +kernel
theorem dX9_areLinesSo_11 : decode cX9_areLinesSo 11 = .ok (.bipush 20, 2) := by decide +kernel
theorem dX9_areLinesSo_13 : decode cX9_areLinesSo 13 = .ok (.iconst 4, 1) := by decide +kernel
theorem dX9_areLinesSo_14 : decode cX9_areLinesSo 14 = .ok (.iload_n 1, 1) := by decide +kernel
theorem dX9_areLinesSo_15 : decode cX9_areLinesSo 15 = .ok (.imul, 1) := by decide +kernel
theorem dX9_areLinesSo_16 : decode cX9_areLinesSo 16 = .ok (.iadd, 1) := by decide +kernel
theorem dX9_areLinesSo_17 : decode cX9_areLinesSo 17 = .ok (.invokevirtual 373, 3) := by decide +kernel
theorem dX9_areLinesSo_20 : decode cX9_areLinesSo 20 = .ok (.istore_n 2, 1) := by decide +kernel
theorem dX9_areLinesSo_21 : decode cX9_areLinesSo 21 = .ok (.iload_n 2, 1) := by decide +kernel
theorem dX9_areLinesSo_22 : decode cX9_areLinesSo 22 = .ok (.ifCond .ge 7, 3) := by decide +kernel
theorem dX9_areLinesSo_25 : decode cX9_areLinesSo 25 = .ok (.iconst 0, 1) := by decide +kernel
theorem dX9_areLinesSo_26 : decode cX9_areLinesSo 26 = .ok (.goto 4, 3) := by decide +kernel
theorem dX9_areLinesSo_29 : decode cX9_areLinesSo 29 = .ok (.iload_n 2, 1) := by decide +kernel
theorem dX9_areLinesSo_30 : decode cX9_areLinesSo 30 = .ok (.aload_n 0, 1) := by decide +kernel
theorem dX9_areLinesSo_31 : decode cX9_areLinesSo 31 = .ok (.getfield 95, 3) := by decide +kernel
theorem dX9_areLinesSo_34 : decode cX9_areLinesSo 34 = .ok (.iload_n 1, 1) := by decide +kernel
theorem dX9_areLinesSo_35 : decode cX9_areLinesSo 35 = .ok (.iaload, 1) := by decide +kernel
theorem dX9_areLinesSo_36 : decode cX9_areLinesSo 36 = .ok (.if_icmp .eq 5, 3) := by decide +kernel
theorem dX9_areLinesSo_39 : decode cX9_areLinesSo 39 = .ok (.iconst 0, 1) := by decide +kernel
theorem dX9_areLinesSo_40 : decode cX9_areLinesSo 40 = .ok (.ireturn, 1) := by decide +kernel
theorem dX9_areLinesSo_41 : decode cX9_areLinesSo 41 = .ok (.iinc 1 1, 3) := by decide +kernel
theorem dX9_areLinesSo_44 : decode cX9_areLinesSo 44 = .ok (.goto (-42), 3) := by decide +kernel
theorem dX9_areLinesSo_47 : decode cX9_areLinesSo 47 = .ok (.iconst 1, 1) := by decide +kernel
theorem dX9_areLinesSo_48 : decode cX9_areLinesSo 48 = .ok (.ireturn, 1) := by decide +kernel
theorem dX9_whatIs_0 : decode cX9_whatIs 0 = .ok (.iload_n 1, 1) := by decide +kernel
theorem dX9_whatIs_1 : decode cX9_whatIs 1 = .ok (.iconst 0, 1) := by decide +kernel
theorem dX9_whatIs_2 : decode cX9_whatIs 2 = .ok (.iconst 1, 1) := by decide +kernel
theorem dX9_whatIs_3 : decode cX9_whatIs 3 = .ok (.invokestatic 125, 3) := by decide +kernel
theorem dX9_whatIs_6 : decode cX9_whatIs 6 = .ok (.ifCond .ne 10, 3) := by decide +kernel
theorem dX9_whatIs_9 : decode cX9_whatIs 9 = .ok (.aload_n 0, 1) := by decide +kernel
theorem dX9_whatIs_10 : decode cX9_whatIs 10 = .ok (.bipush (-2), 2) := by decide +kernel
theorem dX9_whatIs_12 : decode cX9_whatIs 12 = .ok (.invokevirtual 224, 3) := by decide +kernel
theorem dX9_whatIs_15 : decode cX9_whatIs 15 = .ok (.ireturn, 1) := by decide +kernel
theorem dX9_whatIs_16 : decode cX9_whatIs 16 = .ok (.aload_n 0, 1) := by decide +kernel
theorem dX9_whatIs_17 : decode cX9_whatIs 17 = .ok (.getfield 129, 3) := by decide +kernel
theorem dX9_whatIs_20 : decode cX9_whatIs 20 = .ok (.istore_n 2, 1) := by decide +kernel
theorem dX9_whatIs_21 : decode cX9_whatIs 21 = .ok (.aload_n 0, 1) := by decide +kernel
theorem dX9_whatIs_22 : decode cX9_whatIs 22 = .ok (.getfield 132, 3) := by decide +kernel
theorem dX9_whatIs_25 : decode cX9_whatIs 25 = .ok (.istore_n 3, 1) := by decide +kernel
theorem dX9_whatIs_26 : decode cX9_whatIs 26 = .ok (.iconst 0, 1) := by decide +kernel
theorem dX9_whatIs_27 : decode cX9_whatIs 27 = .ok (.istore 4, 2) := by decide +kernel
theorem dX9_whatIs_29 : decode cX9_whatIs 29 = .ok (.iconst 0, 1) := by decide +kernel
theorem dX9_whatIs_30 : decode cX9_whatIs 30 = .ok (.istore 5, 2) := by decide +kernel
theorem dX9_whatIs_32 : decode cX9_whatIs 32 = .ok (.iload 5, 2) := by decide +kernel
theorem dX9_whatIs_34 : decode cX9_whatIs 34 = .ok (.iload_n 1, 1) := by decide +kernel
theorem dX9_whatIs_35 : decode cX9_whatIs 35 = .ok (.ifCond .ne 8, 3) := by decide +kernel
theorem dX9_whatIs_38 : decode cX9_whatIs 38 = .ok (.bipush 6, 2) := by decide +kernel
theorem dX9_whatIs_40 : decode cX9_whatIs 40 = .ok (.goto 5, 3) := by decide +kernel
theorem dX9_whatIs_43 : decode cX9_whatIs 43 = .ok (.bipush 10, 2) := by decide +kernel
theorem dX9_whatIs_45 : decode cX9_whatIs 45 = .ok (.if_icmp .ge 48, 3) := by decide +kernel
theorem dX9_whatIs_48 : decode cX9_whatIs 48 = .ok (.iload_n 1, 1) := by decide +kernel
theorem dX9_whatIs_49 : decode cX9_whatIs 49 = .ok (.ifCond .ne 12, 3) := by decide +kernel
theorem dX9_whatIs_52 : decode cX9_whatIs 52 = .ok (.aload_n 0, 1) := by decide +kernel
theorem dX9_whatIs_53 : decode cX9_whatIs 53 = .ok (.iload 5, 2) := by decide +kernel
theorem dX9_whatIs_55 : decode cX9_whatIs 55 = .ok (.putfield 129, 3) := by decide +kernel
theorem dX9_whatIs_58 : decode cX9_whatIs 58 = .ok (.goto 9, 3) := by decide +kernel
theorem dX9_whatIs_61 : decode cX9_whatIs 61 = .ok (.aload_n 0, 1) := by decide +kernel
theorem dX9_whatIs_62 : decode cX9_whatIs 62 = .ok (.iload 5, 2) := by decide +kernel
theorem dX9_whatIs_64 : decode cX9_whatIs 64 = .ok (.putfield 132, 3) := by decide +kernel
theorem dX9_whatIs_67 : decode cX9_whatIs 67 = .ok (.iload 4, 2) := by decide +kernel
theorem dX9_whatIs_69 : decode cX9_whatIs 69 = .ok (.aload_n 0, 1) := by decide +kernel
theorem dX9_whatIs_70 : decode cX9_whatIs 70 = .ok (.invokevirtual 400, 3) := by decide +kernel
theorem dX9_whatIs_73 : decode cX9_whatIs 73 = .ok (.ifCond .eq 10, 3) := by decide +kernel
theorem dX9_whatIs_76 : decode cX9_whatIs 76 = .ok (.iconst 1, 1) := by decide +kernel
theorem dX9_whatIs_77 : decode cX9_whatIs 77 = .ok (.iload 5, 2) := by decide +kernel
theorem dX9_whatIs_79 : decode cX9_whatIs 79 = .ok (.ishl, 1) := by decide +kernel
theorem dX9_whatIs_80 : decode cX9_whatIs 80 = .ok (.goto 4, 3) := by decide +kernel
theorem dX9_whatIs_83 : decode cX9_whatIs 83 = .ok (.iconst 0, 1) := by decide +kernel
theorem dX9_whatIs_84 : decode cX9_whatIs 84 = .ok (.ior, 1) := by decide +kernel
theorem dX9_whatIs_85 : decode cX9_whatIs 85 = .ok (.istore 4, 2) := by decide +kernel
theorem dX9_whatIs_87 : decode cX9_whatIs 87 = .ok (.iinc 5 1, 3) := by decide +kernel
theorem dX9_whatIs_90 : decode cX9_whatIs 90 = .ok (.goto (-58), 3) := by decide +kernel
theorem dX9_whatIs_93 : decode cX9_whatIs 93 = .ok (.aload_n 0, 1) := by decide +kernel
theorem dX9_whatIs_94 : decode cX9_whatIs 94 = .ok (.iload_n 2, 1) := by decide +kernel
theorem dX9_whatIs_95 : decode cX9_whatIs 95 = .ok (.putfield 129, 3) := by decide +kernel
theorem dX9_whatIs_98 : decode cX9_whatIs 98 = .ok (.aload_n 0, 1) := by decide +kernel
theorem dX9_whatIs_99 : decode cX9_whatIs 99 = .ok (.iload_n 3, 1) := by decide +kernel
theorem dX9_whatIs_100 : decode cX9_whatIs 100 = .ok (.putfield 132, 3) := by decide +kernel
theorem dX9_whatIs_103 : decode cX9_whatIs 103 = .ok (.iload 4, 2) := by decide +kernel
theorem dX9_whatIs_105 : decode cX9_whatIs 105 = .ok (.ireturn, 1) := by decide +kernel
theorem dX9_row_0 : decode cX9_row 0 = .ok (.iload_n 1, 1) := by decide +kernel
theorem dX9_row_1 : decode cX9_row 1 = .ok (.iconst 0, 1) := by decide +kernel
theorem dX9_row_2 : decode cX9_row 2 = .ok (.bipush 99, 2) := by decide +kernel
theorem dX9_row_4 : decode cX9_row 4 = .ok (.invokestatic 217, 3) := by decide +kernel
theorem dX9_row_7 : decode cX9_row 7 = .ok (.istore_n 2, 1) := by decide +kernel
theorem dX9_row_8 : decode cX9_row 8 = .ok (.iload_n 2, 1) := by decide +kernel
theorem dX9_row_9 : decode cX9_row 9 = .ok (.ifCond .ne 15, 3) := by decide +kernel
theorem dX9_row_12 : decode cX9_row 12 = .ok (.aload_n 0, 1) := by decide +kernel
theorem dX9_row_13 : decode cX9_row 13 = .ok (.getfield 397, 3) := by decide +kernel
theorem dX9_row_16 : decode cX9_row 16 = .ok (.bipush 16, 2) := by decide +kernel
theorem dX9_row_18 : decode cX9_row 18 = .ok (.if_icmp .ne 6, 3) := by decide +kernel
theorem dX9_row_21 : decode cX9_row 21 = .ok (.bipush (-6), 2) := by decide +kernel
theorem dX9_row_23 : decode cX9_row 23 = .ok (.istore_n 2, 1) := by decide +kernel
theorem dX9_row_24 : decode cX9_row 24 = .ok (.iload_n 2, 1) := by decide +kernel
theorem dX9_row_25 : decode cX9_row 25 = .ok (.ifCond .eq 9, 3) := by decide +kernel
theorem dX9_row_28 : decode cX9_row 28 = .ok (.aload_n 0, 1) := by decide +kernel
theorem dX9_row_29 : decode cX9_row 29 = .ok (.iload_n 2, 1) := by decide +kernel
theorem dX9_row_30 : decode cX9_row 30 = .ok (.invokevirtual 224, 3) := by decide +kernel
theorem dX9_row_33 : decode cX9_row 33 = .ok (.ireturn, 1) := by decide +kernel
theorem dX9_row_34 : decode cX9_row 34 = .ok (.aload_n 0, 1) := by decide +kernel
theorem dX9_row_35 : decode cX9_row 35 = .ok (.getfield 95, 3) := by decide +kernel
theorem dX9_row_38 : decode cX9_row 38 = .ok (.aload_n 0, 1) := by decide +kernel
theorem dX9_row_39 : decode cX9_row 39 = .ok (.getfield 397, 3) := by decide +kernel
theorem dX9_row_42 : decode cX9_row 42 = .ok (.iload_n 1, 1) := by decide +kernel
theorem dX9_row_43 : decode cX9_row 43 = .ok (.iastore, 1) := by decide +kernel
theorem dX9_row_44 : decode cX9_row 44 = .ok (.aload_n 0, 1) := by decide +kernel
theorem dX9_row_45 : decode cX9_row 45 = .ok (.dup, 1) := by decide +kernel
theorem dX9_row_46 : decode cX9_row 46 = .ok (.getfield 397, 3) := by decide +kernel
theorem dX9_row_49 : decode cX9_row 49 = .ok (.iconst 1, 1) := by decide +kernel
theorem dX9_row_50 : decode cX9_row 50 = .ok (.iadd, 1) := by decide +kernel
theorem dX9_row_51 : decode cX9_row 51 = .ok (.putfield 397, 3) := by decide +kernel
theorem dX9_row_54 : decode cX9_row 54 = .ok (.aload_n 0, 1) := by decide +kernel
theorem dX9_row_55 : decode cX9_row 55 = .ok (.getfield 397, 3) := by decide +kernel
theorem dX9_row_58 : decode cX9_row 58 = .ok (.ireturn, 1) := by decide +kernel
theorem dX9_judge_0 : decode cX9_judge 0 = .ok (.aload_n 0, 1) := by decide +kernel
theorem dX9_judge_1 : decode cX9_judge 1 = .ok (.getfield 397, 3) := by decide +kernel
theorem dX9_judge_4 : decode cX9_judge 4 = .ok (.istore_n 1, 1) := by decide +kernel
theorem dX9_judge_5 : decode cX9_judge 5 = .ok (.aload_n 0, 1) := by decide +kernel
theorem dX9_judge_6 : decode cX9_judge 6 = .ok (.iconst 0, 1) := by decide +kernel
theorem dX9_judge_7 : decode cX9_judge 7 = .ok (.putfield 397, 3) := by decide +kernel
theorem dX9_judge_10 : decode cX9_judge 10 = .ok (.aload_n 0, 1) := by decide +kernel
theorem dX9_judge_11 : decode cX9_judge 11 = .ok (.invokevirtual 214, 3) := by decide +kernel
theorem dX9_judge_14 : decode cX9_judge 14 = .ok (.ifCond .ge 7, 3) := by decide +kernel
theorem dX9_judge_17 : decode cX9_judge 17 = .ok (.iconst 0, 1) := by decide +kernel
theorem dX9_judge_18 : decode cX9_judge 18 = .ok (.goto 7, 3) := by decide +kernel
theorem dX9_judge_21 : decode cX9_judge 21 = .ok (.aload_n 0, 1) := by decide +kernel
theorem dX9_judge_22 : decode cX9_judge 22 = .ok (.getfield 211, 3) := by decide +kernel
theorem dX9_judge_25 : decode cX9_judge 25 = .ok (.istore_n 2, 1) := by decide +kernel
theorem dX9_judge_26 : decode cX9_judge 26 = .ok (.iconst 0, 1) := by decide +kernel
theorem dX9_judge_27 : decode cX9_judge 27 = .ok (.istore_n 3, 1) := by decide +kernel
theorem dX9_judge_28 : decode cX9_judge 28 = .ok (.iload_n 3, 1) := by decide +kernel
theorem dX9_judge_29 : decode cX9_judge 29 = .ok (.iload_n 1, 1) := by decide +kernel
theorem dX9_judge_30 : decode cX9_judge 30 = .ok (.if_icmp .ge 31, 3) := by decide +kernel
theorem dX9_judge_33 : decode cX9_judge 33 = .ok (.iload_n 3, 1) := by decide +kernel
theorem dX9_judge_34 : decode cX9_judge 34 = .ok (.iload_n 2, 1) := by decide +kernel
theorem dX9_judge_35 : decode cX9_judge 35 = .ok (.if_icmp .ge 18, 3) := by decide +kernel
theorem dX9_judge_38 : decode cX9_judge 38 = .ok (.aload_n 0, 1) := by decide +kernel
theorem dX9_judge_39 : decode cX9_judge 39 = .ok (.getfield 56, 3) := by decide +kernel
theorem dX9_judge_42 : decode cX9_judge 42 = .ok (.iload_n 3, 1) := by decide +kernel
theorem dX9_judge_43 : decode cX9_judge 43 = .ok (.iaload, 1) := by decide +kernel
theorem dX9_judge_44 : decode cX9_judge 44 = .ok (.aload_n 0, 1) := by decide +kernel
theorem dX9_judge_45 : decode cX9_judge 45 = .ok (.getfield 95, 3) := by decide +kernel
theorem dX9_judge_48 : decode cX9_judge 48 = .ok (.iload_n 3, 1) := by decide +kernel
theorem dX9_judge_49 : decode cX9_judge 49 = .ok (.iaload, 1) := by decide +kernel
theorem dX9_judge_50 : decode cX9_judge 50 = .ok (.if_icmp .eq 5, 3) := by decide +kernel
theorem dX9_judge_53 : decode cX9_judge 53 = .ok (.iload_n 3, 1) := by decide +kernel
theorem dX9_judge_54 : decode cX9_judge 54 = .ok (.ireturn, 1) := by decide +kernel
theorem dX9_judge_55 : decode cX9_judge 55 = .ok (.iinc 3 1, 3) := by decide +kernel
theorem dX9_judge_58 : decode cX9_judge 58 = .ok (.goto (-30), 3) := by decide +kernel
theorem dX9_judge_61 : decode cX9_judge 61 = .ok (.iload_n 1, 1) := by decide +kernel
theorem dX9_judge_62 : decode cX9_judge 62 = .ok (.iload_n 2, 1) := by decide +kernel
theorem dX9_judge_63 : decode cX9_judge 63 = .ok (.if_icmp .ge 7, 3) := by decide +kernel
theorem dX9_judge_66 : decode cX9_judge 66 = .ok (.iload_n 1, 1) := by decide +kernel
theorem dX9_judge_67 : decode cX9_judge 67 = .ok (.goto 5, 3) := by decide +kernel
theorem dX9_judge_70 : decode cX9_judge 70 = .ok (.bipush (-9), 2) := by decide +kernel
theorem dX9_judge_72 : decode cX9_judge 72 = .ok (.ireturn, 1) := by decide +kernel
theorem dX9_clear_0 : decode cX9_clear 0 = .ok (.aload_n 0, 1) := by decide +kernel
theorem dX9_clear_1 : decode cX9_clear 1 = .ok (.getfield 397, 3) := by decide +kernel
theorem dX9_clear_4 : decode cX9_clear 4 = .ok (.istore_n 1, 1) := by decide +kernel
theorem dX9_clear_5 : decode cX9_clear 5 = .ok (.aload_n 0, 1) := by decide +kernel
theorem dX9_clear_6 : decode cX9_clear 6 = .ok (.iconst 0, 1) := by decide +kernel
theorem dX9_clear_7 : decode cX9_clear 7 = .ok (.putfield 397, 3) := by decide +kernel
theorem dX9_clear_10 : decode cX9_clear 10 = .ok (.iload_n 1, 1) := by decide +kernel
theorem dX9_clear_11 : decode cX9_clear 11 = .ok (.ireturn, 1) := by decide +kernel
theorem dX9_draw_0 : decode cX9_draw 0 = .ok (.aload_n 0, 1) := by decide +kernel
theorem dX9_draw_1 : decode cX9_draw 1 = .ok (.aload_n 0, 1) := by decide +kernel
theorem dX9_draw_2 : decode cX9_draw 2 = .ok (.getfield 403, 3) := by decide +kernel
theorem dX9_draw_5 : decode cX9_draw 5 = .ok (.ldc_w 406, 3) := by decide +kernel
theorem dX9_draw_8 : decode cX9_draw 8 = .ok (.imul, 1) := by decide +kernel
theorem dX9_draw_9 : decode cX9_draw 9 = .ok (.ldc_w 407, 3) := by decide +kernel
theorem dX9_draw_12 : decode cX9_draw 12 = .ok (.iadd, 1) := by decide +kernel
theorem dX9_draw_13 : decode cX9_draw 13 = .ok (.putfield 403, 3) := by decide +kernel
theorem dX9_draw_16 : decode cX9_draw 16 = .ok (.aload_n 0, 1) := by decide +kernel
theorem dX9_draw_17 : decode cX9_draw 17 = .ok (.getfield 403, 3) := by decide +kernel
theorem dX9_draw_20 : decode cX9_draw 20 = .ok (.ldc_w 408, 3) := by decide +kernel
theorem dX9_draw_23 : decode cX9_draw 23 = .ok (.iand, 1) := by decide +kernel
theorem dX9_draw_24 : decode cX9_draw 24 = .ok (.sipush 256, 3) := by decide +kernel
theorem dX9_draw_27 : decode cX9_draw 27 = .ok (.idiv, 1) := by decide +kernel
theorem dX9_draw_28 : decode cX9_draw 28 = .ok (.iload_n 1, 1) := by decide +kernel
theorem dX9_draw_29 : decode cX9_draw 29 = .ok (.irem, 1) := by decide +kernel
theorem dX9_draw_30 : decode cX9_draw 30 = .ok (.ireturn, 1) := by decide +kernel
theorem dX9_lots_0 : decode cX9_lots 0 = .ok (.iload_n 1, 1) := by decide +kernel
theorem dX9_lots_1 : decode cX9_lots 1 = .ok (.iconst 1, 1) := by decide +kernel
theorem dX9_lots_2 : decode cX9_lots 2 = .ok (.bipush 20, 2) := by decide +kernel
theorem dX9_lots_4 : decode cX9_lots 4 = .ok (.invokestatic 217, 3) := by decide +kernel
theorem dX9_lots_7 : decode cX9_lots 7 = .ok (.istore 4, 2) := by decide +kernel
theorem dX9_lots_9 : decode cX9_lots 9 = .ok (.iload 4, 2) := by decide +kernel
theorem dX9_lots_11 : decode cX9_lots 11 = .ok (.ifCond .ne 16, 3) := by decide +kernel
theorem dX9_lots_14 : decode cX9_lots 14 = .ok (.iload_n 3, 1) := by decide +kernel
theorem dX9_lots_15 : decode cX9_lots 15 = .ok (.iconst 0, 1) := by decide +kernel
theorem dX9_lots_16 : decode cX9_lots 16 = .ok (.iconst 1, 1) := by decide +kernel
theorem dX9_lots_17 : decode cX9_lots 17 = .ok (.invokestatic 125, 3) := by decide +kernel
theorem dX9_lots_20 : decode cX9_lots 20 = .ok (.ifCond .ne 7, 3) := by decide +kernel
theorem dX9_lots_23 : decode cX9_lots 23 = .ok (.bipush (-2), 2) := by decide +kernel
theorem dX9_lots_25 : decode cX9_lots 25 = .ok (.istore 4, 2) := by decide +kernel
theorem dX9_lots_27 : decode cX9_lots 27 = .ok (.iload 4, 2) := by decide +kernel
theorem dX9_lots_29 : decode cX9_lots 29 = .ok (.ifCond .eq 10, 3) := by decide +kernel
theorem dX9_lots_32 : decode cX9_lots 32 = .ok (.aload_n 0, 1) := by decide +kernel
theorem dX9_lots_33 : decode cX9_lots 33 = .ok (.iload 4, 2) := by decide +kernel
theorem dX9_lots_35 : decode cX9_lots 35 = .ok (.invokevirtual 224, 3) := by decide +kernel
theorem dX9_lots_38 : decode cX9_lots 38 = .ok (.ireturn, 1) := by decide +kernel
theorem dX9_lots_39 : decode cX9_lots 39 = .ok (.aload_n 0, 1) := by decide +kernel
theorem dX9_lots_40 : decode cX9_lots 40 = .ok (.iload_n 2, 1) := by decide +kernel
theorem dX9_lots_41 : decode cX9_lots 41 = .ok (.putfield 403, 3) := by decide +kernel
theorem dX9_lots_44 : decode cX9_lots 44 = .ok (.aload_n 0, 1) := by decide +kernel
theorem dX9_lots_45 : decode cX9_lots 45 = .ok (.getfield 98, 3) := by decide +kernel
theorem dX9_lots_48 : decode cX9_lots 48 = .ok (.istore 5, 2) := by decide +kernel
theorem dX9_lots_50 : decode cX9_lots 50 = .ok (.aload_n 0, 1) := by decide +kernel
theorem dX9_lots_51 : decode cX9_lots 51 = .ok (.getfield 111, 3) := by decide +kernel
theorem dX9_lots_54 : decode cX9_lots 54 = .ok (.istore 6, 2) := by decide +kernel
theorem dX9_lots_56 : decode cX9_lots 56 = .ok (.iconst 0, 1) := by decide +kernel
theorem dX9_lots_57 : decode cX9_lots 57 = .ok (.istore 7, 2) := by decide +kernel
theorem dX9_lots_59 : decode cX9_lots 59 = .ok (.iconst 0, 1) := by decide +kernel
theorem dX9_lots_60 : decode cX9_lots 60 = .ok (.istore 8, 2) := by decide +kernel
theorem dX9_lots_62 : decode cX9_lots 62 = .ok (.iload 8, 2) := by decide +kernel
theorem dX9_lots_64 : decode cX9_lots 64 = .ok (.iload_n 1, 1) := by decide +kernel
theorem dX9_lots_65 : decode cX9_lots 65 = .ok (.if_icmp .ge 76, 3) := by decide +kernel
theorem dX9_lots_68 : decode cX9_lots 68 = .ok (.aload_n 0, 1) := by decide +kernel
theorem dX9_lots_69 : decode cX9_lots 69 = .ok (.aload_n 0, 1) := by decide +kernel
theorem dX9_lots_70 : decode cX9_lots 70 = .ok (.bipush 41, 2) := by decide +kernel
theorem dX9_lots_72 : decode cX9_lots 72 = .ok (.invokevirtual 409, 3) := by decide +kernel
theorem dX9_lots_75 : decode cX9_lots 75 = .ok (.bipush 10, 2) := by decide +kernel
theorem dX9_lots_77 : decode cX9_lots 77 = .ok (.iadd, 1) := by decide +kernel
theorem dX9_lots_78 : decode cX9_lots 78 = .ok (.putfield 98, 3) := by decide +kernel
theorem dX9_lots_81 : decode cX9_lots 81 = .ok (.aload_n 0, 1) := by decide +kernel
theorem dX9_lots_82 : decode cX9_lots 82 = .ok (.aload_n 0, 1) := by decide +kernel
theorem dX9_lots_83 : decode cX9_lots 83 = .ok (.bipush 41, 2) := by decide +kernel
theorem dX9_lots_85 : decode cX9_lots 85 = .ok (.invokevirtual 409, 3) := by decide +kernel
theorem dX9_lots_88 : decode cX9_lots 88 = .ok (.putfield 111, 3) := by decide +kernel
theorem dX9_lots_91 : decode cX9_lots 91 = .ok (.aload_n 0, 1) := by decide +kernel
theorem dX9_lots_92 : decode cX9_lots 92 = .ok (.invokevirtual 214, 3) := by decide +kernel
theorem dX9_lots_95 : decode cX9_lots 95 = .ok (.istore 9, 2) := by decide +kernel
theorem dX9_lots_97 : decode cX9_lots 97 = .ok (.iload_n 3, 1) := by decide +kernel
theorem dX9_lots_98 : decode cX9_lots 98 = .ok (.ifCond .ne 22, 3) := by decide +kernel
theorem dX9_lots_101 : decode cX9_lots 101 = .ok (.iload 7, 2) := by decide +kernel
theorem dX9_lots_103 : decode cX9_lots 103 = .ok (.iload 9, 2) := by decide +kernel
theorem dX9_lots_105 : decode cX9_lots 105 = .ok (.ifCond .ge 7, 3) := by decide +kernel
theorem dX9_lots_108 : decode cX9_lots 108 = .ok (.iconst 0, 1) := by decide +kernel
theorem dX9_lots_109 : decode cX9_lots 109 = .ok (.goto 5, 3) := by decide +kernel
theorem dX9_lots_112 : decode cX9_lots 112 = .ok (.iload 9, 2) := by decide +kernel
theorem dX9_lots_114 : decode cX9_lots 114 = .ok (.iadd, 1) := by decide +kernel
theorem dX9_lots_115 : decode cX9_lots 115 = .ok (.istore 7, 2) := by decide +kernel
theorem dX9_lots_117 : decode cX9_lots 117 = .ok (.goto 18, 3) := by decide +kernel
theorem dX9_lots_120 : decode cX9_lots 120 = .ok (.iload 7, 2) := by decide +kernel
theorem dX9_lots_122 : decode cX9_lots 122 = .ok (.iload 9, 2) := by decide +kernel
theorem dX9_lots_124 : decode cX9_lots 124 = .ok (.ifCond .ge 7, 3) := by decide +kernel
theorem dX9_lots_127 : decode cX9_lots 127 = .ok (.iconst 1, 1) := by decide +kernel
theorem dX9_lots_128 : decode cX9_lots 128 = .ok (.goto 4, 3) := by decide +kernel
theorem dX9_lots_131 : decode cX9_lots 131 = .ok (.iconst 0, 1) := by decide +kernel
theorem dX9_lots_132 : decode cX9_lots 132 = .ok (.iadd, 1) := by decide +kernel
theorem dX9_lots_133 : decode cX9_lots 133 = .ok (.istore 7, 2) := by decide +kernel
theorem dX9_lots_135 : decode cX9_lots 135 = .ok (.iinc 8 1, 3) := by decide +kernel
theorem dX9_lots_138 : decode cX9_lots 138 = .ok (.goto (-76), 3) := by decide +kernel
theorem dX9_lots_141 : decode cX9_lots 141 = .ok (.aload_n 0, 1) := by decide +kernel
theorem dX9_lots_142 : decode cX9_lots 142 = .ok (.iload 5, 2) := by decide +kernel
theorem dX9_lots_144 : decode cX9_lots 144 = .ok (.putfield 98, 3) := by decide +kernel
theorem dX9_lots_147 : decode cX9_lots 147 = .ok (.aload_n 0, 1) := by decide +kernel
theorem dX9_lots_148 : decode cX9_lots 148 = .ok (.iload 6, 2) := by decide +kernel
theorem dX9_lots_150 : decode cX9_lots 150 = .ok (.putfield 111, 3) := by decide +kernel
theorem dX9_lots_153 : decode cX9_lots 153 = .ok (.iload 7, 2) := by decide +kernel
theorem dX9_lots_155 : decode cX9_lots 155 = .ok (.ireturn, 1) := by decide +kernel
theorem dX9_allLetters_0 : decode cX9_allLetters 0 = .ok (.iconst 0, 1) := by decide +kernel
theorem dX9_allLetters_1 : decode cX9_allLetters 1 = .ok (.istore_n 1, 1) := by decide +kernel
theorem dX9_allLetters_2 : decode cX9_allLetters 2 = .ok (.iconst 0, 1) := by decide +kernel
theorem dX9_allLetters_3 : decode cX9_allLetters 3 = .ok (.istore_n 2, 1) := by decide +kernel
theorem dX9_allLetters_4 : decode cX9_allLetters 4 = .ok (.iload_n 2, 1) := by decide +kernel
theorem dX9_allLetters_5 : decode cX9_allLetters 5 = .ok (.aload_n 0, 1) := by decide +kernel
theorem dX9_allLetters_6 : decode cX9_allLetters 6 = .ok (.getfield 122, 3) := by decide +kernel
theorem dX9_allLetters_9 : decode cX9_allLetters 9 = .ok (.if_icmp .ge 18, 3) := by decide +kernel
theorem dX9_allLetters_12 : decode cX9_allLetters 12 = .ok (.iload_n 1, 1) := by decide +kernel
theorem dX9_allLetters_13 : decode cX9_allLetters 13 = .ok (.aload_n 0, 1) := by decide +kernel
theorem dX9_allLetters_14 : decode cX9_allLetters 14 = .ok (.getfield 16, 3) := by decide +kernel
theorem dX9_allLetters_17 : decode cX9_allLetters 17 = .ok (.iload_n 2, 1) := by decide +kernel
theorem dX9_allLetters_18 : decode cX9_allLetters 18 = .ok (.iaload, 1) := by decide +kernel
theorem dX9_allLetters_19 : decode cX9_allLetters 19 = .ok (.iadd, 1) := by decide +kernel
theorem dX9_allLetters_20 : decode cX9_allLetters 20 = .ok (.istore_n 1, 1) := by decide +kernel
theorem dX9_allLetters_21 : decode cX9_allLetters 21 = .ok (.iinc 2 1, 3) := by decide +kernel
theorem dX9_allLetters_24 : decode cX9_allLetters 24 = .ok (.goto (-20), 3) := by decide +kernel
theorem dX9_allLetters_27 : decode cX9_allLetters 27 = .ok (.iload_n 1, 1) := by decide +kernel
theorem dX9_allLetters_28 : decode cX9_allLetters 28 = .ok (.ireturn, 1) := by decide +kernel
theorem dX9_count_0 : decode cX9_count 0 = .ok (.iload_n 1, 1) := by decide +kernel
theorem dX9_count_1 : decode cX9_count 1 = .ok (.bipush 11, 2) := by decide +kernel
theorem dX9_count_3 : decode cX9_count 3 = .ok (.bipush 16, 2) := by decide +kernel
theorem dX9_count_5 : decode cX9_count 5 = .ok (.invokestatic 125, 3) := by decide +kernel
theorem dX9_count_8 : decode cX9_count 8 = .ok (.ifCond .eq 13, 3) := by decide +kernel
theorem dX9_count_11 : decode cX9_count 11 = .ok (.aload_n 0, 1) := by decide +kernel
theorem dX9_count_12 : decode cX9_count 12 = .ok (.getfield 7, 3) := by decide +kernel
theorem dX9_count_15 : decode cX9_count 15 = .ok (.iload_n 1, 1) := by decide +kernel
theorem dX9_count_16 : decode cX9_count 16 = .ok (.bipush 10, 2) := by decide +kernel
theorem dX9_count_18 : decode cX9_count 18 = .ok (.isub, 1) := by decide +kernel
theorem dX9_count_19 : decode cX9_count 19 = .ok (.iaload, 1) := by decide +kernel
theorem dX9_count_20 : decode cX9_count 20 = .ok (.ireturn, 1) := by decide +kernel
theorem dX9_count_21 : decode cX9_count 21 = .ok (.iload_n 1, 1) := by decide +kernel
theorem dX9_count_22 : decode cX9_count 22 = .ok (.tableswitch 86 0 7 #[46, 51, 56, 61, 66, 71, 76, 81], 46) := by decide +kernel
theorem dX9_count_68 : decode cX9_count 68 = .ok (.aload_n 0, 1) := by decide +kernel
theorem dX9_count_69 : decode cX9_count 69 = .ok (.getfield 122, 3) := by decide +kernel
theorem dX9_count_72 : decode cX9_count 72 = .ok (.ireturn, 1) := by decide +kernel
theorem dX9_count_73 : decode cX9_count 73 = .ok (.aload_n 0, 1) := by decide +kernel
theorem dX9_count_74 : decode cX9_count 74 = .ok (.getfield 135, 3) := by decide +kernel
theorem dX9_count_77 : decode cX9_count 77 = .ok (.ireturn, 1) := by decide +kernel
theorem dX9_count_78 : decode cX9_count 78 = .ok (.aload_n 0, 1) := by decide +kernel
theorem dX9_count_79 : decode cX9_count 79 = .ok (.invokevirtual 412, 3) := by decide +kernel
theorem dX9_count_82 : decode cX9_count 82 = .ok (.ireturn, 1) := by decide +kernel
theorem dX9_count_83 : decode cX9_count 83 = .ok (.aload_n 0, 1) := by decide +kernel
theorem dX9_count_84 : decode cX9_count 84 = .ok (.getfield 98, 3) := by decide +kernel
theorem dX9_count_87 : decode cX9_count 87 = .ok (.ireturn, 1) := by decide +kernel
theorem dX9_count_88 : decode cX9_count 88 = .ok (.aload_n 0, 1) := by decide +kernel
theorem dX9_count_89 : decode cX9_count 89 = .ok (.getfield 129, 3) := by decide +kernel
theorem dX9_count_92 : decode cX9_count 92 = .ok (.ireturn, 1) := by decide +kernel
theorem dX9_count_93 : decode cX9_count 93 = .ok (.aload_n 0, 1) := by decide +kernel
theorem dX9_count_94 : decode cX9_count 94 = .ok (.getfield 288, 3) := by decide +kernel
theorem dX9_count_97 : decode cX9_count 97 = .ok (.ireturn, 1) := by decide +kernel
theorem dX9_count_98 : decode cX9_count 98 = .ok (.aload_n 0, 1) := by decide +kernel
theorem dX9_count_99 : decode cX9_count 99 = .ok (.getfield 397, 3) := by decide +kernel
theorem dX9_count_102 : decode cX9_count 102 = .ok (.ireturn, 1) := by decide +kernel
theorem dX9_count_103 : decode cX9_count 103 = .ok (.aload_n 0, 1) := by decide +kernel
theorem dX9_count_104 : decode cX9_count 104 = .ok (.getfield 221, 3) := by decide +kernel
theorem dX9_count_107 : decode cX9_count 107 = .ok (.ireturn, 1) := by decide +kernel
theorem dX9_count_108 : decode cX9_count 108 = .ok (.bipush (-9), 2) := by decide +kernel
theorem dX9_count_110 : decode cX9_count 110 = .ok (.ireturn, 1) := by decide +kernel
theorem dJxf58ca_isNaN_12338_0 : decode cJxf58ca_isNaN_12338 0 = .ok (.fload_n 0, 1) := by decide +kernel
theorem dJxf58ca_isNaN_12338_1 : decode cJxf58ca_isNaN_12338 1 = .ok (.fload_n 0, 1) := by decide +kernel
theorem dJxf58ca_isNaN_12338_2 : decode cJxf58ca_isNaN_12338 2 = .ok (.fcmp .l, 1) := by decide +kernel
theorem dJxf58ca_isNaN_12338_3 : decode cJxf58ca_isNaN_12338 3 = .ok (.ifCond .eq 7, 3) := by decide +kernel
theorem dJxf58ca_isNaN_12338_6 : decode cJxf58ca_isNaN_12338 6 = .ok (.iconst 1, 1) := by decide +kernel
theorem dJxf58ca_isNaN_12338_7 : decode cJxf58ca_isNaN_12338 7 = .ok (.goto 4, 3) := by decide +kernel
theorem dJxf58ca_isNaN_12338_10 : decode cJxf58ca_isNaN_12338 10 = .ok (.iconst 0, 1) := by decide +kernel
theorem dJxf58ca_isNaN_12338_11 : decode cJxf58ca_isNaN_12338 11 = .ok (.ireturn, 1) := by decide +kernel
theorem dJxf58ca_floatToIntBits_5c35a_0 : decode cJxf58ca_floatToIntBits_5c35a 0 = .ok (.fload_n 0, 1) := by decide +kernel
theorem dJxf58ca_floatToIntBits_5c35a_1 : decode cJxf58ca_floatToIntBits_5c35a 1 = .ok (.invokestatic 59, 3) := by decide +kernel
theorem dJxf58ca_floatToIntBits_5c35a_4 : decode cJxf58ca_floatToIntBits_5c35a 4 = .ok (.ifCond .ne 8, 3) := by decide +kernel
theorem dJxf58ca_floatToIntBits_5c35a_7 : decode cJxf58ca_floatToIntBits_5c35a 7 = .ok (.fload_n 0, 1) := by decide +kernel
theorem dJxf58ca_floatToIntBits_5c35a_8 : decode cJxf58ca_floatToIntBits_5c35a 8 = .ok (.invokestatic 74, 3) := by decide +kernel
theorem dJxf58ca_floatToIntBits_5c35a_11 : decode cJxf58ca_floatToIntBits_5c35a 11 = .ok (.ireturn, 1) := by decide +kernel
theorem dJxf58ca_floatToIntBits_5c35a_12 : decode cJxf58ca_floatToIntBits_5c35a 12 = .ok (.ldc 77, 2) := by decide +kernel
theorem dJxf58ca_floatToIntBits_5c35a_14 : decode cJxf58ca_floatToIntBits_5c35a 14 = .ok (.ireturn, 1) := by decide +kernel
theorem dJ6_bitCount_0f7a4_0 : decode cJ6_bitCount_0f7a4 0 = .ok (.iload_n 0, 1) := by decide +kernel
theorem dJ6_bitCount_0f7a4_1 : decode cJ6_bitCount_0f7a4 1 = .ok (.iload_n 0, 1) := by decide +kernel
theorem dJ6_bitCount_0f7a4_2 : decode cJ6_bitCount_0f7a4 2 = .ok (.iconst 1, 1) := by decide +kernel
theorem dJ6_bitCount_0f7a4_3 : decode cJ6_bitCount_0f7a4 3 = .ok (.iushr, 1) := by decide +kernel
theorem dJ6_bitCount_0f7a4_4 : decode cJ6_bitCount_0f7a4 4 = .ok (.ldc_w 265, 3) := by decide +kernel
theorem dJ6_bitCount_0f7a4_7 : decode cJ6_bitCount_0f7a4 7 = .ok (.iand, 1) := by decide +kernel
theorem dJ6_bitCount_0f7a4_8 : decode cJ6_bitCount_0f7a4 8 = .ok (.isub, 1) := by decide +kernel
theorem dJ6_bitCount_0f7a4_9 : decode cJ6_bitCount_0f7a4 9 = .ok (.istore_n 0, 1) := by decide +kernel
theorem dJ6_bitCount_0f7a4_10 : decode cJ6_bitCount_0f7a4 10 = .ok (.iload_n 0, 1) := by decide +kernel
theorem dJ6_bitCount_0f7a4_11 : decode cJ6_bitCount_0f7a4 11 = .ok (.ldc_w 266, 3) := by decide +kernel
theorem dJ6_bitCount_0f7a4_14 : decode cJ6_bitCount_0f7a4 14 = .ok (.iand, 1) := by decide +kernel
theorem dJ6_bitCount_0f7a4_15 : decode cJ6_bitCount_0f7a4 15 = .ok (.iload_n 0, 1) := by decide +kernel
theorem dJ6_bitCount_0f7a4_16 : decode cJ6_bitCount_0f7a4 16 = .ok (.iconst 2, 1) := by decide +kernel
theorem dJ6_bitCount_0f7a4_17 : decode cJ6_bitCount_0f7a4 17 = .ok (.iushr, 1) := by decide +kernel
theorem dJ6_bitCount_0f7a4_18 : decode cJ6_bitCount_0f7a4 18 = .ok (.ldc_w 266, 3) := by decide +kernel
theorem dJ6_bitCount_0f7a4_21 : decode cJ6_bitCount_0f7a4 21 = .ok (.iand, 1) := by decide +kernel
theorem dJ6_bitCount_0f7a4_22 : decode cJ6_bitCount_0f7a4 22 = .ok (.iadd, 1) := by decide +kernel
theorem dJ6_bitCount_0f7a4_23 : decode cJ6_bitCount_0f7a4 23 = .ok (.istore_n 0, 1) := by decide +kernel
theorem dJ6_bitCount_0f7a4_24 : decode cJ6_bitCount_0f7a4 24 = .ok (.iload_n 0, 1) := by decide +kernel
theorem dJ6_bitCount_0f7a4_25 : decode cJ6_bitCount_0f7a4 25 = .ok (.iload_n 0, 1) := by decide +kernel
theorem dJ6_bitCount_0f7a4_26 : decode cJ6_bitCount_0f7a4 26 = .ok (.iconst 4, 1) := by decide +kernel
theorem dJ6_bitCount_0f7a4_27 : decode cJ6_bitCount_0f7a4 27 = .ok (.iushr, 1) := by decide +kernel
theorem dJ6_bitCount_0f7a4_28 : decode cJ6_bitCount_0f7a4 28 = .ok (.iadd, 1) := by decide +kernel
theorem dJ6_bitCount_0f7a4_29 : decode cJ6_bitCount_0f7a4 29 = .ok (.ldc_w 267, 3) := by decide +kernel
theorem dJ6_bitCount_0f7a4_32 : decode cJ6_bitCount_0f7a4 32 = .ok (.iand, 1) := by decide +kernel
theorem dJ6_bitCount_0f7a4_33 : decode cJ6_bitCount_0f7a4 33 = .ok (.istore_n 0, 1) := by decide +kernel
theorem dJ6_bitCount_0f7a4_34 : decode cJ6_bitCount_0f7a4 34 = .ok (.iload_n 0, 1) := by decide +kernel
theorem dJ6_bitCount_0f7a4_35 : decode cJ6_bitCount_0f7a4 35 = .ok (.iload_n 0, 1) := by decide +kernel
theorem dJ6_bitCount_0f7a4_36 : decode cJ6_bitCount_0f7a4 36 = .ok (.bipush 8, 2) := by decide +kernel
theorem dJ6_bitCount_0f7a4_38 : decode cJ6_bitCount_0f7a4 38 = .ok (.iushr, 1) := by decide +kernel
theorem dJ6_bitCount_0f7a4_39 : decode cJ6_bitCount_0f7a4 39 = .ok (.iadd, 1) := by decide +kernel
theorem dJ6_bitCount_0f7a4_40 : decode cJ6_bitCount_0f7a4 40 = .ok (.istore_n 0, 1) := by decide +kernel
theorem dJ6_bitCount_0f7a4_41 : decode cJ6_bitCount_0f7a4 41 = .ok (.iload_n 0, 1) := by decide +kernel
theorem dJ6_bitCount_0f7a4_42 : decode cJ6_bitCount_0f7a4 42 = .ok (.iload_n 0, 1) := by decide +kernel
theorem dJ6_bitCount_0f7a4_43 : decode cJ6_bitCount_0f7a4 43 = .ok (.bipush 16, 2) := by decide +kernel
theorem dJ6_bitCount_0f7a4_45 : decode cJ6_bitCount_0f7a4 45 = .ok (.iushr, 1) := by decide +kernel
theorem dJ6_bitCount_0f7a4_46 : decode cJ6_bitCount_0f7a4 46 = .ok (.iadd, 1) := by decide +kernel
theorem dJ6_bitCount_0f7a4_47 : decode cJ6_bitCount_0f7a4 47 = .ok (.istore_n 0, 1) := by decide +kernel
theorem dJ6_bitCount_0f7a4_48 : decode cJ6_bitCount_0f7a4 48 = .ok (.iload_n 0, 1) := by decide +kernel
theorem dJ6_bitCount_0f7a4_49 : decode cJ6_bitCount_0f7a4 49 = .ok (.bipush 63, 2) := by decide +kernel
theorem dJ6_bitCount_0f7a4_51 : decode cJ6_bitCount_0f7a4 51 = .ok (.iand, 1) := by decide +kernel
theorem dJ6_bitCount_0f7a4_52 : decode cJ6_bitCount_0f7a4 52 = .ok (.ireturn, 1) := by decide +kernel
theorem dJ9_max_7cf53_0 : decode cJ9_max_7cf53 0 = .ok (.iload_n 0, 1) := by decide +kernel
theorem dJ9_max_7cf53_1 : decode cJ9_max_7cf53 1 = .ok (.iload_n 1, 1) := by decide +kernel
theorem dJ9_max_7cf53_2 : decode cJ9_max_7cf53 2 = .ok (.if_icmp .lt 7, 3) := by decide +kernel
theorem dJ9_max_7cf53_5 : decode cJ9_max_7cf53 5 = .ok (.iload_n 0, 1) := by decide +kernel
theorem dJ9_max_7cf53_6 : decode cJ9_max_7cf53 6 = .ok (.goto 4, 3) := by decide +kernel
theorem dJ9_max_7cf53_9 : decode cJ9_max_7cf53 9 = .ok (.iload_n 1, 1) := by decide +kernel
theorem dJ9_max_7cf53_10 : decode cJ9_max_7cf53 10 = .ok (.ireturn, 1) := by decide +kernel
theorem dJ9_min_7cf53_0 : decode cJ9_min_7cf53 0 = .ok (.iload_n 0, 1) := by decide +kernel
theorem dJ9_min_7cf53_1 : decode cJ9_min_7cf53 1 = .ok (.iload_n 1, 1) := by decide +kernel
theorem dJ9_min_7cf53_2 : decode cJ9_min_7cf53 2 = .ok (.if_icmp .gt 7, 3) := by decide +kernel
theorem dJ9_min_7cf53_5 : decode cJ9_min_7cf53 5 = .ok (.iload_n 0, 1) := by decide +kernel
theorem dJ9_min_7cf53_6 : decode cJ9_min_7cf53 6 = .ok (.goto 4, 3) := by decide +kernel
theorem dJ9_min_7cf53_9 : decode cJ9_min_7cf53 9 = .ok (.iload_n 1, 1) := by decide +kernel
theorem dJ9_min_7cf53_10 : decode cJ9_min_7cf53 10 = .ok (.ireturn, 1) := by decide +kernel
theorem dJ7_fill_e525d_0 : decode cJ7_fill_e525d 0 = .ok (.iconst 0, 1) := by decide +kernel
theorem dJ7_fill_e525d_1 : decode cJ7_fill_e525d 1 = .ok (.istore_n 2, 1) := by decide +kernel
theorem dJ7_fill_e525d_2 : decode cJ7_fill_e525d 2 = .ok (.aload_n 0, 1) := by decide +kernel
theorem dJ7_fill_e525d_3 : decode cJ7_fill_e525d 3 = .ok (.arraylength, 1) := by decide +kernel
theorem dJ7_fill_e525d_4 : decode cJ7_fill_e525d 4 = .ok (.istore_n 3, 1) := by decide +kernel
theorem dJ7_fill_e525d_5 : decode cJ7_fill_e525d 5 = .ok (.iload_n 2, 1) := by decide +kernel
theorem dJ7_fill_e525d_6 : decode cJ7_fill_e525d 6 = .ok (.iload_n 3, 1) := by decide +kernel
theorem dJ7_fill_e525d_7 : decode cJ7_fill_e525d 7 = .ok (.if_icmp .ge 13, 3) := by decide +kernel
theorem dJ7_fill_e525d_10 : decode cJ7_fill_e525d 10 = .ok (.aload_n 0, 1) := by decide +kernel
theorem dJ7_fill_e525d_11 : decode cJ7_fill_e525d 11 = .ok (.iload_n 2, 1) := by decide +kernel
theorem dJ7_fill_e525d_12 : decode cJ7_fill_e525d 12 = .ok (.fload_n 1, 1) := by decide +kernel
theorem dJ7_fill_e525d_13 : decode cJ7_fill_e525d 13 = .ok (.fastore, 1) := by decide +kernel
theorem dJ7_fill_e525d_14 : decode cJ7_fill_e525d 14 = .ok (.iinc 2 1, 3) := by decide +kernel
theorem dJ7_fill_e525d_17 : decode cJ7_fill_e525d 17 = .ok (.goto (-12), 3) := by decide +kernel
theorem dJ7_fill_e525d_20 : decode cJ7_fill_e525d 20 = .ok (.return_, 1) := by decide +kernel
theorem dL_law_0 : decode cL_law 0 = .ok (.new 7, 3) := by decide +kernel
theorem dL_law_3 : decode cL_law 3 = .ok (.dup, 1) := by decide +kernel
theorem dL_law_4 : decode cL_law 4 = .ok (.invokespecial 9, 3) := by decide +kernel
theorem dL_law_7 : decode cL_law 7 = .ok (.astore_n 1, 1) := by decide +kernel
theorem dL_law_8 : decode cL_law 8 = .ok (.new 10, 3) := by decide +kernel
theorem dL_law_11 : decode cL_law 11 = .ok (.dup, 1) := by decide +kernel
theorem dL_law_12 : decode cL_law 12 = .ok (.invokespecial 12, 3) := by decide +kernel
theorem dL_law_15 : decode cL_law 15 = .ok (.astore_n 2, 1) := by decide +kernel
theorem dL_law_16 : decode cL_law 16 = .ok (.iconst 0, 1) := by decide +kernel
theorem dL_law_17 : decode cL_law 17 = .ok (.istore_n 3, 1) := by decide +kernel
theorem dL_law_18 : decode cL_law 18 = .ok (.iload_n 3, 1) := by decide +kernel
theorem dL_law_19 : decode cL_law 19 = .ok (.aload_n 0, 1) := by decide +kernel
theorem dL_law_20 : decode cL_law 20 = .ok (.arraylength, 1) := by decide +kernel
theorem dL_law_21 : decode cL_law 21 = .ok (.iconst 5, 1) := by decide +kernel
theorem dL_law_22 : decode cL_law 22 = .ok (.isub, 1) := by decide +kernel
theorem dL_law_23 : decode cL_law 23 = .ok (.if_icmp .gt 1277, 3) := by decide +kernel
theorem dL_law_26 : decode cL_law 26 = .ok (.aload_n 0, 1) := by decide +kernel
theorem dL_law_27 : decode cL_law 27 = .ok (.iload_n 3, 1) := by decide +kernel
theorem dL_law_28 : decode cL_law 28 = .ok (.iaload, 1) := by decide +kernel
theorem dL_law_29 : decode cL_law 29 = .ok (.bipush 63, 2) := by decide +kernel
theorem dL_law_31 : decode cL_law 31 = .ok (.iand, 1) := by decide +kernel
theorem dL_law_32 : decode cL_law 32 = .ok (.tableswitch 1262 0 41 #[184, 207, 220, 253, 296, 319, 342, 395, 418, 461, 484, 507, 530, 553, 586, 599, 632, 665, 698, 731, 754, 787, 810, 833, 856, 879, 892, 915, 938, 971, 984, 997, 1030, 1074, 1098, 1121, 1144, 1157, 1170, 1213, 1226, 1239], 184) := by decide +kernel
theorem dL_law_216 : decode cL_law 216 = .ok (.aload_n 1, 1) := by decide +kernel
theorem dL_law_217 : decode cL_law 217 = .ok (.aload_n 0, 1) := by decide +kernel
theorem dL_law_218 : decode cL_law 218 = .ok (.iload_n 3, 1) := by decide +kernel
theorem dL_law_219 : decode cL_law 219 = .ok (.iconst 1, 1) := by decide +kernel
theorem dL_law_220 : decode cL_law 220 = .ok (.iadd, 1) := by decide +kernel
theorem dL_law_221 : decode cL_law 221 = .ok (.iaload, 1) := by decide +kernel
theorem dL_law_222 : decode cL_law 222 = .ok (.invokevirtual 13, 3) := by decide +kernel
theorem dL_law_225 : decode cL_law 225 = .ok (.aload_n 2, 1) := by decide +kernel
theorem dL_law_226 : decode cL_law 226 = .ok (.aload_n 0, 1) := by decide +kernel
theorem dL_law_227 : decode cL_law 227 = .ok (.iload_n 3, 1) := by decide +kernel
theorem dL_law_228 : decode cL_law 228 = .ok (.iconst 1, 1) := by decide +kernel
theorem dL_law_229 : decode cL_law 229 = .ok (.iadd, 1) := by decide +kernel
theorem dL_law_230 : decode cL_law 230 = .ok (.iaload, 1) := by decide +kernel
theorem dL_law_231 : decode cL_law 231 = .ok (.invokevirtual 17, 3) := by decide +kernel
theorem dL_law_234 : decode cL_law 234 = .ok (.if_icmp .eq 1060, 3) := by decide +kernel
theorem dL_law_237 : decode cL_law 237 = .ok (.iconst 0, 1) := by decide +kernel
theorem dL_law_238 : decode cL_law 238 = .ok (.ireturn, 1) := by decide +kernel
theorem dL_law_239 : decode cL_law 239 = .ok (.aload_n 1, 1) := by decide +kernel
theorem dL_law_240 : decode cL_law 240 = .ok (.invokevirtual 18, 3) := by decide +kernel
theorem dL_law_243 : decode cL_law 243 = .ok (.aload_n 2, 1) := by decide +kernel
theorem dL_law_244 : decode cL_law 244 = .ok (.invokevirtual 22, 3) := by decide +kernel
theorem dL_law_247 : decode cL_law 247 = .ok (.if_icmp .eq 1047, 3) := by decide +kernel
theorem dL_law_250 : decode cL_law 250 = .ok (.iconst 0, 1) := by decide +kernel
theorem dL_law_251 : decode cL_law 251 = .ok (.ireturn, 1) := by decide +kernel
theorem dL_law_252 : decode cL_law 252 = .ok (.aload_n 1, 1) := by decide +kernel
theorem dL_law_253 : decode cL_law 253 = .ok (.aload_n 0, 1) := by decide +kernel
theorem dL_law_254 : decode cL_law 254 = .ok (.iload_n 3, 1) := by decide +kernel
theorem dL_law_255 : decode cL_law 255 = .ok (.iconst 1, 1) := by decide +kernel
theorem dL_law_256 : decode cL_law 256 = .ok (.iadd, 1) := by decide +kernel
theorem dL_law_257 : decode cL_law 257 = .ok (.iaload, 1) := by decide +kernel
theorem dL_law_258 : decode cL_law 258 = .ok (.aload_n 0, 1) := by decide +kernel
theorem dL_law_259 : decode cL_law 259 = .ok (.iload_n 3, 1) := by decide +kernel
theorem dL_law_260 : decode cL_law 260 = .ok (.iconst 2, 1) := by decide +kernel
theorem dL_law_261 : decode cL_law 261 = .ok (.iadd, 1) := by decide +kernel
theorem dL_law_262 : decode cL_law 262 = .ok (.iaload, 1) := by decide +kernel
theorem dL_law_263 : decode cL_law 263 = .ok (.invokevirtual 23, 3) := by decide +kernel
theorem dL_law_266 : decode cL_law 266 = .ok (.aload_n 2, 1) := by decide +kernel
theorem dL_law_267 : decode cL_law 267 = .ok (.aload_n 0, 1) := by decide +kernel
theorem dL_law_268 : decode cL_law 268 = .ok (.iload_n 3, 1) := by decide +kernel
theorem dL_law_269 : decode cL_law 269 = .ok (.iconst 1, 1) := by decide +kernel
theorem dL_law_270 : decode cL_law 270 = .ok (.iadd, 1) := by decide +kernel
theorem dL_law_271 : decode cL_law 271 = .ok (.iaload, 1) := by decide +kernel
theorem dL_law_272 : decode cL_law 272 = .ok (.aload_n 0, 1) := by decide +kernel
theorem dL_law_273 : decode cL_law 273 = .ok (.iload_n 3, 1) := by decide +kernel
theorem dL_law_274 : decode cL_law 274 = .ok (.iconst 2, 1) := by decide +kernel
theorem dL_law_275 : decode cL_law 275 = .ok (.iadd, 1) := by decide +kernel
theorem dL_law_276 : decode cL_law 276 = .ok (.iaload, 1) := by decide +kernel
theorem dL_law_277 : decode cL_law 277 = .ok (.invokevirtual 27, 3) := by decide +kernel
theorem dL_law_280 : decode cL_law 280 = .ok (.if_icmp .eq 1014, 3) := by decide +kernel
theorem dL_law_283 : decode cL_law 283 = .ok (.iconst 0, 1) := by decide +kernel
theorem dL_law_284 : decode cL_law 284 = .ok (.ireturn, 1) := by decide +kernel
theorem dL_law_285 : decode cL_law 285 = .ok (.aload_n 1, 1) := by decide +kernel
theorem dL_law_286 : decode cL_law 286 = .ok (.aload_n 0, 1) := by decide +kernel
theorem dL_law_287 : decode cL_law 287 = .ok (.iload_n 3, 1) := by decide +kernel
theorem dL_law_288 : decode cL_law 288 = .ok (.iconst 1, 1) := by decide +kernel
theorem dL_law_289 : decode cL_law 289 = .ok (.iadd, 1) := by decide +kernel
theorem dL_law_290 : decode cL_law 290 = .ok (.iaload, 1) := by decide +kernel
theorem dL_law_291 : decode cL_law 291 = .ok (.aload_n 0, 1) := by decide +kernel
theorem dL_law_292 : decode cL_law 292 = .ok (.iload_n 3, 1) := by decide +kernel
theorem dL_law_293 : decode cL_law 293 = .ok (.iconst 2, 1) := by decide +kernel
theorem dL_law_294 : decode cL_law 294 = .ok (.iadd, 1) := by decide +kernel
theorem dL_law_295 : decode cL_law 295 = .ok (.iaload, 1) := by decide +kernel
theorem dL_law_296 : decode cL_law 296 = .ok (.aload_n 0, 1) := by decide +kernel
theorem dL_law_297 : decode cL_law 297 = .ok (.iload_n 3, 1) := by decide +kernel
theorem dL_law_298 : decode cL_law 298 = .ok (.iconst 3, 1) := by decide +kernel
theorem dL_law_299 : decode cL_law 299 = .ok (.iadd, 1) := by decide +kernel
theorem dL_law_300 : decode cL_law 300 = .ok (.iaload, 1) := by decide +kernel
theorem dL_law_301 : decode cL_law 301 = .ok (.invokevirtual 28, 3) := by decide +kernel
theorem dL_law_304 : decode cL_law 304 = .ok (.aload_n 2, 1) := by decide +kernel
theorem dL_law_305 : decode cL_law 305 = .ok (.aload_n 0, 1) := by decide +kernel
theorem dL_law_306 : decode cL_law 306 = .ok (.iload_n 3, 1) := by decide +kernel
theorem dL_law_307 : decode cL_law 307 = .ok (.iconst 1, 1) := by decide +kernel
theorem dL_law_308 : decode cL_law 308 = .ok (.iadd, 1) := by decide +kernel
theorem dL_law_309 : decode cL_law 309 = .ok (.iaload, 1) := by decide +kernel
theorem dL_law_310 : decode cL_law 310 = .ok (.aload_n 0, 1) := by decide +kernel
theorem dL_law_311 : decode cL_law 311 = .ok (.iload_n 3, 1) := by decide +kernel
theorem dL_law_312 : decode cL_law 312 = .ok (.iconst 2, 1) := by decide +kernel
theorem dL_law_313 : decode cL_law 313 = .ok (.iadd, 1) := by decide +kernel
theorem dL_law_314 : decode cL_law 314 = .ok (.iaload, 1) := by decide +kernel
theorem dL_law_315 : decode cL_law 315 = .ok (.aload_n 0, 1) := by decide +kernel
theorem dL_law_316 : decode cL_law 316 = .ok (.iload_n 3, 1) := by decide +kernel
theorem dL_law_317 : decode cL_law 317 = .ok (.iconst 3, 1) := by decide +kernel
theorem dL_law_318 : decode cL_law 318 = .ok (.iadd, 1) := by decide +kernel
theorem dL_law_319 : decode cL_law 319 = .ok (.iaload, 1) := by decide +kernel
theorem dL_law_320 : decode cL_law 320 = .ok (.invokevirtual 32, 3) := by decide +kernel
theorem dL_law_323 : decode cL_law 323 = .ok (.if_icmp .eq 971, 3) := by decide +kernel
theorem dL_law_326 : decode cL_law 326 = .ok (.iconst 0, 1) := by decide +kernel
theorem dL_law_327 : decode cL_law 327 = .ok (.ireturn, 1) := by decide +kernel
theorem dL_law_328 : decode cL_law 328 = .ok (.aload_n 1, 1) := by decide +kernel
theorem dL_law_329 : decode cL_law 329 = .ok (.aload_n 0, 1) := by decide +kernel
theorem dL_law_330 : decode cL_law 330 = .ok (.iload_n 3, 1) := by decide +kernel
theorem dL_law_331 : decode cL_law 331 = .ok (.iconst 1, 1) := by decide +kernel
theorem dL_law_332 : decode cL_law 332 = .ok (.iadd, 1) := by decide +kernel
theorem dL_law_333 : decode cL_law 333 = .ok (.iaload, 1) := by decide +kernel
theorem dL_law_334 : decode cL_law 334 = .ok (.invokevirtual 33, 3) := by decide +kernel
theorem dL_law_337 : decode cL_law 337 = .ok (.aload_n 2, 1) := by decide +kernel
theorem dL_law_338 : decode cL_law 338 = .ok (.aload_n 0, 1) := by decide +kernel
theorem dL_law_339 : decode cL_law 339 = .ok (.iload_n 3, 1) := by decide +kernel
theorem dL_law_340 : decode cL_law 340 = .ok (.iconst 1, 1) := by decide +kernel
theorem dL_law_341 : decode cL_law 341 = .ok (.iadd, 1) := by decide +kernel
theorem dL_law_342 : decode cL_law 342 = .ok (.iaload, 1) := by decide +kernel
theorem dL_law_343 : decode cL_law 343 = .ok (.invokevirtual 36, 3) := by decide +kernel
theorem dL_law_346 : decode cL_law 346 = .ok (.if_icmp .eq 948, 3) := by decide +kernel
theorem dL_law_349 : decode cL_law 349 = .ok (.iconst 0, 1) := by decide +kernel
theorem dL_law_350 : decode cL_law 350 = .ok (.ireturn, 1) := by decide +kernel
theorem dL_law_351 : decode cL_law 351 = .ok (.aload_n 1, 1) := by decide +kernel
theorem dL_law_352 : decode cL_law 352 = .ok (.aload_n 0, 1) := by decide +kernel
theorem dL_law_353 : decode cL_law 353 = .ok (.iload_n 3, 1) := by decide +kernel
theorem dL_law_354 : decode cL_law 354 = .ok (.iconst 1, 1) := by decide +kernel
theorem dL_law_355 : decode cL_law 355 = .ok (.iadd, 1) := by decide +kernel
theorem dL_law_356 : decode cL_law 356 = .ok (.iaload, 1) := by decide +kernel
theorem dL_law_357 : decode cL_law 357 = .ok (.invokevirtual 37, 3) := by decide +kernel
theorem dL_law_360 : decode cL_law 360 = .ok (.aload_n 2, 1) := by decide +kernel
theorem dL_law_361 : decode cL_law 361 = .ok (.aload_n 0, 1) := by decide +kernel
theorem dL_law_362 : decode cL_law 362 = .ok (.iload_n 3, 1) := by decide +kernel
theorem dL_law_363 : decode cL_law 363 = .ok (.iconst 1, 1) := by decide +kernel
theorem dL_law_364 : decode cL_law 364 = .ok (.iadd, 1) := by decide +kernel
theorem dL_law_365 : decode cL_law 365 = .ok (.iaload, 1) := by decide +kernel
theorem dL_law_366 : decode cL_law 366 = .ok (.invokevirtual 40, 3) := by decide +kernel
theorem dL_law_369 : decode cL_law 369 = .ok (.if_icmp .eq 925, 3) := by decide +kernel
theorem dL_law_372 : decode cL_law 372 = .ok (.iconst 0, 1) := by decide +kernel
theorem dL_law_373 : decode cL_law 373 = .ok (.ireturn, 1) := by decide +kernel
theorem dL_law_374 : decode cL_law 374 = .ok (.aload_n 1, 1) := by decide +kernel
theorem dL_law_375 : decode cL_law 375 = .ok (.aload_n 0, 1) := by decide +kernel
theorem dL_law_376 : decode cL_law 376 = .ok (.iload_n 3, 1) := by decide +kernel
theorem dL_law_377 : decode cL_law 377 = .ok (.iconst 1, 1) := by decide +kernel
theorem dL_law_378 : decode cL_law 378 = .ok (.iadd, 1) := by decide +kernel
theorem dL_law_379 : decode cL_law 379 = .ok (.iaload, 1) := by decide +kernel
theorem dL_law_380 : decode cL_law 380 = .ok (.aload_n 0, 1) := by decide +kernel
theorem dL_law_381 : decode cL_law 381 = .ok (.iload_n 3, 1) := by decide +kernel
theorem dL_law_382 : decode cL_law 382 = .ok (.iconst 2, 1) := by decide +kernel
theorem dL_law_383 : decode cL_law 383 = .ok (.iadd, 1) := by decide +kernel
theorem dL_law_384 : decode cL_law 384 = .ok (.iaload, 1) := by decide +kernel
theorem dL_law_385 : decode cL_law 385 = .ok (.aload_n 0, 1) := by decide +kernel
theorem dL_law_386 : decode cL_law 386 = .ok (.iload_n 3, 1) := by decide +kernel
theorem dL_law_387 : decode cL_law 387 = .ok (.iconst 3, 1) := by decide +kernel
theorem dL_law_388 : decode cL_law 388 = .ok (.iadd, 1) := by decide +kernel
theorem dL_law_389 : decode cL_law 389 = .ok (.iaload, 1) := by decide +kernel
theorem dL_law_390 : decode cL_law 390 = .ok (.aload_n 0, 1) := by decide +kernel
theorem dL_law_391 : decode cL_law 391 = .ok (.iload_n 3, 1) := by decide +kernel
theorem dL_law_392 : decode cL_law 392 = .ok (.iconst 4, 1) := by decide +kernel
theorem dL_law_393 : decode cL_law 393 = .ok (.iadd, 1) := by decide +kernel
theorem dL_law_394 : decode cL_law 394 = .ok (.iaload, 1) := by decide +kernel
theorem dL_law_395 : decode cL_law 395 = .ok (.invokevirtual 41, 3) := by decide +kernel
theorem dL_law_398 : decode cL_law 398 = .ok (.aload_n 2, 1) := by decide +kernel
theorem dL_law_399 : decode cL_law 399 = .ok (.aload_n 0, 1) := by decide +kernel
theorem dL_law_400 : decode cL_law 400 = .ok (.iload_n 3, 1) := by decide +kernel
theorem dL_law_401 : decode cL_law 401 = .ok (.iconst 1, 1) := by decide +kernel
theorem dL_law_402 : decode cL_law 402 = .ok (.iadd, 1) := by decide +kernel
theorem dL_law_403 : decode cL_law 403 = .ok (.iaload, 1) := by decide +kernel
theorem dL_law_404 : decode cL_law 404 = .ok (.aload_n 0, 1) := by decide +kernel
theorem dL_law_405 : decode cL_law 405 = .ok (.iload_n 3, 1) := by decide +kernel
theorem dL_law_406 : decode cL_law 406 = .ok (.iconst 2, 1) := by decide +kernel
theorem dL_law_407 : decode cL_law 407 = .ok (.iadd, 1) := by decide +kernel
theorem dL_law_408 : decode cL_law 408 = .ok (.iaload, 1) := by decide +kernel
theorem dL_law_409 : decode cL_law 409 = .ok (.aload_n 0, 1) := by decide +kernel
theorem dL_law_410 : decode cL_law 410 = .ok (.iload_n 3, 1) := by decide +kernel
theorem dL_law_411 : decode cL_law 411 = .ok (.iconst 3, 1) := by decide +kernel
theorem dL_law_412 : decode cL_law 412 = .ok (.iadd, 1) := by decide +kernel
theorem dL_law_413 : decode cL_law 413 = .ok (.iaload, 1) := by decide +kernel
theorem dL_law_414 : decode cL_law 414 = .ok (.aload_n 0, 1) := by decide +kernel
theorem dL_law_415 : decode cL_law 415 = .ok (.iload_n 3, 1) := by decide +kernel
theorem dL_law_416 : decode cL_law 416 = .ok (.iconst 4, 1) := by decide +kernel
theorem dL_law_417 : decode cL_law 417 = .ok (.iadd, 1) := by decide +kernel
theorem dL_law_418 : decode cL_law 418 = .ok (.iaload, 1) := by decide +kernel
theorem dL_law_419 : decode cL_law 419 = .ok (.invokevirtual 45, 3) := by decide +kernel
theorem dL_law_422 : decode cL_law 422 = .ok (.if_icmp .eq 872, 3) := by decide +kernel
theorem dL_law_425 : decode cL_law 425 = .ok (.iconst 0, 1) := by decide +kernel
theorem dL_law_426 : decode cL_law 426 = .ok (.ireturn, 1) := by decide +kernel
theorem dL_law_427 : decode cL_law 427 = .ok (.aload_n 1, 1) := by decide +kernel
theorem dL_law_428 : decode cL_law 428 = .ok (.aload_n 0, 1) := by decide +kernel
theorem dL_law_429 : decode cL_law 429 = .ok (.iload_n 3, 1) := by decide +kernel
theorem dL_law_430 : decode cL_law 430 = .ok (.iconst 1, 1) := by decide +kernel
theorem dL_law_431 : decode cL_law 431 = .ok (.iadd, 1) := by decide +kernel
theorem dL_law_432 : decode cL_law 432 = .ok (.iaload, 1) := by decide +kernel
theorem dL_law_433 : decode cL_law 433 = .ok (.invokevirtual 46, 3) := by decide +kernel
theorem dL_law_436 : decode cL_law 436 = .ok (.aload_n 2, 1) := by decide +kernel
theorem dL_law_437 : decode cL_law 437 = .ok (.aload_n 0, 1) := by decide +kernel
theorem dL_law_438 : decode cL_law 438 = .ok (.iload_n 3, 1) := by decide +kernel
theorem dL_law_439 : decode cL_law 439 = .ok (.iconst 1, 1) := by decide +kernel
theorem dL_law_440 : decode cL_law 440 = .ok (.iadd, 1) := by decide +kernel
theorem dL_law_441 : decode cL_law 441 = .ok (.iaload, 1) := by decide +kernel
theorem dL_law_442 : decode cL_law 442 = .ok (.invokevirtual 49, 3) := by decide +kernel
theorem dL_law_445 : decode cL_law 445 = .ok (.if_icmp .eq 849, 3) := by decide +kernel
theorem dL_law_448 : decode cL_law 448 = .ok (.iconst 0, 1) := by decide +kernel
theorem dL_law_449 : decode cL_law 449 = .ok (.ireturn, 1) := by decide +kernel
theorem dL_law_450 : decode cL_law 450 = .ok (.aload_n 1, 1) := by decide +kernel
theorem dL_law_451 : decode cL_law 451 = .ok (.aload_n 0, 1) := by decide +kernel
theorem dL_law_452 : decode cL_law 452 = .ok (.iload_n 3, 1) := by decide +kernel
theorem dL_law_453 : decode cL_law 453 = .ok (.iconst 1, 1) := by decide +kernel
theorem dL_law_454 : decode cL_law 454 = .ok (.iadd, 1) := by decide +kernel
theorem dL_law_455 : decode cL_law 455 = .ok (.iaload, 1) := by decide +kernel
theorem dL_law_456 : decode cL_law 456 = .ok (.aload_n 0, 1) := by decide +kernel
theorem dL_law_457 : decode cL_law 457 = .ok (.iload_n 3, 1) := by decide +kernel
theorem dL_law_458 : decode cL_law 458 = .ok (.iconst 2, 1) := by decide +kernel
theorem dL_law_459 : decode cL_law 459 = .ok (.iadd, 1) := by decide +kernel
theorem dL_law_460 : decode cL_law 460 = .ok (.iaload, 1) := by decide +kernel
theorem dL_law_461 : decode cL_law 461 = .ok (.aload_n 0, 1) := by decide +kernel
theorem dL_law_462 : decode cL_law 462 = .ok (.iload_n 3, 1) := by decide +kernel
theorem dL_law_463 : decode cL_law 463 = .ok (.iconst 3, 1) := by decide +kernel
theorem dL_law_464 : decode cL_law 464 = .ok (.iadd, 1) := by decide +kernel
theorem dL_law_465 : decode cL_law 465 = .ok (.iaload, 1) := by decide +kernel
theorem dL_law_466 : decode cL_law 466 = .ok (.invokevirtual 50, 3) := by decide +kernel
theorem dL_law_469 : decode cL_law 469 = .ok (.aload_n 2, 1) := by decide +kernel
theorem dL_law_470 : decode cL_law 470 = .ok (.aload_n 0, 1) := by decide +kernel
theorem dL_law_471 : decode cL_law 471 = .ok (.iload_n 3, 1) := by decide +kernel
theorem dL_law_472 : decode cL_law 472 = .ok (.iconst 1, 1) := by decide +kernel
theorem dL_law_473 : decode cL_law 473 = .ok (.iadd, 1) := by decide +kernel
theorem dL_law_474 : decode cL_law 474 = .ok (.iaload, 1) := by decide +kernel
theorem dL_law_475 : decode cL_law 475 = .ok (.aload_n 0, 1) := by decide +kernel
theorem dL_law_476 : decode cL_law 476 = .ok (.iload_n 3, 1) := by decide +kernel
theorem dL_law_477 : decode cL_law 477 = .ok (.iconst 2, 1) := by decide +kernel
theorem dL_law_478 : decode cL_law 478 = .ok (.iadd, 1) := by decide +kernel
theorem dL_law_479 : decode cL_law 479 = .ok (.iaload, 1) := by decide +kernel
theorem dL_law_480 : decode cL_law 480 = .ok (.aload_n 0, 1) := by decide +kernel
theorem dL_law_481 : decode cL_law 481 = .ok (.iload_n 3, 1) := by decide +kernel
theorem dL_law_482 : decode cL_law 482 = .ok (.iconst 3, 1) := by decide +kernel
theorem dL_law_483 : decode cL_law 483 = .ok (.iadd, 1) := by decide +kernel
theorem dL_law_484 : decode cL_law 484 = .ok (.iaload, 1) := by decide +kernel
theorem dL_law_485 : decode cL_law 485 = .ok (.invokevirtual 53, 3) := by decide +kernel
theorem dL_law_488 : decode cL_law 488 = .ok (.if_icmp .eq 806, 3) := by decide +kernel
theorem dL_law_491 : decode cL_law 491 = .ok (.iconst 0, 1) := by decide +kernel
theorem dL_law_492 : decode cL_law 492 = .ok (.ireturn, 1) := by decide +kernel
theorem dL_law_493 : decode cL_law 493 = .ok (.aload_n 1, 1) := by decide +kernel
theorem dL_law_494 : decode cL_law 494 = .ok (.aload_n 0, 1) := by decide +kernel
theorem dL_law_495 : decode cL_law 495 = .ok (.iload_n 3, 1) := by decide +kernel
theorem dL_law_496 : decode cL_law 496 = .ok (.iconst 1, 1) := by decide +kernel
theorem dL_law_497 : decode cL_law 497 = .ok (.iadd, 1) := by decide +kernel
theorem dL_law_498 : decode cL_law 498 = .ok (.iaload, 1) := by decide +kernel
theorem dL_law_499 : decode cL_law 499 = .ok (.invokevirtual 54, 3) := by decide +kernel
theorem dL_law_502 : decode cL_law 502 = .ok (.aload_n 2, 1) := by decide +kernel
theorem dL_law_503 : decode cL_law 503 = .ok (.aload_n 0, 1) := by decide +kernel
theorem dL_law_504 : decode cL_law 504 = .ok (.iload_n 3, 1) := by decide +kernel
theorem dL_law_505 : decode cL_law 505 = .ok (.iconst 1, 1) := by decide +kernel
theorem dL_law_506 : decode cL_law 506 = .ok (.iadd, 1) := by decide +kernel
theorem dL_law_507 : decode cL_law 507 = .ok (.iaload, 1) := by decide +kernel
theorem dL_law_508 : decode cL_law 508 = .ok (.invokevirtual 57, 3) := by decide +kernel
theorem dL_law_511 : decode cL_law 511 = .ok (.if_icmp .eq 783, 3) := by decide +kernel
theorem dL_law_514 : decode cL_law 514 = .ok (.iconst 0, 1) := by decide +kernel
theorem dL_law_515 : decode cL_law 515 = .ok (.ireturn, 1) := by decide +kernel
theorem dL_law_516 : decode cL_law 516 = .ok (.aload_n 1, 1) := by decide +kernel
theorem dL_law_517 : decode cL_law 517 = .ok (.aload_n 0, 1) := by decide +kernel
theorem dL_law_518 : decode cL_law 518 = .ok (.iload_n 3, 1) := by decide +kernel
theorem dL_law_519 : decode cL_law 519 = .ok (.iconst 1, 1) := by decide +kernel
theorem dL_law_520 : decode cL_law 520 = .ok (.iadd, 1) := by decide +kernel
theorem dL_law_521 : decode cL_law 521 = .ok (.iaload, 1) := by decide +kernel
theorem dL_law_522 : decode cL_law 522 = .ok (.invokevirtual 58, 3) := by decide +kernel
theorem dL_law_525 : decode cL_law 525 = .ok (.aload_n 2, 1) := by decide +kernel
theorem dL_law_526 : decode cL_law 526 = .ok (.aload_n 0, 1) := by decide +kernel
theorem dL_law_527 : decode cL_law 527 = .ok (.iload_n 3, 1) := by decide +kernel
theorem dL_law_528 : decode cL_law 528 = .ok (.iconst 1, 1) := by decide +kernel
theorem dL_law_529 : decode cL_law 529 = .ok (.iadd, 1) := by decide +kernel
theorem dL_law_530 : decode cL_law 530 = .ok (.iaload, 1) := by decide +kernel
theorem dL_law_531 : decode cL_law 531 = .ok (.invokevirtual 61, 3) := by decide +kernel
theorem dL_law_534 : decode cL_law 534 = .ok (.if_icmp .eq 760, 3) := by decide +kernel
theorem dL_law_537 : decode cL_law 537 = .ok (.iconst 0, 1) := by decide +kernel
theorem dL_law_538 : decode cL_law 538 = .ok (.ireturn, 1) := by decide +kernel
theorem dL_law_539 : decode cL_law 539 = .ok (.aload_n 1, 1) := by decide +kernel
theorem dL_law_540 : decode cL_law 540 = .ok (.aload_n 0, 1) := by decide +kernel
theorem dL_law_541 : decode cL_law 541 = .ok (.iload_n 3, 1) := by decide +kernel
theorem dL_law_542 : decode cL_law 542 = .ok (.iconst 1, 1) := by decide +kernel
theorem dL_law_543 : decode cL_law 543 = .ok (.iadd, 1) := by decide +kernel
theorem dL_law_544 : decode cL_law 544 = .ok (.iaload, 1) := by decide +kernel
theorem dL_law_545 : decode cL_law 545 = .ok (.invokevirtual 62, 3) := by decide +kernel
theorem dL_law_548 : decode cL_law 548 = .ok (.aload_n 2, 1) := by decide +kernel
theorem dL_law_549 : decode cL_law 549 = .ok (.aload_n 0, 1) := by decide +kernel
theorem dL_law_550 : decode cL_law 550 = .ok (.iload_n 3, 1) := by decide +kernel
theorem dL_law_551 : decode cL_law 551 = .ok (.iconst 1, 1) := by decide +kernel
theorem dL_law_552 : decode cL_law 552 = .ok (.iadd, 1) := by decide +kernel
theorem dL_law_553 : decode cL_law 553 = .ok (.iaload, 1) := by decide +kernel
theorem dL_law_554 : decode cL_law 554 = .ok (.invokevirtual 65, 3) := by decide +kernel
theorem dL_law_557 : decode cL_law 557 = .ok (.if_icmp .eq 737, 3) := by decide +kernel
theorem dL_law_560 : decode cL_law 560 = .ok (.iconst 0, 1) := by decide +kernel
theorem dL_law_561 : decode cL_law 561 = .ok (.ireturn, 1) := by decide +kernel
theorem dL_law_562 : decode cL_law 562 = .ok (.aload_n 1, 1) := by decide +kernel
theorem dL_law_563 : decode cL_law 563 = .ok (.aload_n 0, 1) := by decide +kernel
theorem dL_law_564 : decode cL_law 564 = .ok (.iload_n 3, 1) := by decide +kernel
theorem dL_law_565 : decode cL_law 565 = .ok (.iconst 1, 1) := by decide +kernel
theorem dL_law_566 : decode cL_law 566 = .ok (.iadd, 1) := by decide +kernel
theorem dL_law_567 : decode cL_law 567 = .ok (.iaload, 1) := by decide +kernel
theorem dL_law_568 : decode cL_law 568 = .ok (.invokevirtual 66, 3) := by decide +kernel
theorem dL_law_571 : decode cL_law 571 = .ok (.aload_n 2, 1) := by decide +kernel
theorem dL_law_572 : decode cL_law 572 = .ok (.aload_n 0, 1) := by decide +kernel
theorem dL_law_573 : decode cL_law 573 = .ok (.iload_n 3, 1) := by decide +kernel
theorem dL_law_574 : decode cL_law 574 = .ok (.iconst 1, 1) := by decide +kernel
theorem dL_law_575 : decode cL_law 575 = .ok (.iadd, 1) := by decide +kernel
theorem dL_law_576 : decode cL_law 576 = .ok (.iaload, 1) := by decide +kernel
theorem dL_law_577 : decode cL_law 577 = .ok (.invokevirtual 69, 3) := by decide +kernel
theorem dL_law_580 : decode cL_law 580 = .ok (.if_icmp .eq 714, 3) := by decide +kernel
theorem dL_law_583 : decode cL_law 583 = .ok (.iconst 0, 1) := by decide +kernel
theorem dL_law_584 : decode cL_law 584 = .ok (.ireturn, 1) := by decide +kernel
theorem dL_law_585 : decode cL_law 585 = .ok (.aload_n 1, 1) := by decide +kernel
theorem dL_law_586 : decode cL_law 586 = .ok (.aload_n 0, 1) := by decide +kernel
theorem dL_law_587 : decode cL_law 587 = .ok (.iload_n 3, 1) := by decide +kernel
theorem dL_law_588 : decode cL_law 588 = .ok (.iconst 1, 1) := by decide +kernel
theorem dL_law_589 : decode cL_law 589 = .ok (.iadd, 1) := by decide +kernel
theorem dL_law_590 : decode cL_law 590 = .ok (.iaload, 1) := by decide +kernel
theorem dL_law_591 : decode cL_law 591 = .ok (.aload_n 0, 1) := by decide +kernel
theorem dL_law_592 : decode cL_law 592 = .ok (.iload_n 3, 1) := by decide +kernel
theorem dL_law_593 : decode cL_law 593 = .ok (.iconst 2, 1) := by decide +kernel
theorem dL_law_594 : decode cL_law 594 = .ok (.iadd, 1) := by decide +kernel
theorem dL_law_595 : decode cL_law 595 = .ok (.iaload, 1) := by decide +kernel
theorem dL_law_596 : decode cL_law 596 = .ok (.invokevirtual 70, 3) := by decide +kernel
theorem dL_law_599 : decode cL_law 599 = .ok (.aload_n 2, 1) := by decide +kernel
theorem dL_law_600 : decode cL_law 600 = .ok (.aload_n 0, 1) := by decide +kernel
theorem dL_law_601 : decode cL_law 601 = .ok (.iload_n 3, 1) := by decide +kernel
theorem dL_law_602 : decode cL_law 602 = .ok (.iconst 1, 1) := by decide +kernel
theorem dL_law_603 : decode cL_law 603 = .ok (.iadd, 1) := by decide +kernel
theorem dL_law_604 : decode cL_law 604 = .ok (.iaload, 1) := by decide +kernel
theorem dL_law_605 : decode cL_law 605 = .ok (.aload_n 0, 1) := by decide +kernel
theorem dL_law_606 : decode cL_law 606 = .ok (.iload_n 3, 1) := by decide +kernel
theorem dL_law_607 : decode cL_law 607 = .ok (.iconst 2, 1) := by decide +kernel
theorem dL_law_608 : decode cL_law 608 = .ok (.iadd, 1) := by decide +kernel
theorem dL_law_609 : decode cL_law 609 = .ok (.iaload, 1) := by decide +kernel
theorem dL_law_610 : decode cL_law 610 = .ok (.invokevirtual 73, 3) := by decide +kernel
theorem dL_law_613 : decode cL_law 613 = .ok (.if_icmp .eq 681, 3) := by decide +kernel
theorem dL_law_616 : decode cL_law 616 = .ok (.iconst 0, 1) := by decide +kernel
theorem dL_law_617 : decode cL_law 617 = .ok (.ireturn, 1) := by decide +kernel
theorem dL_law_618 : decode cL_law 618 = .ok (.aload_n 1, 1) := by decide +kernel
theorem dL_law_619 : decode cL_law 619 = .ok (.invokevirtual 74, 3) := by decide +kernel
theorem dL_law_622 : decode cL_law 622 = .ok (.aload_n 2, 1) := by decide +kernel
theorem dL_law_623 : decode cL_law 623 = .ok (.invokevirtual 77, 3) := by decide +kernel
theorem dL_law_626 : decode cL_law 626 = .ok (.if_icmp .eq 668, 3) := by decide +kernel
theorem dL_law_629 : decode cL_law 629 = .ok (.iconst 0, 1) := by decide +kernel
theorem dL_law_630 : decode cL_law 630 = .ok (.ireturn, 1) := by decide +kernel
theorem dL_law_631 : decode cL_law 631 = .ok (.aload_n 1, 1) := by decide +kernel
theorem dL_law_632 : decode cL_law 632 = .ok (.aload_n 0, 1) := by decide +kernel
theorem dL_law_633 : decode cL_law 633 = .ok (.iload_n 3, 1) := by decide +kernel
theorem dL_law_634 : decode cL_law 634 = .ok (.iconst 1, 1) := by decide +kernel
theorem dL_law_635 : decode cL_law 635 = .ok (.iadd, 1) := by decide +kernel
theorem dL_law_636 : decode cL_law 636 = .ok (.iaload, 1) := by decide +kernel
theorem dL_law_637 : decode cL_law 637 = .ok (.aload_n 0, 1) := by decide +kernel
theorem dL_law_638 : decode cL_law 638 = .ok (.iload_n 3, 1) := by decide +kernel
theorem dL_law_639 : decode cL_law 639 = .ok (.iconst 2, 1) := by decide +kernel
theorem dL_law_640 : decode cL_law 640 = .ok (.iadd, 1) := by decide +kernel
theorem dL_law_641 : decode cL_law 641 = .ok (.iaload, 1) := by decide +kernel
theorem dL_law_642 : decode cL_law 642 = .ok (.invokevirtual 78, 3) := by decide +kernel
theorem dL_law_645 : decode cL_law 645 = .ok (.aload_n 2, 1) := by decide +kernel
theorem dL_law_646 : decode cL_law 646 = .ok (.aload_n 0, 1) := by decide +kernel
theorem dL_law_647 : decode cL_law 647 = .ok (.iload_n 3, 1) := by decide +kernel
theorem dL_law_648 : decode cL_law 648 = .ok (.iconst 1, 1) := by decide +kernel
theorem dL_law_649 : decode cL_law 649 = .ok (.iadd, 1) := by decide +kernel
theorem dL_law_650 : decode cL_law 650 = .ok (.iaload, 1) := by decide +kernel
theorem dL_law_651 : decode cL_law 651 = .ok (.aload_n 0, 1) := by decide +kernel
theorem dL_law_652 : decode cL_law 652 = .ok (.iload_n 3, 1) := by decide +kernel
theorem dL_law_653 : decode cL_law 653 = .ok (.iconst 2, 1) := by decide +kernel
theorem dL_law_654 : decode cL_law 654 = .ok (.iadd, 1) := by decide +kernel
theorem dL_law_655 : decode cL_law 655 = .ok (.iaload, 1) := by decide +kernel
theorem dL_law_656 : decode cL_law 656 = .ok (.invokevirtual 81, 3) := by decide +kernel
theorem dL_law_659 : decode cL_law 659 = .ok (.if_icmp .eq 635, 3) := by decide +kernel
theorem dL_law_662 : decode cL_law 662 = .ok (.iconst 0, 1) := by decide +kernel
theorem dL_law_663 : decode cL_law 663 = .ok (.ireturn, 1) := by decide +kernel
theorem dL_law_664 : decode cL_law 664 = .ok (.aload_n 1, 1) := by decide +kernel
theorem dL_law_665 : decode cL_law 665 = .ok (.aload_n 0, 1) := by decide +kernel
theorem dL_law_666 : decode cL_law 666 = .ok (.iload_n 3, 1) := by decide +kernel
theorem dL_law_667 : decode cL_law 667 = .ok (.iconst 1, 1) := by decide +kernel
theorem dL_law_668 : decode cL_law 668 = .ok (.iadd, 1) := by decide +kernel
theorem dL_law_669 : decode cL_law 669 = .ok (.iaload, 1) := by decide +kernel
theorem dL_law_670 : decode cL_law 670 = .ok (.aload_n 0, 1) := by decide +kernel
theorem dL_law_671 : decode cL_law 671 = .ok (.iload_n 3, 1) := by decide +kernel
theorem dL_law_672 : decode cL_law 672 = .ok (.iconst 2, 1) := by decide +kernel
theorem dL_law_673 : decode cL_law 673 = .ok (.iadd, 1) := by decide +kernel
theorem dL_law_674 : decode cL_law 674 = .ok (.iaload, 1) := by decide +kernel
theorem dL_law_675 : decode cL_law 675 = .ok (.invokevirtual 82, 3) := by decide +kernel
theorem dL_law_678 : decode cL_law 678 = .ok (.aload_n 2, 1) := by decide +kernel
theorem dL_law_679 : decode cL_law 679 = .ok (.aload_n 0, 1) := by decide +kernel
theorem dL_law_680 : decode cL_law 680 = .ok (.iload_n 3, 1) := by decide +kernel
theorem dL_law_681 : decode cL_law 681 = .ok (.iconst 1, 1) := by decide +kernel
theorem dL_law_682 : decode cL_law 682 = .ok (.iadd, 1) := by decide +kernel
theorem dL_law_683 : decode cL_law 683 = .ok (.iaload, 1) := by decide +kernel
theorem dL_law_684 : decode cL_law 684 = .ok (.aload_n 0, 1) := by decide +kernel
theorem dL_law_685 : decode cL_law 685 = .ok (.iload_n 3, 1) := by decide +kernel
theorem dL_law_686 : decode cL_law 686 = .ok (.iconst 2, 1) := by decide +kernel
theorem dL_law_687 : decode cL_law 687 = .ok (.iadd, 1) := by decide +kernel
theorem dL_law_688 : decode cL_law 688 = .ok (.iaload, 1) := by decide +kernel
theorem dL_law_689 : decode cL_law 689 = .ok (.invokevirtual 85, 3) := by decide +kernel
theorem dL_law_692 : decode cL_law 692 = .ok (.if_icmp .eq 602, 3) := by decide +kernel
theorem dL_law_695 : decode cL_law 695 = .ok (.iconst 0, 1) := by decide +kernel
theorem dL_law_696 : decode cL_law 696 = .ok (.ireturn, 1) := by decide +kernel
theorem dL_law_697 : decode cL_law 697 = .ok (.aload_n 1, 1) := by decide +kernel
theorem dL_law_698 : decode cL_law 698 = .ok (.aload_n 0, 1) := by decide +kernel
theorem dL_law_699 : decode cL_law 699 = .ok (.iload_n 3, 1) := by decide +kernel
theorem dL_law_700 : decode cL_law 700 = .ok (.iconst 1, 1) := by decide +kernel
theorem dL_law_701 : decode cL_law 701 = .ok (.iadd, 1) := by decide +kernel
theorem dL_law_702 : decode cL_law 702 = .ok (.iaload, 1) := by decide +kernel
theorem dL_law_703 : decode cL_law 703 = .ok (.aload_n 0, 1) := by decide +kernel
theorem dL_law_704 : decode cL_law 704 = .ok (.iload_n 3, 1) := by decide +kernel
theorem dL_law_705 : decode cL_law 705 = .ok (.iconst 2, 1) := by decide +kernel
theorem dL_law_706 : decode cL_law 706 = .ok (.iadd, 1) := by decide +kernel
theorem dL_law_707 : decode cL_law 707 = .ok (.iaload, 1) := by decide +kernel
theorem dL_law_708 : decode cL_law 708 = .ok (.invokevirtual 86, 3) := by decide +kernel
theorem dL_law_711 : decode cL_law 711 = .ok (.aload_n 2, 1) := by decide +kernel
theorem dL_law_712 : decode cL_law 712 = .ok (.aload_n 0, 1) := by decide +kernel
theorem dL_law_713 : decode cL_law 713 = .ok (.iload_n 3, 1) := by decide +kernel
theorem dL_law_714 : decode cL_law 714 = .ok (.iconst 1, 1) := by decide +kernel
theorem dL_law_715 : decode cL_law 715 = .ok (.iadd, 1) := by decide +kernel
theorem dL_law_716 : decode cL_law 716 = .ok (.iaload, 1) := by decide +kernel
theorem dL_law_717 : decode cL_law 717 = .ok (.aload_n 0, 1) := by decide +kernel
theorem dL_law_718 : decode cL_law 718 = .ok (.iload_n 3, 1) := by decide +kernel
theorem dL_law_719 : decode cL_law 719 = .ok (.iconst 2, 1) := by decide +kernel
theorem dL_law_720 : decode cL_law 720 = .ok (.iadd, 1) := by decide +kernel
theorem dL_law_721 : decode cL_law 721 = .ok (.iaload, 1) := by decide +kernel
theorem dL_law_722 : decode cL_law 722 = .ok (.invokevirtual 89, 3) := by decide +kernel
theorem dL_law_725 : decode cL_law 725 = .ok (.if_icmp .eq 569, 3) := by decide +kernel
theorem dL_law_728 : decode cL_law 728 = .ok (.iconst 0, 1) := by decide +kernel
theorem dL_law_729 : decode cL_law 729 = .ok (.ireturn, 1) := by decide +kernel
theorem dL_law_730 : decode cL_law 730 = .ok (.aload_n 1, 1) := by decide +kernel
theorem dL_law_731 : decode cL_law 731 = .ok (.aload_n 0, 1) := by decide +kernel
theorem dL_law_732 : decode cL_law 732 = .ok (.iload_n 3, 1) := by decide +kernel
theorem dL_law_733 : decode cL_law 733 = .ok (.iconst 1, 1) := by decide +kernel
theorem dL_law_734 : decode cL_law 734 = .ok (.iadd, 1) := by decide +kernel
theorem dL_law_735 : decode cL_law 735 = .ok (.iaload, 1) := by decide +kernel
theorem dL_law_736 : decode cL_law 736 = .ok (.aload_n 0, 1) := by decide +kernel
theorem dL_law_737 : decode cL_law 737 = .ok (.iload_n 3, 1) := by decide +kernel
theorem dL_law_738 : decode cL_law 738 = .ok (.iconst 2, 1) := by decide +kernel
theorem dL_law_739 : decode cL_law 739 = .ok (.iadd, 1) := by decide +kernel
theorem dL_law_740 : decode cL_law 740 = .ok (.iaload, 1) := by decide +kernel
theorem dL_law_741 : decode cL_law 741 = .ok (.invokevirtual 90, 3) := by decide +kernel
theorem dL_law_744 : decode cL_law 744 = .ok (.aload_n 2, 1) := by decide +kernel
theorem dL_law_745 : decode cL_law 745 = .ok (.aload_n 0, 1) := by decide +kernel
theorem dL_law_746 : decode cL_law 746 = .ok (.iload_n 3, 1) := by decide +kernel
theorem dL_law_747 : decode cL_law 747 = .ok (.iconst 1, 1) := by decide +kernel
theorem dL_law_748 : decode cL_law 748 = .ok (.iadd, 1) := by decide +kernel
theorem dL_law_749 : decode cL_law 749 = .ok (.iaload, 1) := by decide +kernel
theorem dL_law_750 : decode cL_law 750 = .ok (.aload_n 0, 1) := by decide +kernel
theorem dL_law_751 : decode cL_law 751 = .ok (.iload_n 3, 1) := by decide +kernel
theorem dL_law_752 : decode cL_law 752 = .ok (.iconst 2, 1) := by decide +kernel
theorem dL_law_753 : decode cL_law 753 = .ok (.iadd, 1) := by decide +kernel
theorem dL_law_754 : decode cL_law 754 = .ok (.iaload, 1) := by decide +kernel
theorem dL_law_755 : decode cL_law 755 = .ok (.invokevirtual 93, 3) := by decide +kernel
theorem dL_law_758 : decode cL_law 758 = .ok (.if_icmp .eq 536, 3) := by decide +kernel
theorem dL_law_761 : decode cL_law 761 = .ok (.iconst 0, 1) := by decide +kernel
theorem dL_law_762 : decode cL_law 762 = .ok (.ireturn, 1) := by decide +kernel
theorem dL_law_763 : decode cL_law 763 = .ok (.aload_n 1, 1) := by decide +kernel
theorem dL_law_764 : decode cL_law 764 = .ok (.aload_n 0, 1) := by decide +kernel
theorem dL_law_765 : decode cL_law 765 = .ok (.iload_n 3, 1) := by decide +kernel
theorem dL_law_766 : decode cL_law 766 = .ok (.iconst 1, 1) := by decide +kernel
theorem dL_law_767 : decode cL_law 767 = .ok (.iadd, 1) := by decide +kernel
theorem dL_law_768 : decode cL_law 768 = .ok (.iaload, 1) := by decide +kernel
theorem dL_law_769 : decode cL_law 769 = .ok (.invokevirtual 94, 3) := by decide +kernel
theorem dL_law_772 : decode cL_law 772 = .ok (.aload_n 2, 1) := by decide +kernel
theorem dL_law_773 : decode cL_law 773 = .ok (.aload_n 0, 1) := by decide +kernel
theorem dL_law_774 : decode cL_law 774 = .ok (.iload_n 3, 1) := by decide +kernel
theorem dL_law_775 : decode cL_law 775 = .ok (.iconst 1, 1) := by decide +kernel
theorem dL_law_776 : decode cL_law 776 = .ok (.iadd, 1) := by decide +kernel
theorem dL_law_777 : decode cL_law 777 = .ok (.iaload, 1) := by decide +kernel
theorem dL_law_778 : decode cL_law 778 = .ok (.invokevirtual 97, 3) := by decide +kernel
theorem dL_law_781 : decode cL_law 781 = .ok (.if_icmp .eq 513, 3) := by decide +kernel
theorem dL_law_784 : decode cL_law 784 = .ok (.iconst 0, 1) := by decide +kernel
theorem dL_law_785 : decode cL_law 785 = .ok (.ireturn, 1) := by decide +kernel
theorem dL_law_786 : decode cL_law 786 = .ok (.aload_n 1, 1) := by decide +kernel
theorem dL_law_787 : decode cL_law 787 = .ok (.aload_n 0, 1) := by decide +kernel
theorem dL_law_788 : decode cL_law 788 = .ok (.iload_n 3, 1) := by decide +kernel
theorem dL_law_789 : decode cL_law 789 = .ok (.iconst 1, 1) := by decide +kernel
theorem dL_law_790 : decode cL_law 790 = .ok (.iadd, 1) := by decide +kernel
theorem dL_law_791 : decode cL_law 791 = .ok (.iaload, 1) := by decide +kernel
theorem dL_law_792 : decode cL_law 792 = .ok (.aload_n 0, 1) := by decide +kernel
theorem dL_law_793 : decode cL_law 793 = .ok (.iload_n 3, 1) := by decide +kernel
theorem dL_law_794 : decode cL_law 794 = .ok (.iconst 2, 1) := by decide +kernel
theorem dL_law_795 : decode cL_law 795 = .ok (.iadd, 1) := by decide +kernel
theorem dL_law_796 : decode cL_law 796 = .ok (.iaload, 1) := by decide +kernel
theorem dL_law_797 : decode cL_law 797 = .ok (.invokevirtual 98, 3) := by decide +kernel
theorem dL_law_800 : decode cL_law 800 = .ok (.aload_n 2, 1) := by decide +kernel
theorem dL_law_801 : decode cL_law 801 = .ok (.aload_n 0, 1) := by decide +kernel
theorem dL_law_802 : decode cL_law 802 = .ok (.iload_n 3, 1) := by decide +kernel
theorem dL_law_803 : decode cL_law 803 = .ok (.iconst 1, 1) := by decide +kernel
theorem dL_law_804 : decode cL_law 804 = .ok (.iadd, 1) := by decide +kernel
theorem dL_law_805 : decode cL_law 805 = .ok (.iaload, 1) := by decide +kernel
theorem dL_law_806 : decode cL_law 806 = .ok (.aload_n 0, 1) := by decide +kernel
theorem dL_law_807 : decode cL_law 807 = .ok (.iload_n 3, 1) := by decide +kernel
theorem dL_law_808 : decode cL_law 808 = .ok (.iconst 2, 1) := by decide +kernel
theorem dL_law_809 : decode cL_law 809 = .ok (.iadd, 1) := by decide +kernel
theorem dL_law_810 : decode cL_law 810 = .ok (.iaload, 1) := by decide +kernel
theorem dL_law_811 : decode cL_law 811 = .ok (.invokevirtual 101, 3) := by decide +kernel
theorem dL_law_814 : decode cL_law 814 = .ok (.if_icmp .eq 480, 3) := by decide +kernel
theorem dL_law_817 : decode cL_law 817 = .ok (.iconst 0, 1) := by decide +kernel
theorem dL_law_818 : decode cL_law 818 = .ok (.ireturn, 1) := by decide +kernel
theorem dL_law_819 : decode cL_law 819 = .ok (.aload_n 1, 1) := by decide +kernel
theorem dL_law_820 : decode cL_law 820 = .ok (.aload_n 0, 1) := by decide +kernel
theorem dL_law_821 : decode cL_law 821 = .ok (.iload_n 3, 1) := by decide +kernel
theorem dL_law_822 : decode cL_law 822 = .ok (.iconst 1, 1) := by decide +kernel
theorem dL_law_823 : decode cL_law 823 = .ok (.iadd, 1) := by decide +kernel
theorem dL_law_824 : decode cL_law 824 = .ok (.iaload, 1) := by decide +kernel
theorem dL_law_825 : decode cL_law 825 = .ok (.invokevirtual 102, 3) := by decide +kernel
theorem dL_law_828 : decode cL_law 828 = .ok (.aload_n 2, 1) := by decide +kernel
theorem dL_law_829 : decode cL_law 829 = .ok (.aload_n 0, 1) := by decide +kernel
theorem dL_law_830 : decode cL_law 830 = .ok (.iload_n 3, 1) := by decide +kernel
theorem dL_law_831 : decode cL_law 831 = .ok (.iconst 1, 1) := by decide +kernel
theorem dL_law_832 : decode cL_law 832 = .ok (.iadd, 1) := by decide +kernel
theorem dL_law_833 : decode cL_law 833 = .ok (.iaload, 1) := by decide +kernel
theorem dL_law_834 : decode cL_law 834 = .ok (.invokevirtual 105, 3) := by decide +kernel
theorem dL_law_837 : decode cL_law 837 = .ok (.if_icmp .eq 457, 3) := by decide +kernel
theorem dL_law_840 : decode cL_law 840 = .ok (.iconst 0, 1) := by decide +kernel
theorem dL_law_841 : decode cL_law 841 = .ok (.ireturn, 1) := by decide +kernel
theorem dL_law_842 : decode cL_law 842 = .ok (.aload_n 1, 1) := by decide +kernel
theorem dL_law_843 : decode cL_law 843 = .ok (.aload_n 0, 1) := by decide +kernel
theorem dL_law_844 : decode cL_law 844 = .ok (.iload_n 3, 1) := by decide +kernel
theorem dL_law_845 : decode cL_law 845 = .ok (.iconst 1, 1) := by decide +kernel
theorem dL_law_846 : decode cL_law 846 = .ok (.iadd, 1) := by decide +kernel
theorem dL_law_847 : decode cL_law 847 = .ok (.iaload, 1) := by decide +kernel
theorem dL_law_848 : decode cL_law 848 = .ok (.invokevirtual 106, 3) := by decide +kernel
theorem dL_law_851 : decode cL_law 851 = .ok (.aload_n 2, 1) := by decide +kernel
theorem dL_law_852 : decode cL_law 852 = .ok (.aload_n 0, 1) := by decide +kernel
theorem dL_law_853 : decode cL_law 853 = .ok (.iload_n 3, 1) := by decide +kernel
theorem dL_law_854 : decode cL_law 854 = .ok (.iconst 1, 1) := by decide +kernel
theorem dL_law_855 : decode cL_law 855 = .ok (.iadd, 1) := by decide +kernel
theorem dL_law_856 : decode cL_law 856 = .ok (.iaload, 1) := by decide +kernel
theorem dL_law_857 : decode cL_law 857 = .ok (.invokevirtual 109, 3) := by decide +kernel
theorem dL_law_860 : decode cL_law 860 = .ok (.if_icmp .eq 434, 3) := by decide +kernel
theorem dL_law_863 : decode cL_law 863 = .ok (.iconst 0, 1) := by decide +kernel
theorem dL_law_864 : decode cL_law 864 = .ok (.ireturn, 1) := by decide +kernel
theorem dL_law_865 : decode cL_law 865 = .ok (.aload_n 1, 1) := by decide +kernel
theorem dL_law_866 : decode cL_law 866 = .ok (.aload_n 0, 1) := by decide +kernel
theorem dL_law_867 : decode cL_law 867 = .ok (.iload_n 3, 1) := by decide +kernel
theorem dL_law_868 : decode cL_law 868 = .ok (.iconst 1, 1) := by decide +kernel
theorem dL_law_869 : decode cL_law 869 = .ok (.iadd, 1) := by decide +kernel
theorem dL_law_870 : decode cL_law 870 = .ok (.iaload, 1) := by decide +kernel
theorem dL_law_871 : decode cL_law 871 = .ok (.invokevirtual 110, 3) := by decide +kernel
theorem dL_law_874 : decode cL_law 874 = .ok (.aload_n 2, 1) := by decide +kernel
theorem dL_law_875 : decode cL_law 875 = .ok (.aload_n 0, 1) := by decide +kernel
theorem dL_law_876 : decode cL_law 876 = .ok (.iload_n 3, 1) := by decide +kernel
theorem dL_law_877 : decode cL_law 877 = .ok (.iconst 1, 1) := by decide +kernel
theorem dL_law_878 : decode cL_law 878 = .ok (.iadd, 1) := by decide +kernel
theorem dL_law_879 : decode cL_law 879 = .ok (.iaload, 1) := by decide +kernel
theorem dL_law_880 : decode cL_law 880 = .ok (.invokevirtual 113, 3) := by decide +kernel
theorem dL_law_883 : decode cL_law 883 = .ok (.if_icmp .eq 411, 3) := by decide +kernel
theorem dL_law_886 : decode cL_law 886 = .ok (.iconst 0, 1) := by decide +kernel
theorem dL_law_887 : decode cL_law 887 = .ok (.ireturn, 1) := by decide +kernel
theorem dL_law_888 : decode cL_law 888 = .ok (.aload_n 1, 1) := by decide +kernel
theorem dL_law_889 : decode cL_law 889 = .ok (.aload_n 0, 1) := by decide +kernel
theorem dL_law_890 : decode cL_law 890 = .ok (.iload_n 3, 1) := by decide +kernel
theorem dL_law_891 : decode cL_law 891 = .ok (.iconst 1, 1) := by decide +kernel
theorem dL_law_892 : decode cL_law 892 = .ok (.iadd, 1) := by decide +kernel
theorem dL_law_893 : decode cL_law 893 = .ok (.iaload, 1) := by decide +kernel
theorem dL_law_894 : decode cL_law 894 = .ok (.invokevirtual 114, 3) := by decide +kernel
theorem dL_law_897 : decode cL_law 897 = .ok (.aload_n 2, 1) := by decide +kernel
theorem dL_law_898 : decode cL_law 898 = .ok (.aload_n 0, 1) := by decide +kernel
theorem dL_law_899 : decode cL_law 899 = .ok (.iload_n 3, 1) := by decide +kernel
theorem dL_law_900 : decode cL_law 900 = .ok (.iconst 1, 1) := by decide +kernel
theorem dL_law_901 : decode cL_law 901 = .ok (.iadd, 1) := by decide +kernel
theorem dL_law_902 : decode cL_law 902 = .ok (.iaload, 1) := by decide +kernel
theorem dL_law_903 : decode cL_law 903 = .ok (.invokevirtual 117, 3) := by decide +kernel
theorem dL_law_906 : decode cL_law 906 = .ok (.if_icmp .eq 388, 3) := by decide +kernel
theorem dL_law_909 : decode cL_law 909 = .ok (.iconst 0, 1) := by decide +kernel
theorem dL_law_910 : decode cL_law 910 = .ok (.ireturn, 1) := by decide +kernel
theorem dL_law_911 : decode cL_law 911 = .ok (.aload_n 1, 1) := by decide +kernel
theorem dL_law_912 : decode cL_law 912 = .ok (.invokevirtual 118, 3) := by decide +kernel
theorem dL_law_915 : decode cL_law 915 = .ok (.aload_n 2, 1) := by decide +kernel
theorem dL_law_916 : decode cL_law 916 = .ok (.invokevirtual 121, 3) := by decide +kernel
theorem dL_law_919 : decode cL_law 919 = .ok (.if_icmp .eq 375, 3) := by decide +kernel
theorem dL_law_922 : decode cL_law 922 = .ok (.iconst 0, 1) := by decide +kernel
theorem dL_law_923 : decode cL_law 923 = .ok (.ireturn, 1) := by decide +kernel
theorem dL_law_924 : decode cL_law 924 = .ok (.aload_n 1, 1) := by decide +kernel
theorem dL_law_925 : decode cL_law 925 = .ok (.aload_n 0, 1) := by decide +kernel
theorem dL_law_926 : decode cL_law 926 = .ok (.iload_n 3, 1) := by decide +kernel
theorem dL_law_927 : decode cL_law 927 = .ok (.iconst 1, 1) := by decide +kernel
theorem dL_law_928 : decode cL_law 928 = .ok (.iadd, 1) := by decide +kernel
theorem dL_law_929 : decode cL_law 929 = .ok (.iaload, 1) := by decide +kernel
theorem dL_law_930 : decode cL_law 930 = .ok (.invokevirtual 122, 3) := by decide +kernel
theorem dL_law_933 : decode cL_law 933 = .ok (.aload_n 2, 1) := by decide +kernel
theorem dL_law_934 : decode cL_law 934 = .ok (.aload_n 0, 1) := by decide +kernel
theorem dL_law_935 : decode cL_law 935 = .ok (.iload_n 3, 1) := by decide +kernel
theorem dL_law_936 : decode cL_law 936 = .ok (.iconst 1, 1) := by decide +kernel
theorem dL_law_937 : decode cL_law 937 = .ok (.iadd, 1) := by decide +kernel
theorem dL_law_938 : decode cL_law 938 = .ok (.iaload, 1) := by decide +kernel
theorem dL_law_939 : decode cL_law 939 = .ok (.invokevirtual 125, 3) := by decide +kernel
theorem dL_law_942 : decode cL_law 942 = .ok (.if_icmp .eq 352, 3) := by decide +kernel
theorem dL_law_945 : decode cL_law 945 = .ok (.iconst 0, 1) := by decide +kernel
theorem dL_law_946 : decode cL_law 946 = .ok (.ireturn, 1) := by decide +kernel
theorem dL_law_947 : decode cL_law 947 = .ok (.aload_n 1, 1) := by decide +kernel
theorem dL_law_948 : decode cL_law 948 = .ok (.aload_n 0, 1) := by decide +kernel
theorem dL_law_949 : decode cL_law 949 = .ok (.iload_n 3, 1) := by decide +kernel
theorem dL_law_950 : decode cL_law 950 = .ok (.iconst 1, 1) := by decide +kernel
theorem dL_law_951 : decode cL_law 951 = .ok (.iadd, 1) := by decide +kernel
theorem dL_law_952 : decode cL_law 952 = .ok (.iaload, 1) := by decide +kernel
theorem dL_law_953 : decode cL_law 953 = .ok (.invokevirtual 126, 3) := by decide +kernel
theorem dL_law_956 : decode cL_law 956 = .ok (.aload_n 2, 1) := by decide +kernel
theorem dL_law_957 : decode cL_law 957 = .ok (.aload_n 0, 1) := by decide +kernel
theorem dL_law_958 : decode cL_law 958 = .ok (.iload_n 3, 1) := by decide +kernel
theorem dL_law_959 : decode cL_law 959 = .ok (.iconst 1, 1) := by decide +kernel
theorem dL_law_960 : decode cL_law 960 = .ok (.iadd, 1) := by decide +kernel
theorem dL_law_961 : decode cL_law 961 = .ok (.iaload, 1) := by decide +kernel
theorem dL_law_962 : decode cL_law 962 = .ok (.invokevirtual 129, 3) := by decide +kernel
theorem dL_law_965 : decode cL_law 965 = .ok (.if_icmp .eq 329, 3) := by decide +kernel
theorem dL_law_968 : decode cL_law 968 = .ok (.iconst 0, 1) := by decide +kernel
theorem dL_law_969 : decode cL_law 969 = .ok (.ireturn, 1) := by decide +kernel
theorem dL_law_970 : decode cL_law 970 = .ok (.aload_n 1, 1) := by decide +kernel
theorem dL_law_971 : decode cL_law 971 = .ok (.aload_n 0, 1) := by decide +kernel
theorem dL_law_972 : decode cL_law 972 = .ok (.iload_n 3, 1) := by decide +kernel
theorem dL_law_973 : decode cL_law 973 = .ok (.iconst 1, 1) := by decide +kernel
theorem dL_law_974 : decode cL_law 974 = .ok (.iadd, 1) := by decide +kernel
theorem dL_law_975 : decode cL_law 975 = .ok (.iaload, 1) := by decide +kernel
theorem dL_law_976 : decode cL_law 976 = .ok (.aload_n 0, 1) := by decide +kernel
theorem dL_law_977 : decode cL_law 977 = .ok (.iload_n 3, 1) := by decide +kernel
theorem dL_law_978 : decode cL_law 978 = .ok (.iconst 2, 1) := by decide +kernel
theorem dL_law_979 : decode cL_law 979 = .ok (.iadd, 1) := by decide +kernel
theorem dL_law_980 : decode cL_law 980 = .ok (.iaload, 1) := by decide +kernel
theorem dL_law_981 : decode cL_law 981 = .ok (.invokevirtual 130, 3) := by decide +kernel
theorem dL_law_984 : decode cL_law 984 = .ok (.aload_n 2, 1) := by decide +kernel
theorem dL_law_985 : decode cL_law 985 = .ok (.aload_n 0, 1) := by decide +kernel
theorem dL_law_986 : decode cL_law 986 = .ok (.iload_n 3, 1) := by decide +kernel
theorem dL_law_987 : decode cL_law 987 = .ok (.iconst 1, 1) := by decide +kernel
theorem dL_law_988 : decode cL_law 988 = .ok (.iadd, 1) := by decide +kernel
theorem dL_law_989 : decode cL_law 989 = .ok (.iaload, 1) := by decide +kernel
theorem dL_law_990 : decode cL_law 990 = .ok (.aload_n 0, 1) := by decide +kernel
theorem dL_law_991 : decode cL_law 991 = .ok (.iload_n 3, 1) := by decide +kernel
theorem dL_law_992 : decode cL_law 992 = .ok (.iconst 2, 1) := by decide +kernel
theorem dL_law_993 : decode cL_law 993 = .ok (.iadd, 1) := by decide +kernel
theorem dL_law_994 : decode cL_law 994 = .ok (.iaload, 1) := by decide +kernel
theorem dL_law_995 : decode cL_law 995 = .ok (.invokevirtual 133, 3) := by decide +kernel
theorem dL_law_998 : decode cL_law 998 = .ok (.if_icmp .eq 296, 3) := by decide +kernel
theorem dL_law_1001 : decode cL_law 1001 = .ok (.iconst 0, 1) := by decide +kernel
theorem dL_law_1002 : decode cL_law 1002 = .ok (.ireturn, 1) := by decide +kernel
theorem dL_law_1003 : decode cL_law 1003 = .ok (.aload_n 1, 1) := by decide +kernel
theorem dL_law_1004 : decode cL_law 1004 = .ok (.invokevirtual 134, 3) := by decide +kernel
theorem dL_law_1007 : decode cL_law 1007 = .ok (.aload_n 2, 1) := by decide +kernel
theorem dL_law_1008 : decode cL_law 1008 = .ok (.invokevirtual 137, 3) := by decide +kernel
theorem dL_law_1011 : decode cL_law 1011 = .ok (.if_icmp .eq 283, 3) := by decide +kernel
theorem dL_law_1014 : decode cL_law 1014 = .ok (.iconst 0, 1) := by decide +kernel
theorem dL_law_1015 : decode cL_law 1015 = .ok (.ireturn, 1) := by decide +kernel
theorem dL_law_1016 : decode cL_law 1016 = .ok (.aload_n 1, 1) := by decide +kernel
theorem dL_law_1017 : decode cL_law 1017 = .ok (.invokevirtual 138, 3) := by decide +kernel
theorem dL_law_1020 : decode cL_law 1020 = .ok (.aload_n 2, 1) := by decide +kernel
theorem dL_law_1021 : decode cL_law 1021 = .ok (.invokevirtual 141, 3) := by decide +kernel
theorem dL_law_1024 : decode cL_law 1024 = .ok (.if_icmp .eq 270, 3) := by decide +kernel
theorem dL_law_1027 : decode cL_law 1027 = .ok (.iconst 0, 1) := by decide +kernel
theorem dL_law_1028 : decode cL_law 1028 = .ok (.ireturn, 1) := by decide +kernel
theorem dL_law_1029 : decode cL_law 1029 = .ok (.aload_n 1, 1) := by decide +kernel
theorem dL_law_1030 : decode cL_law 1030 = .ok (.aload_n 0, 1) := by decide +kernel
theorem dL_law_1031 : decode cL_law 1031 = .ok (.iload_n 3, 1) := by decide +kernel
theorem dL_law_1032 : decode cL_law 1032 = .ok (.iconst 1, 1) := by decide +kernel
theorem dL_law_1033 : decode cL_law 1033 = .ok (.iadd, 1) := by decide +kernel
theorem dL_law_1034 : decode cL_law 1034 = .ok (.iaload, 1) := by decide +kernel
theorem dL_law_1035 : decode cL_law 1035 = .ok (.aload_n 0, 1) := by decide +kernel
theorem dL_law_1036 : decode cL_law 1036 = .ok (.iload_n 3, 1) := by decide +kernel
theorem dL_law_1037 : decode cL_law 1037 = .ok (.iconst 2, 1) := by decide +kernel
theorem dL_law_1038 : decode cL_law 1038 = .ok (.iadd, 1) := by decide +kernel
theorem dL_law_1039 : decode cL_law 1039 = .ok (.iaload, 1) := by decide +kernel
theorem dL_law_1040 : decode cL_law 1040 = .ok (.invokevirtual 142, 3) := by decide +kernel
theorem dL_law_1043 : decode cL_law 1043 = .ok (.aload_n 2, 1) := by decide +kernel
theorem dL_law_1044 : decode cL_law 1044 = .ok (.aload_n 0, 1) := by decide +kernel
theorem dL_law_1045 : decode cL_law 1045 = .ok (.iload_n 3, 1) := by decide +kernel
theorem dL_law_1046 : decode cL_law 1046 = .ok (.iconst 1, 1) := by decide +kernel
theorem dL_law_1047 : decode cL_law 1047 = .ok (.iadd, 1) := by decide +kernel
theorem dL_law_1048 : decode cL_law 1048 = .ok (.iaload, 1) := by decide +kernel
theorem dL_law_1049 : decode cL_law 1049 = .ok (.aload_n 0, 1) := by decide +kernel
theorem dL_law_1050 : decode cL_law 1050 = .ok (.iload_n 3, 1) := by decide +kernel
theorem dL_law_1051 : decode cL_law 1051 = .ok (.iconst 2, 1) := by decide +kernel
theorem dL_law_1052 : decode cL_law 1052 = .ok (.iadd, 1) := by decide +kernel
theorem dL_law_1053 : decode cL_law 1053 = .ok (.iaload, 1) := by decide +kernel
theorem dL_law_1054 : decode cL_law 1054 = .ok (.invokevirtual 145, 3) := by decide +kernel
theorem dL_law_1057 : decode cL_law 1057 = .ok (.if_icmp .eq 237, 3) := by decide +kernel
theorem dL_law_1060 : decode cL_law 1060 = .ok (.iconst 0, 1) := by decide +kernel
theorem dL_law_1061 : decode cL_law 1061 = .ok (.ireturn, 1) := by decide +kernel
theorem dL_law_1062 : decode cL_law 1062 = .ok (.aload_n 1, 1) := by decide +kernel
theorem dL_law_1063 : decode cL_law 1063 = .ok (.aload_n 0, 1) := by decide +kernel
theorem dL_law_1064 : decode cL_law 1064 = .ok (.iload_n 3, 1) := by decide +kernel
theorem dL_law_1065 : decode cL_law 1065 = .ok (.iconst 1, 1) := by decide +kernel
theorem dL_law_1066 : decode cL_law 1066 = .ok (.iadd, 1) := by decide +kernel
theorem dL_law_1067 : decode cL_law 1067 = .ok (.iaload, 1) := by decide +kernel
theorem dL_law_1068 : decode cL_law 1068 = .ok (.aload_n 0, 1) := by decide +kernel
theorem dL_law_1069 : decode cL_law 1069 = .ok (.iload_n 3, 1) := by decide +kernel
theorem dL_law_1070 : decode cL_law 1070 = .ok (.iconst 2, 1) := by decide +kernel
theorem dL_law_1071 : decode cL_law 1071 = .ok (.iadd, 1) := by decide +kernel
theorem dL_law_1072 : decode cL_law 1072 = .ok (.iaload, 1) := by decide +kernel
theorem dL_law_1073 : decode cL_law 1073 = .ok (.aload_n 0, 1) := by decide +kernel
theorem dL_law_1074 : decode cL_law 1074 = .ok (.iload_n 3, 1) := by decide +kernel
theorem dL_law_1075 : decode cL_law 1075 = .ok (.iconst 3, 1) := by decide +kernel
theorem dL_law_1076 : decode cL_law 1076 = .ok (.iadd, 1) := by decide +kernel
theorem dL_law_1077 : decode cL_law 1077 = .ok (.iaload, 1) := by decide +kernel
theorem dL_law_1078 : decode cL_law 1078 = .ok (.invokevirtual 146, 3) := by decide +kernel
theorem dL_law_1081 : decode cL_law 1081 = .ok (.aload_n 2, 1) := by decide +kernel
theorem dL_law_1082 : decode cL_law 1082 = .ok (.aload_n 0, 1) := by decide +kernel
theorem dL_law_1083 : decode cL_law 1083 = .ok (.iload_n 3, 1) := by decide +kernel
theorem dL_law_1084 : decode cL_law 1084 = .ok (.iconst 1, 1) := by decide +kernel
theorem dL_law_1085 : decode cL_law 1085 = .ok (.iadd, 1) := by decide +kernel
theorem dL_law_1086 : decode cL_law 1086 = .ok (.iaload, 1) := by decide +kernel
theorem dL_law_1087 : decode cL_law 1087 = .ok (.aload_n 0, 1) := by decide +kernel
theorem dL_law_1088 : decode cL_law 1088 = .ok (.iload_n 3, 1) := by decide +kernel
theorem dL_law_1089 : decode cL_law 1089 = .ok (.iconst 2, 1) := by decide +kernel
theorem dL_law_1090 : decode cL_law 1090 = .ok (.iadd, 1) := by decide +kernel
theorem dL_law_1091 : decode cL_law 1091 = .ok (.iaload, 1) := by decide +kernel
theorem dL_law_1092 : decode cL_law 1092 = .ok (.aload_n 0, 1) := by decide +kernel
theorem dL_law_1093 : decode cL_law 1093 = .ok (.iload_n 3, 1) := by decide +kernel
theorem dL_law_1094 : decode cL_law 1094 = .ok (.iconst 3, 1) := by decide +kernel
theorem dL_law_1095 : decode cL_law 1095 = .ok (.iadd, 1) := by decide +kernel
theorem dL_law_1096 : decode cL_law 1096 = .ok (.iaload, 1) := by decide +kernel
theorem dL_law_1097 : decode cL_law 1097 = .ok (.invokevirtual 150, 3) := by decide +kernel
theorem dL_law_1100 : decode cL_law 1100 = .ok (.lcmp, 1) := by decide +kernel
theorem dL_law_1101 : decode cL_law 1101 = .ok (.ifCond .eq 193, 3) := by decide +kernel
theorem dL_law_1104 : decode cL_law 1104 = .ok (.iconst 0, 1) := by decide +kernel
theorem dL_law_1105 : decode cL_law 1105 = .ok (.ireturn, 1) := by decide +kernel
theorem dL_law_1106 : decode cL_law 1106 = .ok (.aload_n 1, 1) := by decide +kernel
theorem dL_law_1107 : decode cL_law 1107 = .ok (.aload_n 0, 1) := by decide +kernel
theorem dL_law_1108 : decode cL_law 1108 = .ok (.iload_n 3, 1) := by decide +kernel
theorem dL_law_1109 : decode cL_law 1109 = .ok (.iconst 1, 1) := by decide +kernel
theorem dL_law_1110 : decode cL_law 1110 = .ok (.iadd, 1) := by decide +kernel
theorem dL_law_1111 : decode cL_law 1111 = .ok (.iaload, 1) := by decide +kernel
theorem dL_law_1112 : decode cL_law 1112 = .ok (.invokevirtual 151, 3) := by decide +kernel
theorem dL_law_1115 : decode cL_law 1115 = .ok (.aload_n 2, 1) := by decide +kernel
theorem dL_law_1116 : decode cL_law 1116 = .ok (.aload_n 0, 1) := by decide +kernel
theorem dL_law_1117 : decode cL_law 1117 = .ok (.iload_n 3, 1) := by decide +kernel
theorem dL_law_1118 : decode cL_law 1118 = .ok (.iconst 1, 1) := by decide +kernel
theorem dL_law_1119 : decode cL_law 1119 = .ok (.iadd, 1) := by decide +kernel
theorem dL_law_1120 : decode cL_law 1120 = .ok (.iaload, 1) := by decide +kernel
theorem dL_law_1121 : decode cL_law 1121 = .ok (.invokevirtual 155, 3) := by decide +kernel
theorem dL_law_1124 : decode cL_law 1124 = .ok (.lcmp, 1) := by decide +kernel
theorem dL_law_1125 : decode cL_law 1125 = .ok (.ifCond .eq 169, 3) := by decide +kernel
theorem dL_law_1128 : decode cL_law 1128 = .ok (.iconst 0, 1) := by decide +kernel
theorem dL_law_1129 : decode cL_law 1129 = .ok (.ireturn, 1) := by decide +kernel
theorem dL_law_1130 : decode cL_law 1130 = .ok (.aload_n 1, 1) := by decide +kernel
theorem dL_law_1131 : decode cL_law 1131 = .ok (.aload_n 0, 1) := by decide +kernel
theorem dL_law_1132 : decode cL_law 1132 = .ok (.iload_n 3, 1) := by decide +kernel
theorem dL_law_1133 : decode cL_law 1133 = .ok (.iconst 1, 1) := by decide +kernel
theorem dL_law_1134 : decode cL_law 1134 = .ok (.iadd, 1) := by decide +kernel
theorem dL_law_1135 : decode cL_law 1135 = .ok (.iaload, 1) := by decide +kernel
theorem dL_law_1136 : decode cL_law 1136 = .ok (.invokevirtual 156, 3) := by decide +kernel
theorem dL_law_1139 : decode cL_law 1139 = .ok (.aload_n 2, 1) := by decide +kernel
theorem dL_law_1140 : decode cL_law 1140 = .ok (.aload_n 0, 1) := by decide +kernel
theorem dL_law_1141 : decode cL_law 1141 = .ok (.iload_n 3, 1) := by decide +kernel
theorem dL_law_1142 : decode cL_law 1142 = .ok (.iconst 1, 1) := by decide +kernel
theorem dL_law_1143 : decode cL_law 1143 = .ok (.iadd, 1) := by decide +kernel
theorem dL_law_1144 : decode cL_law 1144 = .ok (.iaload, 1) := by decide +kernel
theorem dL_law_1145 : decode cL_law 1145 = .ok (.invokevirtual 159, 3) := by decide +kernel
theorem dL_law_1148 : decode cL_law 1148 = .ok (.if_icmp .eq 146, 3) := by decide +kernel
theorem dL_law_1151 : decode cL_law 1151 = .ok (.iconst 0, 1) := by decide +kernel
theorem dL_law_1152 : decode cL_law 1152 = .ok (.ireturn, 1) := by decide +kernel
theorem dL_law_1153 : decode cL_law 1153 = .ok (.aload_n 1, 1) := by decide +kernel
theorem dL_law_1154 : decode cL_law 1154 = .ok (.aload_n 0, 1) := by decide +kernel
theorem dL_law_1155 : decode cL_law 1155 = .ok (.iload_n 3, 1) := by decide +kernel
theorem dL_law_1156 : decode cL_law 1156 = .ok (.iconst 1, 1) := by decide +kernel
theorem dL_law_1157 : decode cL_law 1157 = .ok (.iadd, 1) := by decide +kernel
theorem dL_law_1158 : decode cL_law 1158 = .ok (.iaload, 1) := by decide +kernel
theorem dL_law_1159 : decode cL_law 1159 = .ok (.invokevirtual 160, 3) := by decide +kernel
theorem dL_law_1162 : decode cL_law 1162 = .ok (.aload_n 2, 1) := by decide +kernel
theorem dL_law_1163 : decode cL_law 1163 = .ok (.aload_n 0, 1) := by decide +kernel
theorem dL_law_1164 : decode cL_law 1164 = .ok (.iload_n 3, 1) := by decide +kernel
theorem dL_law_1165 : decode cL_law 1165 = .ok (.iconst 1, 1) := by decide +kernel
theorem dL_law_1166 : decode cL_law 1166 = .ok (.iadd, 1) := by decide +kernel
theorem dL_law_1167 : decode cL_law 1167 = .ok (.iaload, 1) := by decide +kernel
theorem dL_law_1168 : decode cL_law 1168 = .ok (.invokevirtual 163, 3) := by decide +kernel
theorem dL_law_1171 : decode cL_law 1171 = .ok (.if_icmp .eq 123, 3) := by decide +kernel
theorem dL_law_1174 : decode cL_law 1174 = .ok (.iconst 0, 1) := by decide +kernel
theorem dL_law_1175 : decode cL_law 1175 = .ok (.ireturn, 1) := by decide +kernel
theorem dL_law_1176 : decode cL_law 1176 = .ok (.aload_n 1, 1) := by decide +kernel
theorem dL_law_1177 : decode cL_law 1177 = .ok (.invokevirtual 164, 3) := by decide +kernel
theorem dL_law_1180 : decode cL_law 1180 = .ok (.aload_n 2, 1) := by decide +kernel
theorem dL_law_1181 : decode cL_law 1181 = .ok (.invokevirtual 167, 3) := by decide +kernel
theorem dL_law_1184 : decode cL_law 1184 = .ok (.if_icmp .eq 110, 3) := by decide +kernel
theorem dL_law_1187 : decode cL_law 1187 = .ok (.iconst 0, 1) := by decide +kernel
theorem dL_law_1188 : decode cL_law 1188 = .ok (.ireturn, 1) := by decide +kernel
theorem dL_law_1189 : decode cL_law 1189 = .ok (.aload_n 1, 1) := by decide +kernel
theorem dL_law_1190 : decode cL_law 1190 = .ok (.invokevirtual 168, 3) := by decide +kernel
theorem dL_law_1193 : decode cL_law 1193 = .ok (.aload_n 2, 1) := by decide +kernel
theorem dL_law_1194 : decode cL_law 1194 = .ok (.invokevirtual 171, 3) := by decide +kernel
theorem dL_law_1197 : decode cL_law 1197 = .ok (.if_icmp .eq 97, 3) := by decide +kernel
theorem dL_law_1200 : decode cL_law 1200 = .ok (.iconst 0, 1) := by decide +kernel
theorem dL_law_1201 : decode cL_law 1201 = .ok (.ireturn, 1) := by decide +kernel
theorem dL_law_1202 : decode cL_law 1202 = .ok (.aload_n 1, 1) := by decide +kernel
theorem dL_law_1203 : decode cL_law 1203 = .ok (.aload_n 0, 1) := by decide +kernel
theorem dL_law_1204 : decode cL_law 1204 = .ok (.iload_n 3, 1) := by decide +kernel
theorem dL_law_1205 : decode cL_law 1205 = .ok (.iconst 1, 1) := by decide +kernel
theorem dL_law_1206 : decode cL_law 1206 = .ok (.iadd, 1) := by decide +kernel
theorem dL_law_1207 : decode cL_law 1207 = .ok (.iaload, 1) := by decide +kernel
theorem dL_law_1208 : decode cL_law 1208 = .ok (.aload_n 0, 1) := by decide +kernel
theorem dL_law_1209 : decode cL_law 1209 = .ok (.iload_n 3, 1) := by decide +kernel
theorem dL_law_1210 : decode cL_law 1210 = .ok (.iconst 2, 1) := by decide +kernel
theorem dL_law_1211 : decode cL_law 1211 = .ok (.iadd, 1) := by decide +kernel
theorem dL_law_1212 : decode cL_law 1212 = .ok (.iaload, 1) := by decide +kernel
theorem dL_law_1213 : decode cL_law 1213 = .ok (.aload_n 0, 1) := by decide +kernel
theorem dL_law_1214 : decode cL_law 1214 = .ok (.iload_n 3, 1) := by decide +kernel
theorem dL_law_1215 : decode cL_law 1215 = .ok (.iconst 3, 1) := by decide +kernel
theorem dL_law_1216 : decode cL_law 1216 = .ok (.iadd, 1) := by decide +kernel
theorem dL_law_1217 : decode cL_law 1217 = .ok (.iaload, 1) := by decide +kernel
theorem dL_law_1218 : decode cL_law 1218 = .ok (.invokevirtual 172, 3) := by decide +kernel
theorem dL_law_1221 : decode cL_law 1221 = .ok (.aload_n 2, 1) := by decide +kernel
theorem dL_law_1222 : decode cL_law 1222 = .ok (.aload_n 0, 1) := by decide +kernel
theorem dL_law_1223 : decode cL_law 1223 = .ok (.iload_n 3, 1) := by decide +kernel
theorem dL_law_1224 : decode cL_law 1224 = .ok (.iconst 1, 1) := by decide +kernel
theorem dL_law_1225 : decode cL_law 1225 = .ok (.iadd, 1) := by decide +kernel
theorem dL_law_1226 : decode cL_law 1226 = .ok (.iaload, 1) := by decide +kernel
theorem dL_law_1227 : decode cL_law 1227 = .ok (.aload_n 0, 1) := by decide +kernel
theorem dL_law_1228 : decode cL_law 1228 = .ok (.iload_n 3, 1) := by decide +kernel
theorem dL_law_1229 : decode cL_law 1229 = .ok (.iconst 2, 1) := by decide +kernel
theorem dL_law_1230 : decode cL_law 1230 = .ok (.iadd, 1) := by decide +kernel
theorem dL_law_1231 : decode cL_law 1231 = .ok (.iaload, 1) := by decide +kernel
theorem dL_law_1232 : decode cL_law 1232 = .ok (.aload_n 0, 1) := by decide +kernel
theorem dL_law_1233 : decode cL_law 1233 = .ok (.iload_n 3, 1) := by decide +kernel
theorem dL_law_1234 : decode cL_law 1234 = .ok (.iconst 3, 1) := by decide +kernel
theorem dL_law_1235 : decode cL_law 1235 = .ok (.iadd, 1) := by decide +kernel
theorem dL_law_1236 : decode cL_law 1236 = .ok (.iaload, 1) := by decide +kernel
theorem dL_law_1237 : decode cL_law 1237 = .ok (.invokevirtual 175, 3) := by decide +kernel
theorem dL_law_1240 : decode cL_law 1240 = .ok (.if_icmp .eq 54, 3) := by decide +kernel
theorem dL_law_1243 : decode cL_law 1243 = .ok (.iconst 0, 1) := by decide +kernel
theorem dL_law_1244 : decode cL_law 1244 = .ok (.ireturn, 1) := by decide +kernel
theorem dL_law_1245 : decode cL_law 1245 = .ok (.aload_n 1, 1) := by decide +kernel
theorem dL_law_1246 : decode cL_law 1246 = .ok (.invokevirtual 176, 3) := by decide +kernel
theorem dL_law_1249 : decode cL_law 1249 = .ok (.aload_n 2, 1) := by decide +kernel
theorem dL_law_1250 : decode cL_law 1250 = .ok (.invokevirtual 179, 3) := by decide +kernel
theorem dL_law_1253 : decode cL_law 1253 = .ok (.if_icmp .eq 41, 3) := by decide +kernel
theorem dL_law_1256 : decode cL_law 1256 = .ok (.iconst 0, 1) := by decide +kernel
theorem dL_law_1257 : decode cL_law 1257 = .ok (.ireturn, 1) := by decide +kernel
theorem dL_law_1258 : decode cL_law 1258 = .ok (.aload_n 1, 1) := by decide +kernel
theorem dL_law_1259 : decode cL_law 1259 = .ok (.invokevirtual 180, 3) := by decide +kernel
theorem dL_law_1262 : decode cL_law 1262 = .ok (.aload_n 2, 1) := by decide +kernel
theorem dL_law_1263 : decode cL_law 1263 = .ok (.invokevirtual 183, 3) := by decide +kernel
theorem dL_law_1266 : decode cL_law 1266 = .ok (.if_icmp .eq 28, 3) := by decide +kernel
theorem dL_law_1269 : decode cL_law 1269 = .ok (.iconst 0, 1) := by decide +kernel
theorem dL_law_1270 : decode cL_law 1270 = .ok (.ireturn, 1) := by decide +kernel
theorem dL_law_1271 : decode cL_law 1271 = .ok (.aload_n 1, 1) := by decide +kernel
theorem dL_law_1272 : decode cL_law 1272 = .ok (.aload_n 0, 1) := by decide +kernel
theorem dL_law_1273 : decode cL_law 1273 = .ok (.iload_n 3, 1) := by decide +kernel
theorem dL_law_1274 : decode cL_law 1274 = .ok (.iconst 1, 1) := by decide +kernel
theorem dL_law_1275 : decode cL_law 1275 = .ok (.iadd, 1) := by decide +kernel
theorem dL_law_1276 : decode cL_law 1276 = .ok (.iaload, 1) := by decide +kernel
theorem dL_law_1277 : decode cL_law 1277 = .ok (.invokevirtual 184, 3) := by decide +kernel
theorem dL_law_1280 : decode cL_law 1280 = .ok (.aload_n 2, 1) := by decide +kernel
theorem dL_law_1281 : decode cL_law 1281 = .ok (.aload_n 0, 1) := by decide +kernel
theorem dL_law_1282 : decode cL_law 1282 = .ok (.iload_n 3, 1) := by decide +kernel
theorem dL_law_1283 : decode cL_law 1283 = .ok (.iconst 1, 1) := by decide +kernel
theorem dL_law_1284 : decode cL_law 1284 = .ok (.iadd, 1) := by decide +kernel
theorem dL_law_1285 : decode cL_law 1285 = .ok (.iaload, 1) := by decide +kernel
theorem dL_law_1286 : decode cL_law 1286 = .ok (.invokevirtual 187, 3) := by decide +kernel
theorem dL_law_1289 : decode cL_law 1289 = .ok (.if_icmp .eq 5, 3) := by decide +kernel
theorem dL_law_1292 : decode cL_law 1292 = .ok (.iconst 0, 1) := by decide +kernel
theorem dL_law_1293 : decode cL_law 1293 = .ok (.ireturn, 1) := by decide +kernel
theorem dL_law_1294 : decode cL_law 1294 = .ok (.iinc 3 5, 3) := by decide +kernel
theorem dL_law_1297 : decode cL_law 1297 = .ok (.goto (-1279), 3) := by decide +kernel
theorem dL_law_1300 : decode cL_law 1300 = .ok (.iconst 1, 1) := by decide +kernel
theorem dL_law_1301 : decode cL_law 1301 = .ok (.ireturn, 1) := by decide +kernel
