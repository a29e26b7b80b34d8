theorem dX9_takeRow_7 : decode cX9_takeRow 7 = .ok (.invokevirtual 79, 3) := by decide +kernel
theorem dX9_takeRow_10 : decode cX9_takeRow 10 = .ok (.ifCond .ne 5, 3) := by decide +kernel
theorem dX9_takeRow_13 : decode cX9_takeRow 13 = .ok (.iconst 0, 1) := by decide +kernel
theorem dX9_takeRow_14 : decode cX9_takeRow 14 = .ok (.ireturn, 1) := by decide +kernel
theorem dX9_takeRow_15 : decode cX9_takeRow 15 = .ok (.aload_n 1, 1) := by decide +kernel
theorem dX9_takeRow_16 : decode cX9_takeRow 16 = .ok (.getfield 124, 3) := by decide +kernel
theorem dX9_takeRow_19 : decode cX9_takeRow 19 = .ok (.aload_n 1, 1) := by decide +kernel
theorem dX9_takeRow_20 : decode cX9_takeRow 20 = .ok (.getfield 76, 3) := by decide +kernel
theorem dX9_takeRow_23 : decode cX9_takeRow 23 = .ok (.isub, 1) := by decide +kernel
theorem dX9_takeRow_24 : decode cX9_takeRow 24 = .ok (.bipush 6, 2) := by decide +kernel
theorem dX9_takeRow_26 : decode cX9_takeRow 26 = .ok (.if_icmp .eq 13, 3) := by decide +kernel
theorem dX9_takeRow_29 : decode cX9_takeRow 29 = .ok (.aload_n 0, 1) := by decide +kernel
theorem dX9_takeRow_30 : decode cX9_takeRow 30 = .ok (.iconst 3, 1) := by decide +kernel
theorem dX9_takeRow_31 : decode cX9_takeRow 31 = .ok (.aload_n 1, 1) := by decide +kernel
theorem dX9_takeRow_32 : decode cX9_takeRow 32 = .ok (.getfield 76, 3) := by decide +kernel
theorem dX9_takeRow_35 : decode cX9_takeRow 35 = .ok (.invokevirtual 67, 3) := by decide +kernel
theorem dX9_takeRow_38 : decode cX9_takeRow 38 = .ok (.ireturn, 1) := by decide +kernel
theorem dX9_takeRow_39 : decode cX9_takeRow 39 = .ok (.iconst 0, 1) := by decide +kernel
theorem dX9_takeRow_40 : decode cX9_takeRow 40 = .ok (.istore_n 2, 1) := by decide +kernel
theorem dX9_takeRow_41 : decode cX9_takeRow 41 = .ok (.iload_n 2, 1) := by decide +kernel
theorem dX9_takeRow_42 : decode cX9_takeRow 42 = .ok (.bipush 6, 2) := by decide +kernel
theorem dX9_takeRow_44 : decode cX9_takeRow 44 = .ok (.if_icmp .ge 52, 3) := by decide +kernel
theorem dX9_takeRow_47 : decode cX9_takeRow 47 = .ok (.ldc 127, 2) := by decide +kernel
theorem dX9_takeRow_49 : decode cX9_takeRow 49 = .ok (.aload_n 1, 1) := by decide +kernel
theorem dX9_takeRow_50 : decode cX9_takeRow 50 = .ok (.iload_n 2, 1) := by decide +kernel
theorem dX9_takeRow_51 : decode cX9_takeRow 51 = .ok (.invokevirtual 129, 3) := by decide +kernel
theorem dX9_takeRow_54 : decode cX9_takeRow 54 = .ok (.invokevirtual 133, 3) := by decide +kernel
theorem dX9_takeRow_57 : decode cX9_takeRow 57 = .ok (.istore_n 3, 1) := by decide +kernel
theorem dX9_takeRow_58 : decode cX9_takeRow 58 = .ok (.iload_n 3, 1) := by decide +kernel
theorem dX9_takeRow_59 : decode cX9_takeRow 59 = .ok (.ifCond .ge 13, 3) := by decide +kernel
theorem dX9_takeRow_62 : decode cX9_takeRow 62 = .ok (.aload_n 0, 1) := by decide +kernel
theorem dX9_takeRow_63 : decode cX9_takeRow 63 = .ok (.iconst 3, 1) := by decide +kernel
theorem dX9_takeRow_64 : decode cX9_takeRow 64 = .ok (.aload_n 1, 1) := by decide +kernel
theorem dX9_takeRow_65 : decode cX9_takeRow 65 = .ok (.getfield 76, 3) := by decide +kernel
theorem dX9_takeRow_68 : decode cX9_takeRow 68 = .ok (.invokevirtual 67, 3) := by decide +kernel
theorem dX9_takeRow_71 : decode cX9_takeRow 71 = .ok (.ireturn, 1) := by decide +kernel
theorem dX9_takeRow_72 : decode cX9_takeRow 72 = .ok (.aload_n 0, 1) := by decide +kernel
theorem dX9_takeRow_73 : decode cX9_takeRow 73 = .ok (.getfield 12, 3) := by decide +kernel
theorem dX9_takeRow_76 : decode cX9_takeRow 76 = .ok (.getfield 138, 3) := by decide +kernel
theorem dX9_takeRow_79 : decode cX9_takeRow 79 = .ok (.aload_n 0, 1) := by decide +kernel
theorem dX9_takeRow_80 : decode cX9_takeRow 80 = .ok (.getfield 28, 3) := by decide +kernel
theorem dX9_takeRow_83 : decode cX9_takeRow 83 = .ok (.bipush 6, 2) := by decide +kernel
theorem dX9_takeRow_85 : decode cX9_takeRow 85 = .ok (.imul, 1) := by decide +kernel
theorem dX9_takeRow_86 : decode cX9_takeRow 86 = .ok (.iload_n 2, 1) := by decide +kernel
theorem dX9_takeRow_87 : decode cX9_takeRow 87 = .ok (.iadd, 1) := by decide +kernel
theorem dX9_takeRow_88 : decode cX9_takeRow 88 = .ok (.iload_n 3, 1) := by decide +kernel
theorem dX9_takeRow_89 : decode cX9_takeRow 89 = .ok (.iastore, 1) := by decide +kernel
theorem dX9_takeRow_90 : decode cX9_takeRow 90 = .ok (.iinc 2 1, 3) := by decide +kernel
theorem dX9_takeRow_93 : decode cX9_takeRow 93 = .ok (.goto (-52), 3) := by decide +kernel
theorem dX9_takeRow_96 : decode cX9_takeRow 96 = .ok (.aload_n 0, 1) := by decide +kernel
theorem dX9_takeRow_97 : decode cX9_takeRow 97 = .ok (.dup, 1) := by decide +kernel
theorem dX9_takeRow_98 : decode cX9_takeRow 98 = .ok (.getfield 28, 3) := by decide +kernel
theorem dX9_takeRow_101 : decode cX9_takeRow 101 = .ok (.iconst 1, 1) := by decide +kernel
theorem dX9_takeRow_102 : decode cX9_takeRow 102 = .ok (.iadd, 1) := by decide +kernel
theorem dX9_takeRow_103 : decode cX9_takeRow 103 = .ok (.putfield 28, 3) := by decide +kernel
theorem dX9_takeRow_106 : decode cX9_takeRow 106 = .ok (.iconst 1, 1) := by decide +kernel
theorem dX9_takeRow_107 : decode cX9_takeRow 107 = .ok (.ireturn, 1) := by decide +kernel
theorem dX9_takeNumber_0 : decode cX9_takeNumber 0 = .ok (.aload_n 1, 1) := by decide +kernel
theorem dX9_takeNumber_1 : decode cX9_takeNumber 1 = .ok (.invokevirtual 42, 3) := by decide +kernel
theorem dX9_takeNumber_4 : decode cX9_takeNumber 4 = .ok (.aload_n 0, 1) := by decide +kernel
theorem dX9_takeNumber_5 : decode cX9_takeNumber 5 = .ok (.aload_n 1, 1) := by decide +kernel
theorem dX9_takeNumber_6 : decode cX9_takeNumber 6 = .ok (.iconst 2, 1) := by decide +kernel
theorem dX9_takeNumber_7 : decode cX9_takeNumber 7 = .ok (.invokevirtual 79, 3) := by decide +kernel
theorem dX9_takeNumber_10 : decode cX9_takeNumber 10 = .ok (.ifCond .ne 5, 3) := by decide +kernel
theorem dX9_takeNumber_13 : decode cX9_takeNumber 13 = .ok (.iconst 0, 1) := by decide +kernel
theorem dX9_takeNumber_14 : decode cX9_takeNumber 14 = .ok (.ireturn, 1) := by decide +kernel
theorem dX9_takeNumber_15 : decode cX9_takeNumber 15 = .ok (.aload_n 1, 1) := by decide +kernel
theorem dX9_takeNumber_16 : decode cX9_takeNumber 16 = .ok (.getfield 142, 3) := by decide +kernel
theorem dX9_takeNumber_19 : decode cX9_takeNumber 19 = .ok (.iload_n 2, 1) := by decide +kernel
theorem dX9_takeNumber_20 : decode cX9_takeNumber 20 = .ok (.iload_n 3, 1) := by decide +kernel
theorem dX9_takeNumber_21 : decode cX9_takeNumber 21 = .ok (.invokestatic 145, 3) := by decide +kernel
theorem dX9_takeNumber_24 : decode cX9_takeNumber 24 = .ok (.ifCond .ne 15, 3) := by decide +kernel
theorem dX9_takeNumber_27 : decode cX9_takeNumber 27 = .ok (.aload_n 0, 1) := by decide +kernel
theorem dX9_takeNumber_28 : decode cX9_takeNumber 28 = .ok (.iconst 3, 1) := by decide +kernel
theorem dX9_takeNumber_29 : decode cX9_takeNumber 29 = .ok (.aload_n 1, 1) := by decide +kernel
theorem dX9_takeNumber_30 : decode cX9_takeNumber 30 = .ok (.getfield 76, 3) := by decide +kernel
theorem dX9_takeNumber_33 : decode cX9_takeNumber 33 = .ok (.invokevirtual 67, 3) := by decide +kernel
theorem dX9_takeNumber_36 : decode cX9_takeNumber 36 = .ok (.ifCond .eq 7, 3) := by decide +kernel
theorem dX9_takeNumber_39 : decode cX9_takeNumber 39 = .ok (.iconst 1, 1) := by decide +kernel
theorem dX9_takeNumber_40 : decode cX9_takeNumber 40 = .ok (.goto 4, 3) := by decide +kernel
theorem dX9_takeNumber_43 : decode cX9_takeNumber 43 = .ok (.iconst 0, 1) := by decide +kernel
theorem dX9_takeNumber_44 : decode cX9_takeNumber 44 = .ok (.ireturn, 1) := by decide +kernel
theorem dX9_takeRule_0 : decode cX9_takeRule 0 = .ok (.iload_n 2, 1) := by decide +kernel
theorem dX9_takeRule_1 : decode cX9_takeRule 1 = .ok (.iconst 0, 1) := by decide +kernel
theorem dX9_takeRule_2 : decode cX9_takeRule 2 = .ok (.bipush 7, 2) := by decide +kernel
theorem dX9_takeRule_4 : decode cX9_takeRule 4 = .ok (.invokestatic 145, 3) := by decide +kernel
theorem dX9_takeRule_7 : decode cX9_takeRule 7 = .ok (.ifCond .eq 21, 3) := by decide +kernel
theorem dX9_takeRule_10 : decode cX9_takeRule 10 = .ok (.aload_n 0, 1) := by decide +kernel
theorem dX9_takeRule_11 : decode cX9_takeRule 11 = .ok (.aload_n 1, 1) := by decide +kernel
theorem dX9_takeRule_12 : decode cX9_takeRule 12 = .ok (.getstatic 149, 3) := by decide +kernel
theorem dX9_takeRule_15 : decode cX9_takeRule 15 = .ok (.iload_n 2, 1) := by decide +kernel
theorem dX9_takeRule_16 : decode cX9_takeRule 16 = .ok (.iaload, 1) := by decide +kernel
theorem dX9_takeRule_17 : decode cX9_takeRule 17 = .ok (.getstatic 152, 3) := by decide +kernel
theorem dX9_takeRule_20 : decode cX9_takeRule 20 = .ok (.iload_n 2, 1) := by decide +kernel
theorem dX9_takeRule_21 : decode cX9_takeRule 21 = .ok (.iaload, 1) := by decide +kernel
theorem dX9_takeRule_22 : decode cX9_takeRule 22 = .ok (.invokevirtual 155, 3) := by decide +kernel
theorem dX9_takeRule_25 : decode cX9_takeRule 25 = .ok (.ifCond .ne 5, 3) := by decide +kernel
theorem dX9_takeRule_28 : decode cX9_takeRule 28 = .ok (.iconst 0, 1) := by decide +kernel
theorem dX9_takeRule_29 : decode cX9_takeRule 29 = .ok (.ireturn, 1) := by decide +kernel
theorem dX9_takeRule_30 : decode cX9_takeRule 30 = .ok (.aload_n 0, 1) := by decide +kernel
theorem dX9_takeRule_31 : decode cX9_takeRule 31 = .ok (.getfield 12, 3) := by decide +kernel
theorem dX9_takeRule_34 : decode cX9_takeRule 34 = .ok (.getfield 159, 3) := by decide +kernel
theorem dX9_takeRule_37 : decode cX9_takeRule 37 = .ok (.iload_n 2, 1) := by decide +kernel
theorem dX9_takeRule_38 : decode cX9_takeRule 38 = .ok (.aload_n 1, 1) := by decide +kernel
theorem dX9_takeRule_39 : decode cX9_takeRule 39 = .ok (.getfield 142, 3) := by decide +kernel
theorem dX9_takeRule_42 : decode cX9_takeRule 42 = .ok (.iastore, 1) := by decide +kernel
theorem dX9_takeRule_43 : decode cX9_takeRule 43 = .ok (.iconst 1, 1) := by decide +kernel
theorem dX9_takeRule_44 : decode cX9_takeRule 44 = .ok (.ireturn, 1) := by decide +kernel
theorem dX9_takeSun_0 : decode cX9_takeSun 0 = .ok (.aload_n 0, 1) := by decide +kernel
theorem dX9_takeSun_1 : decode cX9_takeSun 1 = .ok (.aload_n 1, 1) := by decide +kernel
theorem dX9_takeSun_2 : decode cX9_takeSun 2 = .ok (.iconst 0, 1) := by decide +kernel
theorem dX9_takeSun_3 : decode cX9_takeSun 3 = .ok (.bipush 35, 2) := by decide +kernel
theorem dX9_takeSun_5 : decode cX9_takeSun 5 = .ok (.invokevirtual 155, 3) := by decide +kernel
theorem dX9_takeSun_8 : decode cX9_takeSun 8 = .ok (.ifCond .ne 5, 3) := by decide +kernel
theorem dX9_takeSun_11 : decode cX9_takeSun 11 = .ok (.iconst 0, 1) := by decide +kernel
theorem dX9_takeSun_12 : decode cX9_takeSun 12 = .ok (.ireturn, 1) := by decide +kernel
theorem dX9_takeSun_13 : decode cX9_takeSun 13 = .ok (.aload_n 1, 1) := by decide +kernel
theorem dX9_takeSun_14 : decode cX9_takeSun 14 = .ok (.getfield 142, 3) := by decide +kernel
theorem dX9_takeSun_17 : decode cX9_takeSun 17 = .ok (.istore_n 2, 1) := by decide +kernel
theorem dX9_takeSun_18 : decode cX9_takeSun 18 = .ok (.aload_n 0, 1) := by decide +kernel
theorem dX9_takeSun_19 : decode cX9_takeSun 19 = .ok (.getfield 34, 3) := by decide +kernel
theorem dX9_takeSun_22 : decode cX9_takeSun 22 = .ok (.iload_n 2, 1) := by decide +kernel
theorem dX9_takeSun_23 : decode cX9_takeSun 23 = .ok (.lshr, 1) := by decide +kernel
theorem dX9_takeSun_24 : decode cX9_takeSun 24 = .ok (.lconst 1, 1) := by decide +kernel
theorem dX9_takeSun_25 : decode cX9_takeSun 25 = .ok (.land, 1) := by decide +kernel
theorem dX9_takeSun_26 : decode cX9_takeSun 26 = .ok (.lconst 1, 1) := by decide +kernel
theorem dX9_takeSun_27 : decode cX9_takeSun 27 = .ok (.lcmp, 1) := by decide +kernel
theorem dX9_takeSun_28 : decode cX9_takeSun 28 = .ok (.ifCond .ne 13, 3) := by decide +kernel
theorem dX9_takeSun_31 : decode cX9_takeSun 31 = .ok (.aload_n 0, 1) := by decide +kernel
theorem dX9_takeSun_32 : decode cX9_takeSun 32 = .ok (.iconst 4, 1) := by decide +kernel
theorem dX9_takeSun_33 : decode cX9_takeSun 33 = .ok (.aload_n 1, 1) := by decide +kernel
theorem dX9_takeSun_34 : decode cX9_takeSun 34 = .ok (.getfield 76, 3) := by decide +kernel
theorem dX9_takeSun_37 : decode cX9_takeSun 37 = .ok (.invokevirtual 67, 3) := by decide +kernel
theorem dX9_takeSun_40 : decode cX9_takeSun 40 = .ok (.ireturn, 1) := by decide +kernel
theorem dX9_takeSun_41 : decode cX9_takeSun 41 = .ok (.aload_n 0, 1) := by decide +kernel
theorem dX9_takeSun_42 : decode cX9_takeSun 42 = .ok (.dup, 1) := by decide +kernel
theorem dX9_takeSun_43 : decode cX9_takeSun 43 = .ok (.getfield 34, 3) := by decide +kernel
theorem dX9_takeSun_46 : decode cX9_takeSun 46 = .ok (.lconst 1, 1) := by decide +kernel
theorem dX9_takeSun_47 : decode cX9_takeSun 47 = .ok (.iload_n 2, 1) := by decide +kernel
theorem dX9_takeSun_48 : decode cX9_takeSun 48 = .ok (.lshl, 1) := by decide +kernel
theorem dX9_takeSun_49 : decode cX9_takeSun 49 = .ok (.lor, 1) := by decide +kernel
theorem dX9_takeSun_50 : decode cX9_takeSun 50 = .ok (.putfield 34, 3) := by decide +kernel
theorem dX9_takeSun_53 : decode cX9_takeSun 53 = .ok (.aload_n 0, 1) := by decide +kernel
theorem dX9_takeSun_54 : decode cX9_takeSun 54 = .ok (.aload_n 1, 1) := by decide +kernel
theorem dX9_takeSun_55 : decode cX9_takeSun 55 = .ok (.iconst 0, 1) := by decide +kernel
theorem dX9_takeSun_56 : decode cX9_takeSun 56 = .ok (.bipush 9, 2) := by decide +kernel
theorem dX9_takeSun_58 : decode cX9_takeSun 58 = .ok (.invokevirtual 155, 3) := by decide +kernel
theorem dX9_takeSun_61 : decode cX9_takeSun 61 = .ok (.ifCond .ne 5, 3) := by decide +kernel
theorem dX9_takeSun_64 : decode cX9_takeSun 64 = .ok (.iconst 0, 1) := by decide +kernel
theorem dX9_takeSun_65 : decode cX9_takeSun 65 = .ok (.ireturn, 1) := by decide +kernel
theorem dX9_takeSun_66 : decode cX9_takeSun 66 = .ok (.aload_n 0, 1) := by decide +kernel
theorem dX9_takeSun_67 : decode cX9_takeSun 67 = .ok (.getfield 12, 3) := by decide +kernel
theorem dX9_takeSun_70 : decode cX9_takeSun 70 = .ok (.getfield 162, 3) := by decide +kernel
theorem dX9_takeSun_73 : decode cX9_takeSun 73 = .ok (.iload_n 2, 1) := by decide +kernel
theorem dX9_takeSun_74 : decode cX9_takeSun 74 = .ok (.aload_n 1, 1) := by decide +kernel
theorem dX9_takeSun_75 : decode cX9_takeSun 75 = .ok (.getfield 142, 3) := by decide +kernel
theorem dX9_takeSun_78 : decode cX9_takeSun 78 = .ok (.iastore, 1) := by decide +kernel
theorem dX9_takeSun_79 : decode cX9_takeSun 79 = .ok (.iconst 1, 1) := by decide +kernel
theorem dX9_takeSun_80 : decode cX9_takeSun 80 = .ok (.ireturn, 1) := by decide +kernel
theorem dX10_init_0 : decode cX10_init 0 = .ok (.aload_n 0, 1) := by decide +kernel
theorem dX10_init_1 : decode cX10_init 1 = .ok (.invokespecial 3, 3) := by decide +kernel
theorem dX10_init_4 : decode cX10_init 4 = .ok (.aload_n 0, 1) := by decide +kernel
theorem dX10_init_5 : decode cX10_init 5 = .ok (.bipush 36, 2) := by decide +kernel
theorem dX10_init_7 : decode cX10_init 7 = .ok (.newarray .int, 2) := by decide +kernel
theorem dX10_init_9 : decode cX10_init 9 = .ok (.putfield 9, 3) := by decide +kernel
theorem dX10_init_12 : decode cX10_init 12 = .ok (.aload_n 0, 1) := by decide +kernel
theorem dX10_init_13 : decode cX10_init 13 = .ok (.bipush 36, 2) := by decide +kernel
theorem dX10_init_15 : decode cX10_init 15 = .ok (.newarray .int, 2) := by decide +kernel
theorem dX10_init_17 : decode cX10_init 17 = .ok (.putfield 15, 3) := by decide +kernel
theorem dX10_init_20 : decode cX10_init 20 = .ok (.return_, 1) := by decide +kernel
theorem dX10_follow_0 : decode cX10_follow 0 = .ok (.aload_n 0, 1) := by decide +kernel
theorem dX10_follow_1 : decode cX10_follow 1 = .ok (.aload_n 1, 1) := by decide +kernel
theorem dX10_follow_2 : decode cX10_follow 2 = .ok (.iload_n 3, 1) := by decide +kernel
theorem dX10_follow_3 : decode cX10_follow 3 = .ok (.iload 4, 2) := by decide +kernel
theorem dX10_follow_5 : decode cX10_follow 5 = .ok (.invokevirtual 18, 3) := by decide +kernel
theorem dX10_follow_8 : decode cX10_follow 8 = .ok (.iconst 0, 1) := by decide +kernel
theorem dX10_follow_9 : decode cX10_follow 9 = .ok (.istore 5, 2) := by decide +kernel
theorem dX10_follow_11 : decode cX10_follow 11 = .ok (.iconst 0, 1) := by decide +kernel
theorem dX10_follow_12 : decode cX10_follow 12 = .ok (.istore 6, 2) := by decide +kernel
theorem dX10_follow_14 : decode cX10_follow 14 = .ok (.iload 6, 2) := by decide +kernel
theorem dX10_follow_16 : decode cX10_follow 16 = .ok (.aload_n 2, 1) := by decide +kernel
theorem dX10_follow_17 : decode cX10_follow 17 = .ok (.getfield 22, 3) := by decide +kernel
theorem dX10_follow_20 : decode cX10_follow 20 = .ok (.if_icmp .ge 98, 3) := by decide +kernel
theorem dX10_follow_23 : decode cX10_follow 23 = .ok (.aload_n 0, 1) := by decide +kernel
theorem dX10_follow_24 : decode cX10_follow 24 = .ok (.getfield 28, 3) := by decide +kernel
theorem dX10_follow_27 : decode cX10_follow 27 = .ok (.ifCond .ne 91, 3) := by decide +kernel
theorem dX10_follow_30 : decode cX10_follow 30 = .ok (.aload_n 2, 1) := by decide +kernel
theorem dX10_follow_31 : decode cX10_follow 31 = .ok (.iload 6, 2) := by decide +kernel
theorem dX10_follow_33 : decode cX10_follow 33 = .ok (.invokevirtual 32, 3) := by decide +kernel
theorem dX10_follow_36 : decode cX10_follow 36 = .ok (.istore 7, 2) := by decide +kernel
theorem dX10_follow_38 : decode cX10_follow 38 = .ok (.iload 5, 2) := by decide +kernel
theorem dX10_follow_40 : decode cX10_follow 40 = .ok (.iload 7, 2) := by decide +kernel
theorem dX10_follow_42 : decode cX10_follow 42 = .ok (.invokestatic 36, 3) := by decide +kernel
theorem dX10_follow_45 : decode cX10_follow 45 = .ok (.istore 8, 2) := by decide +kernel
theorem dX10_follow_47 : decode cX10_follow 47 = .ok (.aload_n 0, 1) := by decide +kernel
theorem dX10_follow_48 : decode cX10_follow 48 = .ok (.dup, 1) := by decide +kernel
theorem dX10_follow_49 : decode cX10_follow 49 = .ok (.getfield 40, 3) := by decide +kernel
theorem dX10_follow_52 : decode cX10_follow 52 = .ok (.iload 8, 2) := by decide +kernel
theorem dX10_follow_54 : decode cX10_follow 54 = .ok (.iadd, 1) := by decide +kernel
theorem dX10_follow_55 : decode cX10_follow 55 = .ok (.putfield 40, 3) := by decide +kernel
theorem dX10_follow_58 : decode cX10_follow 58 = .ok (.aload_n 0, 1) := by decide +kernel
theorem dX10_follow_59 : decode cX10_follow 59 = .ok (.dup, 1) := by decide +kernel
theorem dX10_follow_60 : decode cX10_follow 60 = .ok (.getfield 43, 3) := by decide +kernel
theorem dX10_follow_63 : decode cX10_follow 63 = .ok (.iload 8, 2) := by decide +kernel
theorem dX10_follow_65 : decode cX10_follow 65 = .ok (.aload_n 1, 1) := by decide +kernel
theorem dX10_follow_66 : decode cX10_follow 66 = .ok (.iconst 1, 1) := by decide +kernel
theorem dX10_follow_67 : decode cX10_follow 67 = .ok (.invokevirtual 46, 3) := by decide +kernel
theorem dX10_follow_70 : decode cX10_follow 70 = .ok (.imul, 1) := by decide +kernel
theorem dX10_follow_71 : decode cX10_follow 71 = .ok (.iadd, 1) := by decide +kernel
theorem dX10_follow_72 : decode cX10_follow 72 = .ok (.putfield 43, 3) := by decide +kernel
theorem dX10_follow_75 : decode cX10_follow 75 = .ok (.iload 7, 2) := by decide +kernel
theorem dX10_follow_77 : decode cX10_follow 77 = .ok (.istore 5, 2) := by decide +kernel
theorem dX10_follow_79 : decode cX10_follow 79 = .ok (.aload_n 2, 1) := by decide +kernel
theorem dX10_follow_80 : decode cX10_follow 80 = .ok (.iload 6, 2) := by decide +kernel
theorem dX10_follow_82 : decode cX10_follow 82 = .ok (.invokevirtual 51, 3) := by decide +kernel
theorem dX10_follow_85 : decode cX10_follow 85 = .ok (.istore 9, 2) := by decide +kernel
theorem dX10_follow_87 : decode cX10_follow 87 = .ok (.iload 9, 2) := by decide +kernel
theorem dX10_follow_89 : decode cX10_follow 89 = .ok (.ifCond .le 23, 3) := by decide +kernel
theorem dX10_follow_92 : decode cX10_follow 92 = .ok (.aload_n 0, 1) := by decide +kernel
theorem dX10_follow_93 : decode cX10_follow 93 = .ok (.getfield 28, 3) := by decide +kernel
theorem dX10_follow_96 : decode cX10_follow 96 = .ok (.ifCond .ne 16, 3) := by decide +kernel
theorem dX10_follow_99 : decode cX10_follow 99 = .ok (.aload_n 0, 1) := by decide +kernel
theorem dX10_follow_100 : decode cX10_follow 100 = .ok (.aload_n 1, 1) := by decide +kernel
theorem dX10_follow_101 : decode cX10_follow 101 = .ok (.iload 7, 2) := by decide +kernel
theorem dX10_follow_103 : decode cX10_follow 103 = .ok (.invokevirtual 54, 3) := by decide +kernel
theorem dX10_follow_106 : decode cX10_follow 106 = .ok (.iinc 9 (-1), 3) := by decide +kernel
theorem dX10_follow_109 : decode cX10_follow 109 = .ok (.goto (-22), 3) := by decide +kernel
theorem dX10_follow_112 : decode cX10_follow 112 = .ok (.iinc 6 1, 3) := by decide +kernel
theorem dX10_follow_115 : decode cX10_follow 115 = .ok (.goto (-101), 3) := by decide +kernel
theorem dX10_follow_118 : decode cX10_follow 118 = .ok (.return_, 1) := by decide +kernel
theorem dX10_startAnew_0 : decode cX10_startAnew 0 = .ok (.aload_n 1, 1) := by decide +kernel
theorem dX10_startAnew_1 : decode cX10_startAnew 1 = .ok (.getfield 58, 3) := by decide +kernel
theorem dX10_startAnew_4 : decode cX10_startAnew 4 = .ok (.iconst 0, 1) := by decide +kernel
theorem dX10_startAnew_5 : decode cX10_startAnew 5 = .ok (.aload_n 0, 1) := by decide +kernel
theorem dX10_startAnew_6 : decode cX10_startAnew 6 = .ok (.getfield 9, 3) := by decide +kernel
theorem dX10_startAnew_9 : decode cX10_startAnew 9 = .ok (.iconst 0, 1) := by decide +kernel
theorem dX10_startAnew_10 : decode cX10_startAnew 10 = .ok (.bipush 36, 2) := by decide +kernel
theorem dX10_startAnew_12 : decode cX10_startAnew 12 = .ok (.invokestatic 59, 3) := by decide +kernel
theorem dX10_startAnew_15 : decode cX10_startAnew 15 = .ok (.aload_n 1, 1) := by decide +kernel
theorem dX10_startAnew_16 : decode cX10_startAnew 16 = .ok (.getfield 65, 3) := by decide +kernel
theorem dX10_startAnew_19 : decode cX10_startAnew 19 = .ok (.iconst 0, 1) := by decide +kernel
theorem dX10_startAnew_20 : decode cX10_startAnew 20 = .ok (.aload_n 0, 1) := by decide +kernel
theorem dX10_startAnew_21 : decode cX10_startAnew 21 = .ok (.getfield 15, 3) := by decide +kernel
theorem dX10_startAnew_24 : decode cX10_startAnew 24 = .ok (.iconst 0, 1) := by decide +kernel
theorem dX10_startAnew_25 : decode cX10_startAnew 25 = .ok (.bipush 36, 2) := by decide +kernel
theorem dX10_startAnew_27 : decode cX10_startAnew 27 = .ok (.invokestatic 59, 3) := by decide +kernel
theorem dX10_startAnew_30 : decode cX10_startAnew 30 = .ok (.aload_n 0, 1) := by decide +kernel
theorem dX10_startAnew_31 : decode cX10_startAnew 31 = .ok (.iconst 0, 1) := by decide +kernel
theorem dX10_startAnew_32 : decode cX10_startAnew 32 = .ok (.putfield 43, 3) := by decide +kernel
theorem dX10_startAnew_35 : decode cX10_startAnew 35 = .ok (.aload_n 0, 1) := by decide +kernel
theorem dX10_startAnew_36 : decode cX10_startAnew 36 = .ok (.iconst 0, 1) := by decide +kernel
theorem dX10_startAnew_37 : decode cX10_startAnew 37 = .ok (.putfield 66, 3) := by decide +kernel
theorem dX10_startAnew_40 : decode cX10_startAnew 40 = .ok (.aload_n 0, 1) := by decide +kernel
theorem dX10_startAnew_41 : decode cX10_startAnew 41 = .ok (.iconst 0, 1) := by decide +kernel
theorem dX10_startAnew_42 : decode cX10_startAnew 42 = .ok (.putfield 69, 3) := by decide +kernel
theorem dX10_startAnew_45 : decode cX10_startAnew 45 = .ok (.aload_n 0, 1) := by decide +kernel
theorem dX10_startAnew_46 : decode cX10_startAnew 46 = .ok (.iconst 0, 1) := by decide +kernel
theorem dX10_startAnew_47 : decode cX10_startAnew 47 = .ok (.putfield 28, 3) := by decide +kernel
theorem dX10_startAnew_50 : decode cX10_startAnew 50 = .ok (.aload_n 0, 1) := by decide +kernel
theorem dX10_startAnew_51 : decode cX10_startAnew 51 = .ok (.iconst 0, 1) := by decide +kernel
theorem dX10_startAnew_52 : decode cX10_startAnew 52 = .ok (.putfield 72, 3) := by decide +kernel
theorem dX10_startAnew_55 : decode cX10_startAnew 55 = .ok (.aload_n 0, 1) := by decide +kernel
theorem dX10_startAnew_56 : decode cX10_startAnew 56 = .ok (.iconst 0, 1) := by decide +kernel
theorem dX10_startAnew_57 : decode cX10_startAnew 57 = .ok (.putfield 75, 3) := by decide +kernel
theorem dX10_startAnew_60 : decode cX10_startAnew 60 = .ok (.aload_n 0, 1) := by decide +kernel
theorem dX10_startAnew_61 : decode cX10_startAnew 61 = .ok (.aload_n 1, 1) := by decide +kernel
theorem dX10_startAnew_62 : decode cX10_startAnew 62 = .ok (.iconst 0, 1) := by decide +kernel
theorem dX10_startAnew_63 : decode cX10_startAnew 63 = .ok (.invokevirtual 46, 3) := by decide +kernel
theorem dX10_startAnew_66 : decode cX10_startAnew 66 = .ok (.putfield 78, 3) := by decide +kernel
theorem dX10_startAnew_69 : decode cX10_startAnew 69 = .ok (.aload_n 0, 1) := by decide +kernel
theorem dX10_startAnew_70 : decode cX10_startAnew 70 = .ok (.iconst 0, 1) := by decide +kernel
theorem dX10_startAnew_71 : decode cX10_startAnew 71 = .ok (.putfield 40, 3) := by decide +kernel
theorem dX10_startAnew_74 : decode cX10_startAnew 74 = .ok (.aload_n 0, 1) := by decide +kernel
theorem dX10_startAnew_75 : decode cX10_startAnew 75 = .ok (.iconst 0, 1) := by decide +kernel
theorem dX10_startAnew_76 : decode cX10_startAnew 76 = .ok (.putfield 81, 3) := by decide +kernel
theorem dX10_startAnew_79 : decode cX10_startAnew 79 = .ok (.aload_n 0, 1) := by decide +kernel
theorem dX10_startAnew_80 : decode cX10_startAnew 80 = .ok (.iconst 0, 1) := by decide +kernel
theorem dX10_startAnew_81 : decode cX10_startAnew 81 = .ok (.putfield 84, 3) := by decide +kernel
theorem dX10_startAnew_84 : decode cX10_startAnew 84 = .ok (.aload_n 0, 1) := by decide +kernel
theorem dX10_startAnew_85 : decode cX10_startAnew 85 = .ok (.iconst 0, 1) := by decide +kernel
theorem dX10_startAnew_86 : decode cX10_startAnew 86 = .ok (.putfield 87, 3) := by decide +kernel
theorem dX10_startAnew_89 : decode cX10_startAnew 89 = .ok (.aload_n 0, 1) := by decide +kernel
theorem dX10_startAnew_90 : decode cX10_startAnew 90 = .ok (.iconst (-1), 1) := by decide +kernel
theorem dX10_startAnew_91 : decode cX10_startAnew 91 = .ok (.putfield 90, 3) := by decide +kernel
theorem dX10_startAnew_94 : decode cX10_startAnew 94 = .ok (.aload_n 0, 1) := by decide +kernel
theorem dX10_startAnew_95 : decode cX10_startAnew 95 = .ok (.iload_n 2, 1) := by decide +kernel
theorem dX10_startAnew_96 : decode cX10_startAnew 96 = .ok (.putfield 93, 3) := by decide +kernel
theorem dX10_startAnew_99 : decode cX10_startAnew 99 = .ok (.aload_n 0, 1) := by decide +kernel
theorem dX10_startAnew_100 : decode cX10_startAnew 100 = .ok (.iload_n 3, 1) := by decide +kernel
theorem dX10_startAnew_101 : decode cX10_startAnew 101 = .ok (.putfield 96, 3) := by decide +kernel
theorem dX10_startAnew_104 : decode cX10_startAnew 104 = .ok (.return_, 1) := by decide +kernel
theorem dX10_goStep_0 : decode cX10_goStep 0 = .ok (.aload_n 1, 1) := by decide +kernel
theorem dX10_goStep_1 : decode cX10_goStep 1 = .ok (.aload_n 0, 1) := by decide +kernel
theorem dX10_goStep_2 : decode cX10_goStep 2 = .ok (.getfield 78, 3) := by decide +kernel
theorem dX10_goStep_5 : decode cX10_goStep 5 = .ok (.iload_n 2, 1) := by decide +kernel
theorem dX10_goStep_6 : decode cX10_goStep 6 = .ok (.invokevirtual 99, 3) := by decide +kernel
theorem dX10_goStep_9 : decode cX10_goStep 9 = .ok (.istore_n 3, 1) := by decide +kernel
theorem dX10_goStep_10 : decode cX10_goStep 10 = .ok (.iload_n 3, 1) := by decide +kernel
theorem dX10_goStep_11 : decode cX10_goStep 11 = .ok (.ifCond .ge 9, 3) := by decide +kernel
theorem dX10_goStep_14 : decode cX10_goStep 14 = .ok (.aload_n 0, 1) := by decide +kernel
theorem dX10_goStep_15 : decode cX10_goStep 15 = .ok (.iconst 1, 1) := by decide +kernel
theorem dX10_goStep_16 : decode cX10_goStep 16 = .ok (.putfield 28, 3) := by decide +kernel
theorem dX10_goStep_19 : decode cX10_goStep 19 = .ok (.return_, 1) := by decide +kernel
theorem dX10_goStep_20 : decode cX10_goStep 20 = .ok (.aload_n 0, 1) := by decide +kernel
theorem dX10_goStep_21 : decode cX10_goStep 21 = .ok (.dup, 1) := by decide +kernel
theorem dX10_goStep_22 : decode cX10_goStep 22 = .ok (.getfield 43, 3) := by decide +kernel
theorem dX10_goStep_25 : decode cX10_goStep 25 = .ok (.aload_n 1, 1) := by decide +kernel
theorem dX10_goStep_26 : decode cX10_goStep 26 = .ok (.iload_n 2, 1) := by decide +kernel
theorem dX10_goStep_27 : decode cX10_goStep 27 = .ok (.iload_n 3, 1) := by decide +kernel
theorem dX10_goStep_28 : decode cX10_goStep 28 = .ok (.invokevirtual 102, 3) := by decide +kernel
theorem dX10_goStep_31 : decode cX10_goStep 31 = .ok (.iadd, 1) := by decide +kernel
theorem dX10_goStep_32 : decode cX10_goStep 32 = .ok (.putfield 43, 3) := by decide +kernel
theorem dX10_goStep_35 : decode cX10_goStep 35 = .ok (.aload_n 0, 1) := by decide +kernel
theorem dX10_goStep_36 : decode cX10_goStep 36 = .ok (.iload_n 3, 1) := by decide +kernel
theorem dX10_goStep_37 : decode cX10_goStep 37 = .ok (.putfield 78, 3) := by decide +kernel
theorem dX10_goStep_40 : decode cX10_goStep 40 = .ok (.aload_n 0, 1) := by decide +kernel
theorem dX10_goStep_41 : decode cX10_goStep 41 = .ok (.dup, 1) := by decide +kernel
theorem dX10_goStep_42 : decode cX10_goStep 42 = .ok (.getfield 69, 3) := by decide +kernel
theorem dX10_goStep_45 : decode cX10_goStep 45 = .ok (.iconst 1, 1) := by decide +kernel
theorem dX10_goStep_46 : decode cX10_goStep 46 = .ok (.iadd, 1) := by decide +kernel
theorem dX10_goStep_47 : decode cX10_goStep 47 = .ok (.putfield 69, 3) := by decide +kernel
theorem dX10_goStep_50 : decode cX10_goStep 50 = .ok (.aload_n 1, 1) := by decide +kernel
theorem dX10_goStep_51 : decode cX10_goStep 51 = .ok (.getfield 105, 3) := by decide +kernel
theorem dX10_goStep_54 : decode cX10_goStep 54 = .ok (.iload_n 3, 1) := by decide +kernel
theorem dX10_goStep_55 : decode cX10_goStep 55 = .ok (.iaload, 1) := by decide +kernel
theorem dX10_goStep_56 : decode cX10_goStep 56 = .ok (.iconst 4, 1) := by decide +kernel
theorem dX10_goStep_57 : decode cX10_goStep 57 = .ok (.if_icmp .ne 39, 3) := by decide +kernel
theorem dX10_goStep_60 : decode cX10_goStep 60 = .ok (.aload_n 0, 1) := by decide +kernel
theorem dX10_goStep_61 : decode cX10_goStep 61 = .ok (.getfield 75, 3) := by decide +kernel
theorem dX10_goStep_64 : decode cX10_goStep 64 = .ok (.ifCond .le 32, 3) := by decide +kernel
theorem dX10_goStep_67 : decode cX10_goStep 67 = .ok (.aload_n 0, 1) := by decide +kernel
theorem dX10_goStep_68 : decode cX10_goStep 68 = .ok (.iconst 0, 1) := by decide +kernel
theorem dX10_goStep_69 : decode cX10_goStep 69 = .ok (.putfield 75, 3) := by decide +kernel
theorem dX10_goStep_72 : decode cX10_goStep 72 = .ok (.aload_n 0, 1) := by decide +kernel
theorem dX10_goStep_73 : decode cX10_goStep 73 = .ok (.dup, 1) := by decide +kernel
theorem dX10_goStep_74 : decode cX10_goStep 74 = .ok (.getfield 72, 3) := by decide +kernel
theorem dX10_goStep_77 : decode cX10_goStep 77 = .ok (.iconst 1, 1) := by decide +kernel
theorem dX10_goStep_78 : decode cX10_goStep 78 = .ok (.iadd, 1) := by decide +kernel
theorem dX10_goStep_79 : decode cX10_goStep 79 = .ok (.putfield 72, 3) := by decide +kernel
theorem dX10_goStep_82 : decode cX10_goStep 82 = .ok (.aload_n 0, 1) := by decide +kernel
theorem dX10_goStep_83 : decode cX10_goStep 83 = .ok (.dup, 1) := by decide +kernel
theorem dX10_goStep_84 : decode cX10_goStep 84 = .ok (.getfield 43, 3) := by decide +kernel
theorem dX10_goStep_87 : decode cX10_goStep 87 = .ok (.aload_n 1, 1) := by decide +kernel
theorem dX10_goStep_88 : decode cX10_goStep 88 = .ok (.iconst 4, 1) := by decide +kernel
theorem dX10_goStep_89 : decode cX10_goStep 89 = .ok (.invokevirtual 46, 3) := by decide +kernel
theorem dX10_goStep_92 : decode cX10_goStep 92 = .ok (.iadd, 1) := by decide +kernel
theorem dX10_goStep_93 : decode cX10_goStep 93 = .ok (.putfield 43, 3) := by decide +kernel
theorem dX10_goStep_96 : decode cX10_goStep 96 = .ok (.aload_n 0, 1) := by decide +kernel
theorem dX10_goStep_97 : decode cX10_goStep 97 = .ok (.getfield 9, 3) := by decide +kernel
theorem dX10_goStep_100 : decode cX10_goStep 100 = .ok (.iload_n 3, 1) := by decide +kernel
theorem dX10_goStep_101 : decode cX10_goStep 101 = .ok (.iaload, 1) := by decide +kernel
theorem dX10_goStep_102 : decode cX10_goStep 102 = .ok (.ifCond .le 14, 3) := by decide +kernel
theorem dX10_goStep_105 : decode cX10_goStep 105 = .ok (.aload_n 0, 1) := by decide +kernel
theorem dX10_goStep_106 : decode cX10_goStep 106 = .ok (.iload_n 2, 1) := by decide +kernel
theorem dX10_goStep_107 : decode cX10_goStep 107 = .ok (.aload_n 1, 1) := by decide +kernel
theorem dX10_goStep_108 : decode cX10_goStep 108 = .ok (.bipush 6, 2) := by decide +kernel
theorem dX10_goStep_110 : decode cX10_goStep 110 = .ok (.invokevirtual 46, 3) := by decide +kernel
theorem dX10_goStep_113 : decode cX10_goStep 113 = .ok (.invokevirtual 108, 3) := by decide +kernel
theorem dX10_goStep_116 : decode cX10_goStep 116 = .ok (.return_, 1) := by decide +kernel
theorem dX10_meetGrass_0 : decode cX10_meetGrass 0 = .ok (.aload_n 0, 1) := by decide +kernel
theorem dX10_meetGrass_1 : decode cX10_meetGrass 1 = .ok (.getfield 78, 3) := by decide +kernel
theorem dX10_meetGrass_4 : decode cX10_meetGrass 4 = .ok (.invokestatic 112, 3) := by decide +kernel
theorem dX10_meetGrass_7 : decode cX10_meetGrass 7 = .ok (.ifCond .ne 4, 3) := by decide +kernel
theorem dX10_meetGrass_10 : decode cX10_meetGrass 10 = .ok (.return_, 1) := by decide +kernel
theorem dX10_meetGrass_11 : decode cX10_meetGrass 11 = .ok (.aload_n 0, 1) := by decide +kernel
theorem dX10_meetGrass_12 : decode cX10_meetGrass 12 = .ok (.getfield 90, 3) := by decide +kernel
theorem dX10_meetGrass_15 : decode cX10_meetGrass 15 = .ok (.ifCond .ge 11, 3) := by decide +kernel
theorem dX10_meetGrass_18 : decode cX10_meetGrass 18 = .ok (.aload_n 0, 1) := by decide +kernel
theorem dX10_meetGrass_19 : decode cX10_meetGrass 19 = .ok (.aload_n 0, 1) := by decide +kernel
theorem dX10_meetGrass_20 : decode cX10_meetGrass 20 = .ok (.getfield 43, 3) := by decide +kernel
theorem dX10_meetGrass_23 : decode cX10_meetGrass 23 = .ok (.putfield 90, 3) := by decide +kernel
theorem dX10_meetGrass_26 : decode cX10_meetGrass 26 = .ok (.aload_n 0, 1) := by decide +kernel
theorem dX10_meetGrass_27 : decode cX10_meetGrass 27 = .ok (.getfield 93, 3) := by decide +kernel
theorem dX10_meetGrass_30 : decode cX10_meetGrass 30 = .ok (.aload_n 0, 1) := by decide +kernel
theorem dX10_meetGrass_31 : decode cX10_meetGrass 31 = .ok (.getfield 43, 3) := by decide +kernel
theorem dX10_meetGrass_34 : decode cX10_meetGrass 34 = .ok (.iadd, 1) := by decide +kernel
theorem dX10_meetGrass_35 : decode cX10_meetGrass 35 = .ok (.iload_n 2, 1) := by decide +kernel
theorem dX10_meetGrass_36 : decode cX10_meetGrass 36 = .ok (.if_icmp .ge 16, 3) := by decide +kernel
theorem dX10_meetGrass_39 : decode cX10_meetGrass 39 = .ok (.aload_n 0, 1) := by decide +kernel
theorem dX10_meetGrass_40 : decode cX10_meetGrass 40 = .ok (.dup, 1) := by decide +kernel
theorem dX10_meetGrass_41 : decode cX10_meetGrass 41 = .ok (.getfield 81, 3) := by decide +kernel
theorem dX10_meetGrass_44 : decode cX10_meetGrass 44 = .ok (.iconst 1, 1) := by decide +kernel
theorem dX10_meetGrass_45 : decode cX10_meetGrass 45 = .ok (.iadd, 1) := by decide +kernel
theorem dX10_meetGrass_46 : decode cX10_meetGrass 46 = .ok (.putfield 81, 3) := by decide +kernel
theorem dX10_meetGrass_49 : decode cX10_meetGrass 49 = .ok (.goto 100, 3) := by decide +kernel
theorem dX10_meetGrass_52 : decode cX10_meetGrass 52 = .ok (.aload_n 0, 1) := by decide +kernel
theorem dX10_meetGrass_53 : decode cX10_meetGrass 53 = .ok (.getfield 75, 3) := by decide +kernel
theorem dX10_meetGrass_56 : decode cX10_meetGrass 56 = .ok (.aload_n 0, 1) := by decide +kernel
theorem dX10_meetGrass_57 : decode cX10_meetGrass 57 = .ok (.getfield 9, 3) := by decide +kernel
theorem dX10_meetGrass_60 : decode cX10_meetGrass 60 = .ok (.aload_n 0, 1) := by decide +kernel
theorem dX10_meetGrass_61 : decode cX10_meetGrass 61 = .ok (.getfield 78, 3) := by decide +kernel
theorem dX10_meetGrass_64 : decode cX10_meetGrass 64 = .ok (.iaload, 1) := by decide +kernel
theorem dX10_meetGrass_65 : decode cX10_meetGrass 65 = .ok (.iadd, 1) := by decide +kernel
theorem dX10_meetGrass_66 : decode cX10_meetGrass 66 = .ok (.aload_n 0, 1) := by decide +kernel
theorem dX10_meetGrass_67 : decode cX10_meetGrass 67 = .ok (.getfield 96, 3) := by decide +kernel
theorem dX10_meetGrass_70 : decode cX10_meetGrass 70 = .ok (.if_icmp .gt 69, 3) := by decide +kernel
theorem dX10_meetGrass_73 : decode cX10_meetGrass 73 = .ok (.aload_n 0, 1) := by decide +kernel
theorem dX10_meetGrass_74 : decode cX10_meetGrass 74 = .ok (.dup, 1) := by decide +kernel
theorem dX10_meetGrass_75 : decode cX10_meetGrass 75 = .ok (.getfield 75, 3) := by decide +kernel
theorem dX10_meetGrass_78 : decode cX10_meetGrass 78 = .ok (.aload_n 0, 1) := by decide +kernel
theorem dX10_meetGrass_79 : decode cX10_meetGrass 79 = .ok (.getfield 9, 3) := by decide +kernel
theorem dX10_meetGrass_82 : decode cX10_meetGrass 82 = .ok (.aload_n 0, 1) := by decide +kernel
theorem dX10_meetGrass_83 : decode cX10_meetGrass 83 = .ok (.getfield 78, 3) := by decide +kernel
theorem dX10_meetGrass_86 : decode cX10_meetGrass 86 = .ok (.iaload, 1) := by decide +kernel
theorem dX10_meetGrass_87 : decode cX10_meetGrass 87 = .ok (.iadd, 1) := by decide +kernel
theorem dX10_meetGrass_88 : decode cX10_meetGrass 88 = .ok (.putfield 75, 3) := by decide +kernel
theorem dX10_meetGrass_91 : decode cX10_meetGrass 91 = .ok (.aload_n 0, 1) := by decide +kernel
theorem dX10_meetGrass_92 : decode cX10_meetGrass 92 = .ok (.aload_n 0, 1) := by decide +kernel
theorem dX10_meetGrass_93 : decode cX10_meetGrass 93 = .ok (.getfield 87, 3) := by decide +kernel
theorem dX10_meetGrass_96 : decode cX10_meetGrass 96 = .ok (.aload_n 0, 1) := by decide +kernel
theorem dX10_meetGrass_97 : decode cX10_meetGrass 97 = .ok (.getfield 75, 3) := by decide +kernel
theorem dX10_meetGrass_100 : decode cX10_meetGrass 100 = .ok (.invokestatic 116, 3) := by decide +kernel
theorem dX10_meetGrass_103 : decode cX10_meetGrass 103 = .ok (.putfield 87, 3) := by decide +kernel
theorem dX10_meetGrass_106 : decode cX10_meetGrass 106 = .ok (.aload_n 0, 1) := by decide +kernel
theorem dX10_meetGrass_107 : decode cX10_meetGrass 107 = .ok (.getfield 9, 3) := by decide +kernel
theorem dX10_meetGrass_110 : decode cX10_meetGrass 110 = .ok (.aload_n 0, 1) := by decide +kernel
theorem dX10_meetGrass_111 : decode cX10_meetGrass 111 = .ok (.getfield 78, 3) := by decide +kernel
theorem dX10_meetGrass_114 : decode cX10_meetGrass 114 = .ok (.iconst 0, 1) := by decide +kernel
theorem dX10_meetGrass_115 : decode cX10_meetGrass 115 = .ok (.iastore, 1) := by decide +kernel
theorem dX10_meetGrass_116 : decode cX10_meetGrass 116 = .ok (.aload_n 0, 1) := by decide +kernel
theorem dX10_meetGrass_117 : decode cX10_meetGrass 117 = .ok (.getfield 15, 3) := by decide +kernel
theorem dX10_meetGrass_120 : decode cX10_meetGrass 120 = .ok (.aload_n 0, 1) := by decide +kernel
theorem dX10_meetGrass_121 : decode cX10_meetGrass 121 = .ok (.getfield 78, 3) := by decide +kernel
theorem dX10_meetGrass_124 : decode cX10_meetGrass 124 = .ok (.iload_n 1, 1) := by decide +kernel
theorem dX10_meetGrass_125 : decode cX10_meetGrass 125 = .ok (.iastore, 1) := by decide +kernel
theorem dX10_meetGrass_126 : decode cX10_meetGrass 126 = .ok (.aload_n 0, 1) := by decide +kernel
theorem dX10_meetGrass_127 : decode cX10_meetGrass 127 = .ok (.dup, 1) := by decide +kernel
theorem dX10_meetGrass_128 : decode cX10_meetGrass 128 = .ok (.getfield 66, 3) := by decide +kernel
theorem dX10_meetGrass_131 : decode cX10_meetGrass 131 = .ok (.iconst 1, 1) := by decide +kernel
theorem dX10_meetGrass_132 : decode cX10_meetGrass 132 = .ok (.iadd, 1) := by decide +kernel
theorem dX10_meetGrass_133 : decode cX10_meetGrass 133 = .ok (.putfield 66, 3) := by decide +kernel
theorem dX10_meetGrass_136 : decode cX10_meetGrass 136 = .ok (.goto 13, 3) := by decide +kernel
theorem dX10_meetGrass_139 : decode cX10_meetGrass 139 = .ok (.aload_n 0, 1) := by decide +kernel
theorem dX10_meetGrass_140 : decode cX10_meetGrass 140 = .ok (.dup, 1) := by decide +kernel
theorem dX10_meetGrass_141 : decode cX10_meetGrass 141 = .ok (.getfield 84, 3) := by decide +kernel
theorem dX10_meetGrass_144 : decode cX10_meetGrass 144 = .ok (.iconst 1, 1) := by decide +kernel
theorem dX10_meetGrass_145 : decode cX10_meetGrass 145 = .ok (.iadd, 1) := by decide +kernel
theorem dX10_meetGrass_146 : decode cX10_meetGrass 146 = .ok (.putfield 84, 3) := by decide +kernel
theorem dX10_meetGrass_149 : decode cX10_meetGrass 149 = .ok (.return_, 1) := by decide +kernel
theorem dX11_init_0 : decode cX11_init 0 = .ok (.aload_n 0, 1) := by decide +kernel
theorem dX11_init_1 : decode cX11_init 1 = .ok (.invokespecial 3, 3) := by decide +kernel
theorem dX11_init_4 : decode cX11_init 4 = .ok (.aload_n 0, 1) := by decide +kernel
theorem dX11_init_5 : decode cX11_init 5 = .ok (.new 9, 3) := by decide +kernel
theorem dX11_init_8 : decode cX11_init 8 = .ok (.dup, 1) := by decide +kernel
theorem dX11_init_9 : decode cX11_init 9 = .ok (.invokespecial 11, 3) := by decide +kernel
theorem dX11_init_12 : decode cX11_init 12 = .ok (.putfield 12, 3) := by decide +kernel
theorem dX11_init_15 : decode cX11_init 15 = .ok (.aload_n 0, 1) := by decide +kernel
theorem dX11_init_16 : decode cX11_init 16 = .ok (.new 16, 3) := by decide +kernel
theorem dX11_init_19 : decode cX11_init 19 = .ok (.dup, 1) := by decide +kernel
theorem dX11_init_20 : decode cX11_init 20 = .ok (.invokespecial 18, 3) := by decide +kernel
theorem dX11_init_23 : decode cX11_init 23 = .ok (.putfield 19, 3) := by decide +kernel
theorem dX11_init_26 : decode cX11_init 26 = .ok (.aload_n 0, 1) := by decide +kernel
theorem dX11_init_27 : decode cX11_init 27 = .ok (.new 23, 3) := by decide +kernel
theorem dX11_init_30 : decode cX11_init 30 = .ok (.dup, 1) := by decide +kernel
theorem dX11_init_31 : decode cX11_init 31 = .ok (.invokespecial 25, 3) := by decide +kernel
theorem dX11_init_34 : decode cX11_init 34 = .ok (.putfield 26, 3) := by decide +kernel
theorem dX11_init_37 : decode cX11_init 37 = .ok (.aload_n 0, 1) := by decide +kernel
theorem dX11_init_38 : decode cX11_init 38 = .ok (.new 30, 3) := by decide +kernel
theorem dX11_init_41 : decode cX11_init 41 = .ok (.dup, 1) := by decide +kernel
theorem dX11_init_42 : decode cX11_init 42 = .ok (.invokespecial 32, 3) := by decide +kernel
theorem dX11_init_45 : decode cX11_init 45 = .ok (.putfield 33, 3) := by decide +kernel
theorem dX11_init_48 : decode cX11_init 48 = .ok (.aload_n 0, 1) := by decide +kernel
theorem dX11_init_49 : decode cX11_init 49 = .ok (.new 30, 3) := by decide +kernel
theorem dX11_init_52 : decode cX11_init 52 = .ok (.dup, 1) := by decide +kernel
theorem dX11_init_53 : decode cX11_init 53 = .ok (.invokespecial 32, 3) := by decide +kernel
theorem dX11_init_56 : decode cX11_init 56 = .ok (.putfield 37, 3) := by decide +kernel
theorem dX11_init_59 : decode cX11_init 59 = .ok (.aload_n 0, 1) := by decide +kernel
theorem dX11_init_60 : decode cX11_init 60 = .ok (.new 40, 3) := by decide +kernel
theorem dX11_init_63 : decode cX11_init 63 = .ok (.dup, 1) := by decide +kernel
theorem dX11_init_64 : decode cX11_init 64 = .ok (.invokespecial 42, 3) := by decide +kernel
theorem dX11_init_67 : decode cX11_init 67 = .ok (.putfield 43, 3) := by decide +kernel
theorem dX11_init_70 : decode cX11_init 70 = .ok (.aload_n 0, 1) := by decide +kernel
theorem dX11_init_71 : decode cX11_init 71 = .ok (.new 47, 3) := by decide +kernel
theorem dX11_init_74 : decode cX11_init 74 = .ok (.dup, 1) := by decide +kernel
theorem dX11_init_75 : decode cX11_init 75 = .ok (.invokespecial 49, 3) := by decide +kernel
theorem dX11_init_78 : decode cX11_init 78 = .ok (.putfield 50, 3) := by decide +kernel
theorem dX11_init_81 : decode cX11_init 81 = .ok (.aload_n 0, 1) := by decide +kernel
theorem dX11_init_82 : decode cX11_init 82 = .ok (.new 54, 3) := by decide +kernel
theorem dX11_init_85 : decode cX11_init 85 = .ok (.dup, 1) := by decide +kernel
theorem dX11_init_86 : decode cX11_init 86 = .ok (.invokespecial 56, 3) := by decide +kernel
theorem dX11_init_89 : decode cX11_init 89 = .ok (.putfield 57, 3) := by decide +kernel
theorem dX11_init_92 : decode cX11_init 92 = .ok (.aload_n 0, 1) := by decide +kernel
theorem dX11_init_93 : decode cX11_init 93 = .ok (.new 61, 3) := by decide +kernel
theorem dX11_init_96 : decode cX11_init 96 = .ok (.dup, 1) := by decide +kernel
theorem dX11_init_97 : decode cX11_init 97 = .ok (.invokespecial 63, 3) := by decide +kernel
theorem dX11_init_100 : decode cX11_init 100 = .ok (.putfield 64, 3) := by decide +kernel
theorem dX11_init_103 : decode cX11_init 103 = .ok (.aload_n 0, 1) := by decide +kernel
theorem dX11_init_104 : decode cX11_init 104 = .ok (.new 68, 3) := by decide +kernel
theorem dX11_init_107 : decode cX11_init 107 = .ok (.dup, 1) := by decide +kernel
theorem dX11_init_108 : decode cX11_init 108 = .ok (.invokespecial 70, 3) := by decide +kernel
theorem dX11_init_111 : decode cX11_init 111 = .ok (.putfield 71, 3) := by decide +kernel
theorem dX11_init_114 : decode cX11_init 114 = .ok (.aload_n 0, 1) := by decide +kernel
theorem dX11_init_115 : decode cX11_init 115 = .ok (.new 75, 3) := by decide +kernel
theorem dX11_init_118 : decode cX11_init 118 = .ok (.dup, 1) := by decide +kernel
theorem dX11_init_119 : decode cX11_init 119 = .ok (.invokespecial 77, 3) := by decide +kernel
theorem dX11_init_122 : decode cX11_init 122 = .ok (.putfield 78, 3) := by decide +kernel
theorem dX11_init_125 : decode cX11_init 125 = .ok (.aload_n 0, 1) := by decide +kernel
theorem dX11_init_126 : decode cX11_init 126 = .ok (.iconst 2, 1) := by decide +kernel
theorem dX11_init_127 : decode cX11_init 127 = .ok (.anewarray 23, 3) := by decide +kernel
theorem dX11_init_130 : decode cX11_init 130 = .ok (.dup, 1) := by decide +kernel
theorem dX11_init_131 : decode cX11_init 131 = .ok (.iconst 0, 1) := by decide +kernel
theorem dX11_init_132 : decode cX11_init 132 = .ok (.new 23, 3) := by decide +kernel
theorem dX11_init_135 : decode cX11_init 135 = .ok (.dup, 1) := by decide +kernel
theorem dX11_init_136 : decode cX11_init 136 = .ok (.invokespecial 25, 3) := by decide +kernel
theorem dX11_init_139 : decode cX11_init 139 = .ok (.aastore, 1) := by decide +kernel
theorem dX11_init_140 : decode cX11_init 140 = .ok (.dup, 1) := by decide +kernel
theorem dX11_init_141 : decode cX11_init 141 = .ok (.iconst 1, 1) := by decide +kernel
theorem dX11_init_142 : decode cX11_init 142 = .ok (.new 23, 3) := by decide +kernel
theorem dX11_init_145 : decode cX11_init 145 = .ok (.dup, 1) := by decide +kernel
theorem dX11_init_146 : decode cX11_init 146 = .ok (.invokespecial 25, 3) := by decide +kernel
theorem dX11_init_149 : decode cX11_init 149 = .ok (.aastore, 1) := by decide +kernel
theorem dX11_init_150 : decode cX11_init 150 = .ok (.putfield 82, 3) := by decide +kernel
theorem dX11_init_153 : decode cX11_init 153 = .ok (.aload_n 0, 1) := by decide +kernel
theorem dX11_init_154 : decode cX11_init 154 = .ok (.iconst 2, 1) := by decide +kernel
theorem dX11_init_155 : decode cX11_init 155 = .ok (.anewarray 30, 3) := by decide +kernel
theorem dX11_init_158 : decode cX11_init 158 = .ok (.dup, 1) := by decide +kernel
theorem dX11_init_159 : decode cX11_init 159 = .ok (.iconst 0, 1) := by decide +kernel
theorem dX11_init_160 : decode cX11_init 160 = .ok (.new 30, 3) := by decide +kernel
theorem dX11_init_163 : decode cX11_init 163 = .ok (.dup, 1) := by decide +kernel
theorem dX11_init_164 : decode cX11_init 164 = .ok (.invokespecial 32, 3) := by decide +kernel
theorem dX11_init_167 : decode cX11_init 167 = .ok (.aastore, 1) := by decide +kernel
theorem dX11_init_168 : decode cX11_init 168 = .ok (.dup, 1) := by decide +kernel
theorem dX11_init_169 : decode cX11_init 169 = .ok (.iconst 1, 1) := by decide +kernel
theorem dX11_init_170 : decode cX11_init 170 = .ok (.new 30, 3) := by decide +kernel
theorem dX11_init_173 : decode cX11_init 173 = .ok (.dup, 1) := by decide +kernel
theorem dX11_init_174 : decode cX11_init 174 = .ok (.invokespecial 32, 3) := by decide +kernel
theorem dX11_init_177 : decode cX11_init 177 = .ok (.aastore, 1) := by decide +kernel
theorem dX11_init_178 : decode cX11_init 178 = .ok (.putfield 86, 3) := by decide +kernel
theorem dX11_init_181 : decode cX11_init 181 = .ok (.aload_n 0, 1) := by decide +kernel
theorem dX11_init_182 : decode cX11_init 182 = .ok (.iconst 2, 1) := by decide +kernel
theorem dX11_init_183 : decode cX11_init 183 = .ok (.newarray .boolean, 2) := by decide +kernel
theorem dX11_init_185 : decode cX11_init 185 = .ok (.putfield 90, 3) := by decide +kernel
theorem dX11_init_188 : decode cX11_init 188 = .ok (.aload_n 0, 1) := by decide +kernel
theorem dX11_init_189 : decode cX11_init 189 = .ok (.iconst 4, 1) := by decide +kernel
theorem dX11_init_190 : decode cX11_init 190 = .ok (.anewarray 94, 3) := by decide +kernel
theorem dX11_init_193 : decode cX11_init 193 = .ok (.dup, 1) := by decide +kernel
theorem dX11_init_194 : decode cX11_init 194 = .ok (.iconst 0, 1) := by decide +kernel
theorem dX11_init_195 : decode cX11_init 195 = .ok (.new 94, 3) := by decide +kernel
theorem dX11_init_198 : decode cX11_init 198 = .ok (.dup, 1) := by decide +kernel
theorem dX11_init_199 : decode cX11_init 199 = .ok (.invokespecial 96, 3) := by decide +kernel
theorem dX11_init_202 : decode cX11_init 202 = .ok (.aastore, 1) := by decide +kernel
theorem dX11_init_203 : decode cX11_init 203 = .ok (.dup, 1) := by decide +kernel
theorem dX11_init_204 : decode cX11_init 204 = .ok (.iconst 1, 1) := by decide +kernel
theorem dX11_init_205 : decode cX11_init 205 = .ok (.new 94, 3) := by decide +kernel
theorem dX11_init_208 : decode cX11_init 208 = .ok (.dup, 1) := by decide +kernel
theorem dX11_init_209 : decode cX11_init 209 = .ok (.invokespecial 96, 3) := by decide +kernel
theorem dX11_init_212 : decode cX11_init 212 = .ok (.aastore, 1) := by decide +kernel
theorem dX11_init_213 : decode cX11_init 213 = .ok (.dup, 1) := by decide +kernel
theorem dX11_init_214 : decode cX11_init 214 = .ok (.iconst 2, 1) := by decide +kernel
theorem dX11_init_215 : decode cX11_init 215 = .ok (.new 94, 3) := by decide +kernel
theorem dX11_init_218 : decode cX11_init 218 = .ok (.dup, 1) := by decide +kernel
theorem dX11_init_219 : decode cX11_init 219 = .ok (.invokespecial 96, 3) := by decide +kernel
theorem dX11_init_222 : decode cX11_init 222 = .ok (.aastore, 1) := by decide +kernel
theorem dX11_init_223 : decode cX11_init 223 = .ok (.dup, 1) := by decide +kernel
theorem dX11_init_224 : decode cX11_init 224 = .ok (.iconst 3, 1) := by decide +kernel
theorem dX11_init_225 : decode cX11_init 225 = .ok (.new 94, 3) := by decide +kernel
theorem dX11_init_228 : decode cX11_init 228 = .ok (.dup, 1) := by decide +kernel
theorem dX11_init_229 : decode cX11_init 229 = .ok (.invokespecial 96, 3) := by decide +kernel
theorem dX11_init_232 : decode cX11_init 232 = .ok (.aastore, 1) := by decide +kernel
theorem dX11_init_233 : decode cX11_init 233 = .ok (.putfield 97, 3) := by decide +kernel
theorem dX11_init_236 : decode cX11_init 236 = .ok (.aload_n 0, 1) := by decide +kernel
theorem dX11_init_237 : decode cX11_init 237 = .ok (.iconst 0, 1) := by decide +kernel
theorem dX11_init_238 : decode cX11_init 238 = .ok (.putfield 101, 3) := by decide +kernel
theorem dX11_init_241 : decode cX11_init 241 = .ok (.return_, 1) := by decide +kernel
theorem dX11_feed_0 : decode cX11_feed 0 = .ok (.aload_n 0, 1) := by decide +kernel
theorem dX11_feed_1 : decode cX11_feed 1 = .ok (.getfield 12, 3) := by decide +kernel
theorem dX11_feed_4 : decode cX11_feed 4 = .ok (.lload_n 1, 1) := by decide +kernel
theorem dX11_feed_5 : decode cX11_feed 5 = .ok (.invokevirtual 105, 3) := by decide +kernel
theorem dX11_feed_8 : decode cX11_feed 8 = .ok (.ifCond .eq 13, 3) := by decide +kernel
theorem dX11_feed_11 : decode cX11_feed 11 = .ok (.aload_n 0, 1) := by decide +kernel
theorem dX11_feed_12 : decode cX11_feed 12 = .ok (.getfield 12, 3) := by decide +kernel
theorem dX11_feed_15 : decode cX11_feed 15 = .ok (.getfield 109, 3) := by decide +kernel
theorem dX11_feed_18 : decode cX11_feed 18 = .ok (.goto 5, 3) := by decide +kernel
theorem dX11_feed_21 : decode cX11_feed 21 = .ok (.bipush (-3), 2) := by decide +kernel
theorem dX11_feed_23 : decode cX11_feed 23 = .ok (.ireturn, 1) := by decide +kernel
theorem dX11_end_0 : decode cX11_end 0 = .ok (.iload_n 1, 1) := by decide +kernel
theorem dX11_end_1 : decode cX11_end 1 = .ok (.ifCond .lt 14, 3) := by decide +kernel
theorem dX11_end_4 : decode cX11_end 4 = .ok (.iload_n 1, 1) := by decide +kernel
theorem dX11_end_5 : decode cX11_end 5 = .ok (.aload_n 0, 1) := by decide +kernel
theorem dX11_end_6 : decode cX11_end 6 = .ok (.getfield 12, 3) := by decide +kernel
theorem dX11_end_9 : decode cX11_end 9 = .ok (.getfield 109, 3) := by decide +kernel
theorem dX11_end_12 : decode cX11_end 12 = .ok (.if_icmp .le 5, 3) := by decide +kernel
theorem dX11_end_15 : decode cX11_end 15 = .ok (.iconst (-1), 1) := by decide +kernel
theorem dX11_end_16 : decode cX11_end 16 = .ok (.ireturn, 1) := by decide +kernel
theorem dX11_end_17 : decode cX11_end 17 = .ok (.aload_n 0, 1) := by decide +kernel
theorem dX11_end_18 : decode cX11_end 18 = .ok (.getfield 12, 3) := by decide +kernel
theorem dX11_end_21 : decode cX11_end 21 = .ok (.getfield 109, 3) := by decide +kernel
theorem dX11_end_24 : decode cX11_end 24 = .ok (.istore_n 2, 1) := by decide +kernel
theorem dX11_end_25 : decode cX11_end 25 = .ok (.aload_n 0, 1) := by decide +kernel
theorem dX11_end_26 : decode cX11_end 26 = .ok (.getfield 12, 3) := by decide +kernel
theorem dX11_end_29 : decode cX11_end 29 = .ok (.iload_n 1, 1) := by decide +kernel
theorem dX11_end_30 : decode cX11_end 30 = .ok (.putfield 109, 3) := by decide +kernel
theorem dX11_end_33 : decode cX11_end 33 = .ok (.iload_n 2, 1) := by decide +kernel
theorem dX11_end_34 : decode cX11_end 34 = .ok (.ireturn, 1) := by decide +kernel
theorem dX11_garden_0 : decode cX11_garden 0 = .ok (.aload_n 0, 1) := by decide +kernel
theorem dX11_garden_1 : decode cX11_garden 1 = .ok (.getfield 19, 3) := by decide +kernel
theorem dX11_garden_4 : decode cX11_garden 4 = .ok (.aload_n 0, 1) := by decide +kernel
theorem dX11_garden_5 : decode cX11_garden 5 = .ok (.getfield 12, 3) := by decide +kernel
theorem dX11_garden_8 : decode cX11_garden 8 = .ok (.invokevirtual 112, 3) := by decide +kernel
theorem dX11_garden_11 : decode cX11_garden 11 = .ok (.istore_n 1, 1) := by decide +kernel
theorem dX11_garden_12 : decode cX11_garden 12 = .ok (.aload_n 0, 1) := by decide +kernel
theorem dX11_garden_13 : decode cX11_garden 13 = .ok (.getfield 12, 3) := by decide +kernel
theorem dX11_garden_16 : decode cX11_garden 16 = .ok (.iconst 0, 1) := by decide +kernel
theorem dX11_garden_17 : decode cX11_garden 17 = .ok (.putfield 109, 3) := by decide +kernel
theorem dX11_garden_20 : decode cX11_garden 20 = .ok (.iload_n 1, 1) := by decide +kernel
theorem dX11_garden_21 : decode cX11_garden 21 = .ok (.ifCond .ne 14, 3) := by decide +kernel
theorem dX11_garden_24 : decode cX11_garden 24 = .ok (.bipush (-10), 2) := by decide +kernel
theorem dX11_garden_26 : decode cX11_garden 26 = .ok (.aload_n 0, 1) := by decide +kernel
theorem dX11_garden_27 : decode cX11_garden 27 = .ok (.getfield 19, 3) := by decide +kernel
theorem dX11_garden_30 : decode cX11_garden 30 = .ok (.getfield 116, 3) := by decide +kernel
theorem dX11_garden_33 : decode cX11_garden 33 = .ok (.isub, 1) := by decide +kernel
theorem dX11_garden_34 : decode cX11_garden 34 = .ok (.ireturn, 1) := by decide +kernel
theorem dX11_garden_35 : decode cX11_garden 35 = .ok (.aload_n 0, 1) := by decide +kernel
theorem dX11_garden_36 : decode cX11_garden 36 = .ok (.getfield 26, 3) := by decide +kernel
theorem dX11_garden_39 : decode cX11_garden 39 = .ok (.aload_n 0, 1) := by decide +kernel
theorem dX11_garden_40 : decode cX11_garden 40 = .ok (.getfield 19, 3) := by decide +kernel
theorem dX11_garden_43 : decode cX11_garden 43 = .ok (.getfield 119, 3) := by decide +kernel
theorem dX11_garden_46 : decode cX11_garden 46 = .ok (.invokevirtual 122, 3) := by decide +kernel
theorem dX11_garden_49 : decode cX11_garden 49 = .ok (.aload_n 0, 1) := by decide +kernel
theorem dX11_garden_50 : decode cX11_garden 50 = .ok (.getfield 33, 3) := by decide +kernel
theorem dX11_garden_53 : decode cX11_garden 53 = .ok (.iconst 0, 1) := by decide +kernel
theorem dX11_garden_54 : decode cX11_garden 54 = .ok (.putfield 126, 3) := by decide +kernel
theorem dX11_garden_57 : decode cX11_garden 57 = .ok (.aload_n 0, 1) := by decide +kernel
theorem dX11_garden_58 : decode cX11_garden 58 = .ok (.getfield 64, 3) := by decide +kernel
theorem dX11_garden_61 : decode cX11_garden 61 = .ok (.invokevirtual 129, 3) := by decide +kernel
theorem dX11_garden_64 : decode cX11_garden 64 = .ok (.aload_n 0, 1) := by decide +kernel
theorem dX11_garden_65 : decode cX11_garden 65 = .ok (.getfield 19, 3) := by decide +kernel
theorem dX11_garden_68 : decode cX11_garden 68 = .ok (.getfield 132, 3) := by decide +kernel
theorem dX11_garden_71 : decode cX11_garden 71 = .ok (.ireturn, 1) := by decide +kernel
theorem dX11_fault_0 : decode cX11_fault 0 = .ok (.aload_n 0, 1) := by decide +kernel
theorem dX11_fault_1 : decode cX11_fault 1 = .ok (.getfield 19, 3) := by decide +kernel
theorem dX11_fault_4 : decode cX11_fault 4 = .ok (.getfield 135, 3) := by decide +kernel
theorem dX11_fault_7 : decode cX11_fault 7 = .ok (.ireturn, 1) := by decide +kernel
theorem dX11_rule_0 : decode cX11_rule 0 = .ok (.iload_n 1, 1) := by decide +kernel
theorem dX11_rule_1 : decode cX11_rule 1 = .ok (.iconst 0, 1) := by decide +kernel
theorem dX11_rule_2 : decode cX11_rule 2 = .ok (.bipush 6, 2) := by decide +kernel
theorem dX11_rule_4 : decode cX11_rule 4 = .ok (.invokestatic 138, 3) := by decide +kernel
theorem dX11_rule_7 : decode cX11_rule 7 = .ok (.ifCond .eq 14, 3) := by decide +kernel
theorem dX11_rule_10 : decode cX11_rule 10 = .ok (.aload_n 0, 1) := by decide +kernel
theorem dX11_rule_11 : decode cX11_rule 11 = .ok (.getfield 26, 3) := by decide +kernel
theorem dX11_rule_14 : decode cX11_rule 14 = .ok (.iload_n 1, 1) := by decide +kernel
theorem dX11_rule_15 : decode cX11_rule 15 = .ok (.invokevirtual 142, 3) := by decide +kernel
theorem dX11_rule_18 : decode cX11_rule 18 = .ok (.goto 4, 3) := by decide +kernel
theorem dX11_rule_21 : decode cX11_rule 21 = .ok (.iconst (-1), 1) := by decide +kernel
theorem dX11_rule_22 : decode cX11_rule 22 = .ok (.ireturn, 1) := by decide +kernel
theorem dX11_cell_0 : decode cX11_cell 0 = .ok (.iload_n 1, 1) := by decide +kernel
theorem dX11_cell_1 : decode cX11_cell 1 = .ok (.invokestatic 146, 3) := by decide +kernel
theorem dX11_cell_4 : decode cX11_cell 4 = .ok (.ifCond .ne 5, 3) := by decide +kernel
theorem dX11_cell_7 : decode cX11_cell 7 = .ok (.iconst (-1), 1) := by decide +kernel
theorem dX11_cell_8 : decode cX11_cell 8 = .ok (.ireturn, 1) := by decide +kernel
theorem dX11_cell_9 : decode cX11_cell 9 = .ok (.iload_n 2, 1) := by decide +kernel
theorem dX11_cell_10 : decode cX11_cell 10 = .ok (.tableswitch 70 0 3 #[30, 40, 50, 60], 30) := by decide +kernel
theorem dX11_cell_40 : decode cX11_cell 40 = .ok (.aload_n 0, 1) := by decide +kernel
theorem dX11_cell_41 : decode cX11_cell 41 = .ok (.getfield 26, 3) := by decide +kernel
theorem dX11_cell_44 : decode cX11_cell 44 = .ok (.getfield 150, 3) := by decide +kernel
theorem dX11_cell_47 : decode cX11_cell 47 = .ok (.iload_n 1, 1) := by decide +kernel
theorem dX11_cell_48 : decode cX11_cell 48 = .ok (.iaload, 1) := by decide +kernel
theorem dX11_cell_49 : decode cX11_cell 49 = .ok (.ireturn, 1) := by decide +kernel
theorem dX11_cell_50 : decode cX11_cell 50 = .ok (.aload_n 0, 1) := by decide +kernel
theorem dX11_cell_51 : decode cX11_cell 51 = .ok (.getfield 26, 3) := by decide +kernel
theorem dX11_cell_54 : decode cX11_cell 54 = .ok (.getfield 154, 3) := by decide +kernel
theorem dX11_cell_57 : decode cX11_cell 57 = .ok (.iload_n 1, 1) := by decide +kernel
theorem dX11_cell_58 : decode cX11_cell 58 = .ok (.iaload, 1) := by decide +kernel
theorem dX11_cell_59 : decode cX11_cell 59 = .ok (.ireturn, 1) := by decide +kernel
theorem dX11_cell_60 : decode cX11_cell 60 = .ok (.aload_n 0, 1) := by decide +kernel
theorem dX11_cell_61 : decode cX11_cell 61 = .ok (.getfield 26, 3) := by decide +kernel
theorem dX11_cell_64 : decode cX11_cell 64 = .ok (.getfield 157, 3) := by decide +kernel
theorem dX11_cell_67 : decode cX11_cell 67 = .ok (.iload_n 1, 1) := by decide +kernel
theorem dX11_cell_68 : decode cX11_cell 68 = .ok (.iaload, 1) := by decide +kernel
theorem dX11_cell_69 : decode cX11_cell 69 = .ok (.ireturn, 1) := by decide +kernel
theorem dX11_cell_70 : decode cX11_cell 70 = .ok (.aload_n 0, 1) := by decide +kernel
theorem dX11_cell_71 : decode cX11_cell 71 = .ok (.getfield 26, 3) := by decide +kernel
theorem dX11_cell_74 : decode cX11_cell 74 = .ok (.getfield 160, 3) := by decide +kernel
theorem dX11_cell_77 : decode cX11_cell 77 = .ok (.iload_n 1, 1) := by decide +kernel
theorem dX11_cell_78 : decode cX11_cell 78 = .ok (.iaload, 1) := by decide +kernel
theorem dX11_cell_79 : decode cX11_cell 79 = .ok (.ireturn, 1) := by decide +kernel
theorem dX11_cell_80 : decode cX11_cell 80 = .ok (.iconst (-1), 1) := by decide +kernel
theorem dX11_cell_81 : decode cX11_cell 81 = .ok (.ireturn, 1) := by decide +kernel
theorem dX11_put_0 : decode cX11_put 0 = .ok (.iload_n 1, 1) := by decide +kernel
theorem dX11_put_1 : decode cX11_put 1 = .ok (.invokestatic 146, 3) := by decide +kernel
theorem dX11_put_4 : decode cX11_put 4 = .ok (.ifCond .eq 12, 3) := by decide +kernel
theorem dX11_put_7 : decode cX11_put 7 = .ok (.iload_n 2, 1) := by decide +kernel
theorem dX11_put_8 : decode cX11_put 8 = .ok (.iconst 0, 1) := by decide +kernel
theorem dX11_put_9 : decode cX11_put 9 = .ok (.iconst 4, 1) := by decide +kernel
theorem dX11_put_10 : decode cX11_put 10 = .ok (.invokestatic 138, 3) := by decide +kernel
theorem dX11_put_13 : decode cX11_put 13 = .ok (.ifCond .ne 5, 3) := by decide +kernel
theorem dX11_put_16 : decode cX11_put 16 = .ok (.iconst (-1), 1) := by decide +kernel
theorem dX11_put_17 : decode cX11_put 17 = .ok (.ireturn, 1) := by decide +kernel
theorem dX11_put_18 : decode cX11_put 18 = .ok (.iload_n 2, 1) := by decide +kernel
theorem dX11_put_19 : decode cX11_put 19 = .ok (.iconst 2, 1) := by decide +kernel
theorem dX11_put_20 : decode cX11_put 20 = .ok (.if_icmp .ne 18, 3) := by decide +kernel
theorem dX11_put_23 : decode cX11_put 23 = .ok (.iload_n 1, 1) := by decide +kernel
theorem dX11_put_24 : decode cX11_put 24 = .ok (.aload_n 0, 1) := by decide +kernel
theorem dX11_put_25 : decode cX11_put 25 = .ok (.getfield 26, 3) := by decide +kernel
theorem dX11_put_28 : decode cX11_put 28 = .ok (.iconst 0, 1) := by decide +kernel
theorem dX11_put_29 : decode cX11_put 29 = .ok (.invokevirtual 142, 3) := by decide +kernel
theorem dX11_put_32 : decode cX11_put 32 = .ok (.if_icmp .ne 6, 3) := by decide +kernel
theorem dX11_put_35 : decode cX11_put 35 = .ok (.bipush (-2), 2) := by decide +kernel
theorem dX11_put_37 : decode cX11_put 37 = .ok (.ireturn, 1) := by decide +kernel
theorem dX11_put_38 : decode cX11_put 38 = .ok (.aload_n 0, 1) := by decide +kernel
theorem dX11_put_39 : decode cX11_put 39 = .ok (.getfield 26, 3) := by decide +kernel
theorem dX11_put_42 : decode cX11_put 42 = .ok (.getfield 150, 3) := by decide +kernel
theorem dX11_put_45 : decode cX11_put 45 = .ok (.iload_n 1, 1) := by decide +kernel
theorem dX11_put_46 : decode cX11_put 46 = .ok (.iaload, 1) := by decide +kernel
theorem dX11_put_47 : decode cX11_put 47 = .ok (.istore_n 3, 1) := by decide +kernel
theorem dX11_put_48 : decode cX11_put 48 = .ok (.iload_n 3, 1) := by decide +kernel
theorem dX11_put_49 : decode cX11_put 49 = .ok (.iload_n 2, 1) := by decide +kernel
theorem dX11_put_50 : decode cX11_put 50 = .ok (.if_icmp .eq 41, 3) := by decide +kernel
theorem dX11_put_53 : decode cX11_put 53 = .ok (.aload_n 0, 1) := by decide +kernel
theorem dX11_put_54 : decode cX11_put 54 = .ok (.getfield 26, 3) := by decide +kernel
theorem dX11_put_57 : decode cX11_put 57 = .ok (.getfield 150, 3) := by decide +kernel
theorem dX11_put_60 : decode cX11_put 60 = .ok (.iload_n 1, 1) := by decide +kernel
theorem dX11_put_61 : decode cX11_put 61 = .ok (.iload_n 2, 1) := by decide +kernel
theorem dX11_put_62 : decode cX11_put 62 = .ok (.iastore, 1) := by decide +kernel
theorem dX11_put_63 : decode cX11_put 63 = .ok (.aload_n 0, 1) := by decide +kernel
theorem dX11_put_64 : decode cX11_put 64 = .ok (.getfield 26, 3) := by decide +kernel
theorem dX11_put_67 : decode cX11_put 67 = .ok (.getfield 154, 3) := by decide +kernel
theorem dX11_put_70 : decode cX11_put 70 = .ok (.iload_n 1, 1) := by decide +kernel
theorem dX11_put_71 : decode cX11_put 71 = .ok (.iconst 0, 1) := by decide +kernel
theorem dX11_put_72 : decode cX11_put 72 = .ok (.iastore, 1) := by decide +kernel
theorem dX11_put_73 : decode cX11_put 73 = .ok (.aload_n 0, 1) := by decide +kernel
theorem dX11_put_74 : decode cX11_put 74 = .ok (.getfield 26, 3) := by decide +kernel
theorem dX11_put_77 : decode cX11_put 77 = .ok (.getfield 160, 3) := by decide +kernel
theorem dX11_put_80 : decode cX11_put 80 = .ok (.iload_n 1, 1) := by decide +kernel
theorem dX11_put_81 : decode cX11_put 81 = .ok (.bipush (-4), 2) := by decide +kernel
theorem dX11_put_83 : decode cX11_put 83 = .ok (.iastore, 1) := by decide +kernel
theorem dX11_put_84 : decode cX11_put 84 = .ok (.aload_n 0, 1) := by decide +kernel
theorem dX11_put_85 : decode cX11_put 85 = .ok (.getfield 64, 3) := by decide +kernel
theorem dX11_put_88 : decode cX11_put 88 = .ok (.invokevirtual 129, 3) := by decide +kernel
theorem dX11_put_91 : decode cX11_put 91 = .ok (.iload_n 3, 1) := by decide +kernel
theorem dX11_put_92 : decode cX11_put 92 = .ok (.ireturn, 1) := by decide +kernel
theorem dX11_move_0 : decode cX11_move 0 = .ok (.iload_n 1, 1) := by decide +kernel
theorem dX11_move_1 : decode cX11_move 1 = .ok (.iload_n 2, 1) := by decide +kernel
theorem dX11_move_2 : decode cX11_move 2 = .ok (.invokestatic 163, 3) := by decide +kernel
theorem dX11_move_5 : decode cX11_move 5 = .ok (.ifCond .ne 5, 3) := by decide +kernel
theorem dX11_move_8 : decode cX11_move 8 = .ok (.iconst (-1), 1) := by decide +kernel
theorem dX11_move_9 : decode cX11_move 9 = .ok (.ireturn, 1) := by decide +kernel
theorem dX11_move_10 : decode cX11_move 10 = .ok (.aload_n 0, 1) := by decide +kernel
theorem dX11_move_11 : decode cX11_move 11 = .ok (.getfield 33, 3) := by decide +kernel
theorem dX11_move_14 : decode cX11_move 14 = .ok (.iload_n 1, 1) := by decide +kernel
theorem dX11_move_15 : decode cX11_move 15 = .ok (.iload_n 2, 1) := by decide +kernel
theorem dX11_move_16 : decode cX11_move 16 = .ok (.invokevirtual 167, 3) := by decide +kernel
theorem dX11_move_19 : decode cX11_move 19 = .ok (.ifCond .eq 13, 3) := by decide +kernel
theorem dX11_move_22 : decode cX11_move 22 = .ok (.aload_n 0, 1) := by decide +kernel
theorem dX11_move_23 : decode cX11_move 23 = .ok (.getfield 33, 3) := by decide +kernel
theorem dX11_move_26 : decode cX11_move 26 = .ok (.getfield 126, 3) := by decide +kernel
theorem dX11_move_29 : decode cX11_move 29 = .ok (.goto 5, 3) := by decide +kernel
theorem dX11_move_32 : decode cX11_move 32 = .ok (.bipush (-3), 2) := by decide +kernel
theorem dX11_move_34 : decode cX11_move 34 = .ok (.ireturn, 1) := by decide +kernel
theorem dX11_clear_0 : decode cX11_clear 0 = .ok (.aload_n 0, 1) := by decide +kernel
theorem dX11_clear_1 : decode cX11_clear 1 = .ok (.getfield 33, 3) := by decide +kernel
theorem dX11_clear_4 : decode cX11_clear 4 = .ok (.getfield 126, 3) := by decide +kernel
theorem dX11_clear_7 : decode cX11_clear 7 = .ok (.istore_n 1, 1) := by decide +kernel
theorem dX11_clear_8 : decode cX11_clear 8 = .ok (.aload_n 0, 1) := by decide +kernel
theorem dX11_clear_9 : decode cX11_clear 9 = .ok (.getfield 33, 3) := by decide +kernel
theorem dX11_clear_12 : decode cX11_clear 12 = .ok (.iconst 0, 1) := by decide +kernel
theorem dX11_clear_13 : decode cX11_clear 13 = .ok (.putfield 126, 3) := by decide +kernel
theorem dX11_clear_16 : decode cX11_clear 16 = .ok (.iload_n 1, 1) := by decide +kernel
theorem dX11_clear_17 : decode cX11_clear 17 = .ok (.ireturn, 1) := by decide +kernel
theorem dX11_moved_0 : decode cX11_moved 0 = .ok (.iload_n 1, 1) := by decide +kernel
theorem dX11_moved_1 : decode cX11_moved 1 = .ok (.iconst 0, 1) := by decide +kernel
theorem dX11_moved_2 : decode cX11_moved 2 = .ok (.aload_n 0, 1) := by decide +kernel
theorem dX11_moved_3 : decode cX11_moved 3 = .ok (.getfield 33, 3) := by decide +kernel
theorem dX11_moved_6 : decode cX11_moved 6 = .ok (.getfield 126, 3) := by decide +kernel
theorem dX11_moved_9 : decode cX11_moved 9 = .ok (.iconst 1, 1) := by decide +kernel
theorem dX11_moved_10 : decode cX11_moved 10 = .ok (.isub, 1) := by decide +kernel
theorem dX11_moved_11 : decode cX11_moved 11 = .ok (.invokestatic 138, 3) := by decide +kernel
theorem dX11_moved_14 : decode cX11_moved 14 = .ok (.ifCond .eq 12, 3) := by decide +kernel
theorem dX11_moved_17 : decode cX11_moved 17 = .ok (.iload_n 2, 1) := by decide +kernel
theorem dX11_moved_18 : decode cX11_moved 18 = .ok (.iconst 0, 1) := by decide +kernel
theorem dX11_moved_19 : decode cX11_moved 19 = .ok (.iconst 1, 1) := by decide +kernel
theorem dX11_moved_20 : decode cX11_moved 20 = .ok (.invokestatic 138, 3) := by decide +kernel
theorem dX11_moved_23 : decode cX11_moved 23 = .ok (.ifCond .ne 5, 3) := by decide +kernel
theorem dX11_moved_26 : decode cX11_moved 26 = .ok (.iconst (-1), 1) := by decide +kernel
theorem dX11_moved_27 : decode cX11_moved 27 = .ok (.ireturn, 1) := by decide +kernel
theorem dX11_moved_28 : decode cX11_moved 28 = .ok (.iload_n 2, 1) := by decide +kernel
theorem dX11_moved_29 : decode cX11_moved 29 = .ok (.ifCond .ne 14, 3) := by decide +kernel
theorem dX11_moved_32 : decode cX11_moved 32 = .ok (.aload_n 0, 1) := by decide +kernel
theorem dX11_moved_33 : decode cX11_moved 33 = .ok (.getfield 33, 3) := by decide +kernel
theorem dX11_moved_36 : decode cX11_moved 36 = .ok (.iload_n 1, 1) := by decide +kernel
theorem dX11_moved_37 : decode cX11_moved 37 = .ok (.invokevirtual 169, 3) := by decide +kernel
theorem dX11_moved_40 : decode cX11_moved 40 = .ok (.goto 11, 3) := by decide +kernel
theorem dX11_moved_43 : decode cX11_moved 43 = .ok (.aload_n 0, 1) := by decide +kernel
theorem dX11_moved_44 : decode cX11_moved 44 = .ok (.getfield 33, 3) := by decide +kernel
theorem dX11_moved_47 : decode cX11_moved 47 = .ok (.iload_n 1, 1) := by decide +kernel
theorem dX11_moved_48 : decode cX11_moved 48 = .ok (.invokevirtual 172, 3) := by decide +kernel
theorem dX11_moved_51 : decode cX11_moved 51 = .ok (.ireturn, 1) := by decide +kernel
theorem dX11_run_0 : decode cX11_run 0 = .ok (.iload_n 1, 1) := by decide +kernel
theorem dX11_run_1 : decode cX11_run 1 = .ok (.invokestatic 175, 3) := by decide +kernel
theorem dX11_run_4 : decode cX11_run 4 = .ok (.ifCond .eq 13, 3) := by decide +kernel
theorem dX11_run_7 : decode cX11_run 7 = .ok (.iload_n 2, 1) := by decide +kernel
theorem dX11_run_8 : decode cX11_run 8 = .ok (.iconst 0, 1) := by decide +kernel
theorem dX11_run_9 : decode cX11_run 9 = .ok (.bipush 9, 2) := by decide +kernel
theorem dX11_run_11 : decode cX11_run 11 = .ok (.invokestatic 138, 3) := by decide +kernel
theorem dX11_run_14 : decode cX11_run 14 = .ok (.ifCond .ne 5, 3) := by decide +kernel
theorem dX11_run_17 : decode cX11_run 17 = .ok (.iconst (-1), 1) := by decide +kernel
theorem dX11_run_18 : decode cX11_run 18 = .ok (.ireturn, 1) := by decide +kernel
theorem dX11_run_19 : decode cX11_run 19 = .ok (.aload_n 0, 1) := by decide +kernel
theorem dX11_run_20 : decode cX11_run 20 = .ok (.getfield 43, 3) := by decide +kernel
theorem dX11_run_23 : decode cX11_run 23 = .ok (.aload_n 0, 1) := by decide +kernel
theorem dX11_run_24 : decode cX11_run 24 = .ok (.getfield 26, 3) := by decide +kernel
theorem dX11_run_27 : decode cX11_run 27 = .ok (.aload_n 0, 1) := by decide +kernel
theorem dX11_run_28 : decode cX11_run 28 = .ok (.getfield 33, 3) := by decide +kernel
theorem dX11_run_31 : decode cX11_run 31 = .ok (.iload_n 1, 1) := by decide +kernel
theorem dX11_run_32 : decode cX11_run 32 = .ok (.aload_n 0, 1) := by decide +kernel
theorem dX11_run_33 : decode cX11_run 33 = .ok (.getfield 26, 3) := by decide +kernel
theorem dX11_run_36 : decode cX11_run 36 = .ok (.iconst 3, 1) := by decide +kernel
theorem dX11_run_37 : decode cX11_run 37 = .ok (.invokevirtual 142, 3) := by decide +kernel
theorem dX11_run_40 : decode cX11_run 40 = .ok (.invokevirtual 178, 3) := by decide +kernel
theorem dX11_run_43 : decode cX11_run 43 = .ok (.iload_n 2, 1) := by decide +kernel
theorem dX11_run_44 : decode cX11_run 44 = .ok (.tableswitch 132 0 8 #[52, 60, 68, 76, 92, 100, 108, 116, 124], 52) := by decide +kernel
theorem dX11_run_96 : decode cX11_run 96 = .ok (.aload_n 0, 1) := by decide +kernel
theorem dX11_run_97 : decode cX11_run 97 = .ok (.getfield 43, 3) := by decide +kernel
theorem dX11_run_100 : decode cX11_run 100 = .ok (.getfield 182, 3) := by decide +kernel
theorem dX11_run_103 : decode cX11_run 103 = .ok (.ireturn, 1) := by decide +kernel
theorem dX11_run_104 : decode cX11_run 104 = .ok (.aload_n 0, 1) := by decide +kernel
theorem dX11_run_105 : decode cX11_run 105 = .ok (.getfield 43, 3) := by decide +kernel
theorem dX11_run_108 : decode cX11_run 108 = .ok (.getfield 185, 3) := by decide +kernel
theorem dX11_run_111 : decode cX11_run 111 = .ok (.ireturn, 1) := by decide +kernel
theorem dX11_run_112 : decode cX11_run 112 = .ok (.aload_n 0, 1) := by decide +kernel
theorem dX11_run_113 : decode cX11_run 113 = .ok (.getfield 43, 3) := by decide +kernel
theorem dX11_run_116 : decode cX11_run 116 = .ok (.getfield 188, 3) := by decide +kernel
theorem dX11_run_119 : decode cX11_run 119 = .ok (.ireturn, 1) := by decide +kernel
theorem dX11_run_120 : decode cX11_run 120 = .ok (.aload_n 0, 1) := by decide +kernel
theorem dX11_run_121 : decode cX11_run 121 = .ok (.getfield 43, 3) := by decide +kernel
theorem dX11_run_124 : decode cX11_run 124 = .ok (.getfield 191, 3) := by decide +kernel
theorem dX11_run_127 : decode cX11_run 127 = .ok (.ifCond .eq 7, 3) := by decide +kernel
theorem dX11_run_130 : decode cX11_run 130 = .ok (.iconst 1, 1) := by decide +kernel
theorem dX11_run_131 : decode cX11_run 131 = .ok (.goto 4, 3) := by decide +kernel
theorem dX11_run_134 : decode cX11_run 134 = .ok (.iconst 0, 1) := by decide +kernel
theorem dX11_run_135 : decode cX11_run 135 = .ok (.ireturn, 1) := by decide +kernel
theorem dX11_run_136 : decode cX11_run 136 = .ok (.aload_n 0, 1) := by decide +kernel
theorem dX11_run_137 : decode cX11_run 137 = .ok (.getfield 43, 3) := by decide +kernel
theorem dX11_run_140 : decode cX11_run 140 = .ok (.getfield 195, 3) := by decide +kernel
theorem dX11_run_143 : decode cX11_run 143 = .ok (.ireturn, 1) := by decide +kernel
theorem dX11_run_144 : decode cX11_run 144 = .ok (.aload_n 0, 1) := by decide +kernel
theorem dX11_run_145 : decode cX11_run 145 = .ok (.getfield 43, 3) := by decide +kernel
theorem dX11_run_148 : decode cX11_run 148 = .ok (.getfield 198, 3) := by decide +kernel
theorem dX11_run_151 : decode cX11_run 151 = .ok (.ireturn, 1) := by decide +kernel
theorem dX11_run_152 : decode cX11_run 152 = .ok (.aload_n 0, 1) := by decide +kernel
theorem dX11_run_153 : decode cX11_run 153 = .ok (.getfield 43, 3) := by decide +kernel
theorem dX11_run_156 : decode cX11_run 156 = .ok (.getfield 201, 3) := by decide +kernel
theorem dX11_run_159 : decode cX11_run 159 = .ok (.ireturn, 1) := by decide +kernel
theorem dX11_run_160 : decode cX11_run 160 = .ok (.aload_n 0, 1) := by decide +kernel
theorem dX11_run_161 : decode cX11_run 161 = .ok (.getfield 43, 3) := by decide +kernel
theorem dX11_run_164 : decode cX11_run 164 = .ok (.getfield 204, 3) := by decide +kernel
theorem dX11_run_167 : decode cX11_run 167 = .ok (.ireturn, 1) := by decide +kernel
theorem dX11_run_168 : decode cX11_run 168 = .ok (.aload_n 0, 1) := by decide +kernel
theorem dX11_run_169 : decode cX11_run 169 = .ok (.getfield 43, 3) := by decide +kernel
theorem dX11_run_172 : decode cX11_run 172 = .ok (.getfield 207, 3) := by decide +kernel
theorem dX11_run_175 : decode cX11_run 175 = .ok (.ireturn, 1) := by decide +kernel
theorem dX11_run_176 : decode cX11_run 176 = .ok (.aload_n 0, 1) := by decide +kernel
theorem dX11_run_177 : decode cX11_run 177 = .ok (.getfield 43, 3) := by decide +kernel
theorem dX11_run_180 : decode cX11_run 180 = .ok (.getfield 210, 3) := by decide +kernel
theorem dX11_run_183 : decode cX11_run 183 = .ok (.ireturn, 1) := by decide +kernel
theorem dX11_mow_0 : decode cX11_mow 0 = .ok (.iload_n 1, 1) := by decide +kernel
theorem dX11_mow_1 : decode cX11_mow 1 = .ok (.invokestatic 175, 3) := by decide +kernel
theorem dX11_mow_4 : decode cX11_mow 4 = .ok (.ifCond .ne 5, 3) := by decide +kernel
theorem dX11_mow_7 : decode cX11_mow 7 = .ok (.iconst (-1), 1) := by decide +kernel
theorem dX11_mow_8 : decode cX11_mow 8 = .ok (.ireturn, 1) := by decide +kernel
theorem dX11_mow_9 : decode cX11_mow 9 = .ok (.aload_n 0, 1) := by decide +kernel
theorem dX11_mow_10 : decode cX11_mow 10 = .ok (.getfield 43, 3) := by decide +kernel
theorem dX11_mow_13 : decode cX11_mow 13 = .ok (.aload_n 0, 1) := by decide +kernel
theorem dX11_mow_14 : decode cX11_mow 14 = .ok (.getfield 26, 3) := by decide +kernel
theorem dX11_mow_17 : decode cX11_mow 17 = .ok (.aload_n 0, 1) := by decide +kernel
theorem dX11_mow_18 : decode cX11_mow 18 = .ok (.getfield 33, 3) := by decide +kernel
theorem dX11_mow_21 : decode cX11_mow 21 = .ok (.iload_n 1, 1) := by decide +kernel
theorem dX11_mow_22 : decode cX11_mow 22 = .ok (.aload_n 0, 1) := by decide +kernel
theorem dX11_mow_23 : decode cX11_mow 23 = .ok (.getfield 26, 3) := by decide +kernel
theorem dX11_mow_26 : decode cX11_mow 26 = .ok (.iconst 3, 1) := by decide +kernel
theorem dX11_mow_27 : decode cX11_mow 27 = .ok (.invokevirtual 142, 3) := by decide +kernel
theorem dX11_mow_30 : decode cX11_mow 30 = .ok (.invokevirtual 178, 3) := by decide +kernel
theorem dX11_mow_33 : decode cX11_mow 33 = .ok (.aload_n 0, 1) := by decide +kernel
theorem dX11_mow_34 : decode cX11_mow 34 = .ok (.getfield 43, 3) := by decide +kernel
theorem dX11_mow_37 : decode cX11_mow 37 = .ok (.getfield 213, 3) := by decide +kernel
theorem dX11_mow_40 : decode cX11_mow 40 = .ok (.iconst 0, 1) := by decide +kernel
theorem dX11_mow_41 : decode cX11_mow 41 = .ok (.aload_n 0, 1) := by decide +kernel
theorem dX11_mow_42 : decode cX11_mow 42 = .ok (.getfield 26, 3) := by decide +kernel
theorem dX11_mow_45 : decode cX11_mow 45 = .ok (.getfield 154, 3) := by decide +kernel
theorem dX11_mow_48 : decode cX11_mow 48 = .ok (.iconst 0, 1) := by decide +kernel
theorem dX11_mow_49 : decode cX11_mow 49 = .ok (.bipush 36, 2) := by decide +kernel
theorem dX11_mow_51 : decode cX11_mow 51 = .ok (.invokestatic 214, 3) := by decide +kernel
theorem dX11_mow_54 : decode cX11_mow 54 = .ok (.aload_n 0, 1) := by decide +kernel
theorem dX11_mow_55 : decode cX11_mow 55 = .ok (.getfield 43, 3) := by decide +kernel
theorem dX11_mow_58 : decode cX11_mow 58 = .ok (.getfield 220, 3) := by decide +kernel
theorem dX11_mow_61 : decode cX11_mow 61 = .ok (.iconst 0, 1) := by decide +kernel
theorem dX11_mow_62 : decode cX11_mow 62 = .ok (.aload_n 0, 1) := by decide +kernel
theorem dX11_mow_63 : decode cX11_mow 63 = .ok (.getfield 26, 3) := by decide +kernel
theorem dX11_mow_66 : decode cX11_mow 66 = .ok (.getfield 160, 3) := by decide +kernel
theorem dX11_mow_69 : decode cX11_mow 69 = .ok (.iconst 0, 1) := by decide +kernel
theorem dX11_mow_70 : decode cX11_mow 70 = .ok (.bipush 36, 2) := by decide +kernel
theorem dX11_mow_72 : decode cX11_mow 72 = .ok (.invokestatic 214, 3) := by decide +kernel
theorem dX11_mow_75 : decode cX11_mow 75 = .ok (.aload_n 0, 1) := by decide +kernel
theorem dX11_mow_76 : decode cX11_mow 76 = .ok (.getfield 43, 3) := by decide +kernel
theorem dX11_mow_79 : decode cX11_mow 79 = .ok (.getfield 185, 3) := by decide +kernel
theorem dX11_mow_82 : decode cX11_mow 82 = .ok (.ireturn, 1) := by decide +kernel
theorem dX11_cord_0 : decode cX11_cord 0 = .ok (.iload_n 1, 1) := by decide +kernel
theorem dX11_cord_1 : decode cX11_cord 1 = .ok (.ifCond .lt 12, 3) := by decide +kernel
theorem dX11_cord_4 : decode cX11_cord 4 = .ok (.iload_n 2, 1) := by decide +kernel
theorem dX11_cord_5 : decode cX11_cord 5 = .ok (.iconst 0, 1) := by decide +kernel
theorem dX11_cord_6 : decode cX11_cord 6 = .ok (.iconst 3, 1) := by decide +kernel
theorem dX11_cord_7 : decode cX11_cord 7 = .ok (.invokestatic 138, 3) := by decide +kernel
theorem dX11_cord_10 : decode cX11_cord 10 = .ok (.ifCond .ne 7, 3) := by decide +kernel
theorem dX11_cord_13 : decode cX11_cord 13 = .ok (.ldc2_w 221, 3) := by decide +kernel
theorem dX11_cord_16 : decode cX11_cord 16 = .ok (.lreturn, 1) := by decide +kernel
theorem dX11_cord_17 : decode cX11_cord 17 = .ok (.aload_n 0, 1) := by decide +kernel
theorem dX11_cord_18 : decode cX11_cord 18 = .ok (.getfield 50, 3) := by decide +kernel
theorem dX11_cord_21 : decode cX11_cord 21 = .ok (.aload_n 0, 1) := by decide +kernel
theorem dX11_cord_22 : decode cX11_cord 22 = .ok (.getfield 26, 3) := by decide +kernel
theorem dX11_cord_25 : decode cX11_cord 25 = .ok (.aload_n 0, 1) := by decide +kernel
theorem dX11_cord_26 : decode cX11_cord 26 = .ok (.getfield 33, 3) := by decide +kernel
theorem dX11_cord_29 : decode cX11_cord 29 = .ok (.iload_n 1, 1) := by decide +kernel
theorem dX11_cord_30 : decode cX11_cord 30 = .ok (.invokevirtual 223, 3) := by decide +kernel
theorem dX11_cord_33 : decode cX11_cord 33 = .ok (.aload_n 0, 1) := by decide +kernel
theorem dX11_cord_34 : decode cX11_cord 34 = .ok (.getfield 50, 3) := by decide +kernel
theorem dX11_cord_37 : decode cX11_cord 37 = .ok (.getfield 227, 3) := by decide +kernel
theorem dX11_cord_40 : decode cX11_cord 40 = .ok (.iload_n 1, 1) := by decide +kernel
theorem dX11_cord_41 : decode cX11_cord 41 = .ok (.if_icmp .ge 7, 3) := by decide +kernel
theorem dX11_cord_44 : decode cX11_cord 44 = .ok (.ldc2_w 221, 3) := by decide +kernel
theorem dX11_cord_47 : decode cX11_cord 47 = .ok (.lreturn, 1) := by decide +kernel
theorem dX11_cord_48 : decode cX11_cord 48 = .ok (.iload_n 2, 1) := by decide +kernel
theorem dX11_cord_49 : decode cX11_cord 49 = .ok (.tableswitch 55 0 2 #[27, 38, 46], 27) := by decide +kernel
theorem dX11_cord_76 : decode cX11_cord 76 = .ok (.aload_n 0, 1) := by decide +kernel
theorem dX11_cord_77 : decode cX11_cord 77 = .ok (.getfield 50, 3) := by decide +kernel
theorem dX11_cord_80 : decode cX11_cord 80 = .ok (.getfield 228, 3) := by decide +kernel
theorem dX11_cord_83 : decode cX11_cord 83 = .ok (.iconst 1, 1) := by decide +kernel
theorem dX11_cord_84 : decode cX11_cord 84 = .ok (.isub, 1) := by decide +kernel
theorem dX11_cord_85 : decode cX11_cord 85 = .ok (.i2l, 1) := by decide +kernel
theorem dX11_cord_86 : decode cX11_cord 86 = .ok (.lreturn, 1) := by decide +kernel
theorem dX11_cord_87 : decode cX11_cord 87 = .ok (.aload_n 0, 1) := by decide +kernel
theorem dX11_cord_88 : decode cX11_cord 88 = .ok (.getfield 50, 3) := by decide +kernel
theorem dX11_cord_91 : decode cX11_cord 91 = .ok (.invokevirtual 229, 3) := by decide +kernel
theorem dX11_cord_94 : decode cX11_cord 94 = .ok (.lreturn, 1) := by decide +kernel
theorem dX11_cord_95 : decode cX11_cord 95 = .ok (.aload_n 0, 1) := by decide +kernel
theorem dX11_cord_96 : decode cX11_cord 96 = .ok (.getfield 50, 3) := by decide +kernel
theorem dX11_cord_99 : decode cX11_cord 99 = .ok (.getfield 233, 3) := by decide +kernel
theorem dX11_cord_102 : decode cX11_cord 102 = .ok (.i2l, 1) := by decide +kernel
theorem dX11_cord_103 : decode cX11_cord 103 = .ok (.lreturn, 1) := by decide +kernel
theorem dX11_cord_104 : decode cX11_cord 104 = .ok (.aload_n 0, 1) := by decide +kernel
theorem dX11_cord_105 : decode cX11_cord 105 = .ok (.getfield 50, 3) := by decide +kernel
theorem dX11_cord_108 : decode cX11_cord 108 = .ok (.getfield 236, 3) := by decide +kernel
theorem dX11_cord_111 : decode cX11_cord 111 = .ok (.i2l, 1) := by decide +kernel
theorem dX11_cord_112 : decode cX11_cord 112 = .ok (.lreturn, 1) := by decide +kernel
theorem dX11_trips_0 : decode cX11_trips 0 = .ok (.iload_n 1, 1) := by decide +kernel
theorem dX11_trips_1 : decode cX11_trips 1 = .ok (.iconst 0, 1) := by decide +kernel
theorem dX11_trips_2 : decode cX11_trips 2 = .ok (.iconst 1, 1) := by decide +kernel
theorem dX11_trips_3 : decode cX11_trips 3 = .ok (.invokestatic 138, 3) := by decide +kernel
theorem dX11_trips_6 : decode cX11_trips 6 = .ok (.ifCond .ne 5, 3) := by decide +kernel
theorem dX11_trips_9 : decode cX11_trips 9 = .ok (.iconst (-1), 1) := by decide +kernel
theorem dX11_trips_10 : decode cX11_trips 10 = .ok (.ireturn, 1) := by decide +kernel
theorem dX11_trips_11 : decode cX11_trips 11 = .ok (.aload_n 0, 1) := by decide +kernel
theorem dX11_trips_12 : decode cX11_trips 12 = .ok (.getfield 50, 3) := by decide +kernel
theorem dX11_trips_15 : decode cX11_trips 15 = .ok (.aload_n 0, 1) := by decide +kernel
theorem dX11_trips_16 : decode cX11_trips 16 = .ok (.getfield 26, 3) := by decide +kernel
theorem dX11_trips_19 : decode cX11_trips 19 = .ok (.aload_n 0, 1) := by decide +kernel
theorem dX11_trips_20 : decode cX11_trips 20 = .ok (.getfield 33, 3) := by decide +kernel
theorem dX11_trips_23 : decode cX11_trips 23 = .ok (.bipush 120, 2) := by decide +kernel
theorem dX11_trips_25 : decode cX11_trips 25 = .ok (.invokevirtual 223, 3) := by decide +kernel
theorem dX11_trips_28 : decode cX11_trips 28 = .ok (.iload_n 1, 1) := by decide +kernel
theorem dX11_trips_29 : decode cX11_trips 29 = .ok (.ifCond .ne 13, 3) := by decide +kernel
theorem dX11_trips_32 : decode cX11_trips 32 = .ok (.aload_n 0, 1) := by decide +kernel
theorem dX11_trips_33 : decode cX11_trips 33 = .ok (.getfield 50, 3) := by decide +kernel
theorem dX11_trips_36 : decode cX11_trips 36 = .ok (.getfield 239, 3) := by decide +kernel
theorem dX11_trips_39 : decode cX11_trips 39 = .ok (.goto 10, 3) := by decide +kernel
theorem dX11_trips_42 : decode cX11_trips 42 = .ok (.aload_n 0, 1) := by decide +kernel
theorem dX11_trips_43 : decode cX11_trips 43 = .ok (.getfield 50, 3) := by decide +kernel
theorem dX11_trips_46 : decode cX11_trips 46 = .ok (.getfield 242, 3) := by decide +kernel
theorem dX11_trips_49 : decode cX11_trips 49 = .ok (.istore_n 2, 1) := by decide +kernel
theorem dX11_trips_50 : decode cX11_trips 50 = .ok (.iload_n 2, 1) := by decide +kernel
theorem dX11_trips_51 : decode cX11_trips 51 = .ok (.ifCond .le 7, 3) := by decide +kernel
theorem dX11_trips_54 : decode cX11_trips 54 = .ok (.iload_n 2, 1) := by decide +kernel
theorem dX11_trips_55 : decode cX11_trips 55 = .ok (.goto 5, 3) := by decide +kernel
theorem dX11_trips_58 : decode cX11_trips 58 = .ok (.bipush (-4), 2) := by decide +kernel
theorem dX11_trips_60 : decode cX11_trips 60 = .ok (.ireturn, 1) := by decide +kernel
theorem dX11_begin_0 : decode cX11_begin 0 = .ok (.aload_n 0, 1) := by decide +kernel
theorem dX11_begin_1 : decode cX11_begin 1 = .ok (.getfield 43, 3) := by decide +kernel
theorem dX11_begin_4 : decode cX11_begin 4 = .ok (.aload_n 0, 1) := by decide +kernel
theorem dX11_begin_5 : decode cX11_begin 5 = .ok (.getfield 26, 3) := by decide +kernel
theorem dX11_begin_8 : decode cX11_begin 8 = .ok (.aload_n 0, 1) := by decide +kernel
theorem dX11_begin_9 : decode cX11_begin 9 = .ok (.getfield 33, 3) := by decide +kernel
theorem dX11_begin_12 : decode cX11_begin 12 = .ok (.iconst 0, 1) := by decide +kernel
theorem dX11_begin_13 : decode cX11_begin 13 = .ok (.aload_n 0, 1) := by decide +kernel
theorem dX11_begin_14 : decode cX11_begin 14 = .ok (.getfield 26, 3) := by decide +kernel
theorem dX11_begin_17 : decode cX11_begin 17 = .ok (.iconst 3, 1) := by decide +kernel
theorem dX11_begin_18 : decode cX11_begin 18 = .ok (.invokevirtual 142, 3) := by decide +kernel
theorem dX11_begin_21 : decode cX11_begin 21 = .ok (.invokevirtual 178, 3) := by decide +kernel
theorem dX11_begin_24 : decode cX11_begin 24 = .ok (.aload_n 0, 1) := by decide +kernel
theorem dX11_begin_25 : decode cX11_begin 25 = .ok (.getfield 43, 3) := by decide +kernel
theorem dX11_begin_28 : decode cX11_begin 28 = .ok (.getfield 245, 3) := by decide +kernel
theorem dX11_begin_31 : decode cX11_begin 31 = .ok (.ifCond .ge 5, 3) := by decide +kernel
theorem dX11_begin_34 : decode cX11_begin 34 = .ok (.iconst 0, 1) := by decide +kernel
theorem dX11_begin_35 : decode cX11_begin 35 = .ok (.ireturn, 1) := by decide +kernel
theorem dX11_begin_36 : decode cX11_begin 36 = .ok (.iconst 0, 1) := by decide +kernel
theorem dX11_begin_37 : decode cX11_begin 37 = .ok (.aload_n 0, 1) := by decide +kernel
theorem dX11_begin_38 : decode cX11_begin 38 = .ok (.getfield 26, 3) := by decide +kernel
theorem dX11_begin_41 : decode cX11_begin 41 = .ok (.bipush 6, 2) := by decide +kernel
theorem dX11_begin_43 : decode cX11_begin 43 = .ok (.invokevirtual 142, 3) := by decide +kernel
theorem dX11_begin_46 : decode cX11_begin 46 = .ok (.aload_n 0, 1) := by decide +kernel
theorem dX11_begin_47 : decode cX11_begin 47 = .ok (.getfield 43, 3) := by decide +kernel
theorem dX11_begin_50 : decode cX11_begin 50 = .ok (.getfield 245, 3) := by decide +kernel
theorem dX11_begin_53 : decode cX11_begin 53 = .ok (.isub, 1) := by decide +kernel
theorem dX11_begin_54 : decode cX11_begin 54 = .ok (.invokestatic 248, 3) := by decide +kernel
theorem dX11_begin_57 : decode cX11_begin 57 = .ok (.istore_n 1, 1) := by decide +kernel
theorem dX11_begin_58 : decode cX11_begin 58 = .ok (.iload_n 1, 1) := by decide +kernel
theorem dX11_begin_59 : decode cX11_begin 59 = .ok (.sipush 999, 3) := by decide +kernel
theorem dX11_begin_62 : decode cX11_begin 62 = .ok (.if_icmp .gt 7, 3) := by decide +kernel
theorem dX11_begin_65 : decode cX11_begin 65 = .ok (.iload_n 1, 1) := by decide +kernel
theorem dX11_begin_66 : decode cX11_begin 66 = .ok (.goto 5, 3) := by decide +kernel
theorem dX11_begin_69 : decode cX11_begin 69 = .ok (.bipush (-4), 2) := by decide +kernel
theorem dX11_begin_71 : decode cX11_begin 71 = .ok (.ireturn, 1) := by decide +kernel
theorem dX11_need_0 : decode cX11_need 0 = .ok (.iload_n 1, 1) := by decide +kernel
theorem dX11_need_1 : decode cX11_need 1 = .ok (.invokestatic 175, 3) := by decide +kernel
theorem dX11_need_4 : decode cX11_need 4 = .ok (.ifCond .ne 5, 3) := by decide +kernel
theorem dX11_need_7 : decode cX11_need 7 = .ok (.iconst (-1), 1) := by decide +kernel
theorem dX11_need_8 : decode cX11_need 8 = .ok (.ireturn, 1) := by decide +kernel
theorem dX11_need_9 : decode cX11_need 9 = .ok (.aload_n 0, 1) := by decide +kernel
theorem dX11_need_10 : decode cX11_need 10 = .ok (.getfield 43, 3) := by decide +kernel
theorem dX11_need_13 : decode cX11_need 13 = .ok (.aload_n 0, 1) := by decide +kernel
theorem dX11_need_14 : decode cX11_need 14 = .ok (.getfield 26, 3) := by decide +kernel
theorem dX11_need_17 : decode cX11_need 17 = .ok (.aload_n 0, 1) := by decide +kernel
theorem dX11_need_18 : decode cX11_need 18 = .ok (.getfield 33, 3) := by decide +kernel
theorem dX11_need_21 : decode cX11_need 21 = .ok (.iload_n 1, 1) := by decide +kernel
theorem dX11_need_22 : decode cX11_need 22 = .ok (.sipush 2160, 3) := by decide +kernel
theorem dX11_need_25 : decode cX11_need 25 = .ok (.invokevirtual 178, 3) := by decide +kernel
theorem dX11_need_28 : decode cX11_need 28 = .ok (.iconst 1, 1) := by decide +kernel
theorem dX11_need_29 : decode cX11_need 29 = .ok (.aload_n 0, 1) := by decide +kernel
theorem dX11_need_30 : decode cX11_need 30 = .ok (.getfield 43, 3) := by decide +kernel
theorem dX11_need_33 : decode cX11_need 33 = .ok (.getfield 254, 3) := by decide +kernel
theorem dX11_need_36 : decode cX11_need 36 = .ok (.invokestatic 248, 3) := by decide +kernel
theorem dX11_need_39 : decode cX11_need 39 = .ok (.istore_n 2, 1) := by decide +kernel
theorem dX11_need_40 : decode cX11_need 40 = .ok (.iload_n 2, 1) := by decide +kernel
theorem dX11_need_41 : decode cX11_need 41 = .ok (.sipush 999, 3) := by decide +kernel
theorem dX11_need_44 : decode cX11_need 44 = .ok (.if_icmp .gt 7, 3) := by decide +kernel
theorem dX11_need_47 : decode cX11_need 47 = .ok (.iload_n 2, 1) := by decide +kernel
theorem dX11_need_48 : decode cX11_need 48 = .ok (.goto 5, 3) := by decide +kernel
theorem dX11_need_51 : decode cX11_need 51 = .ok (.bipush (-4), 2) := by decide +kernel
theorem dX11_need_53 : decode cX11_need 53 = .ok (.ireturn, 1) := by decide +kernel
theorem dX11_least_0 : decode cX11_least 0 = .ok (.iload_n 1, 1) := by decide +kernel
theorem dX11_least_1 : decode cX11_least 1 = .ok (.iconst 0, 1) := by decide +kernel
theorem dX11_least_2 : decode cX11_least 2 = .ok (.iconst 2, 1) := by decide +kernel
theorem dX11_least_3 : decode cX11_least 3 = .ok (.invokestatic 138, 3) := by decide +kernel
theorem dX11_least_6 : decode cX11_least 6 = .ok (.ifCond .ne 11, 3) := by decide +kernel
theorem dX11_least_9 : decode cX11_least 9 = .ok (.iload_n 1, 1) := by decide +kernel
theorem dX11_least_10 : decode cX11_least 10 = .ok (.bipush 10, 2) := by decide +kernel
theorem dX11_least_12 : decode cX11_least 12 = .ok (.if_icmp .ge 5, 3) := by decide +kernel
theorem dX11_least_15 : decode cX11_least 15 = .ok (.iconst (-1), 1) := by decide +kernel
theorem dX11_least_16 : decode cX11_least 16 = .ok (.ireturn, 1) := by decide +kernel
theorem dX11_least_17 : decode cX11_least 17 = .ok (.aload_n 0, 1) := by decide +kernel
theorem dX11_least_18 : decode cX11_least 18 = .ok (.invokevirtual 257, 3) := by decide +kernel
theorem dX11_least_21 : decode cX11_least 21 = .ok (.istore_n 2, 1) := by decide +kernel
theorem dX11_least_22 : decode cX11_least 22 = .ok (.iload_n 2, 1) := by decide +kernel
theorem dX11_least_23 : decode cX11_least 23 = .ok (.ifCond .eq 5, 3) := by decide +kernel
theorem dX11_least_26 : decode cX11_least 26 = .ok (.iload_n 2, 1) := by decide +kernel
theorem dX11_least_27 : decode cX11_least 27 = .ok (.ireturn, 1) := by decide +kernel
theorem dX11_least_28 : decode cX11_least 28 = .ok (.iload_n 1, 1) := by decide +kernel
theorem dX11_least_29 : decode cX11_least 29 = .ok (.tableswitch 51 0 2 #[27, 35, 43], 27) := by decide +kernel
theorem dX11_least_56 : decode cX11_least 56 = .ok (.aload_n 0, 1) := by decide +kernel
theorem dX11_least_57 : decode cX11_least 57 = .ok (.getfield 64, 3) := by decide +kernel
theorem dX11_least_60 : decode cX11_least 60 = .ok (.getfield 261, 3) := by decide +kernel
theorem dX11_least_63 : decode cX11_least 63 = .ok (.ireturn, 1) := by decide +kernel
theorem dX11_least_64 : decode cX11_least 64 = .ok (.aload_n 0, 1) := by decide +kernel
theorem dX11_least_65 : decode cX11_least 65 = .ok (.getfield 64, 3) := by decide +kernel
theorem dX11_least_68 : decode cX11_least 68 = .ok (.getfield 262, 3) := by decide +kernel
theorem dX11_least_71 : decode cX11_least 71 = .ok (.ireturn, 1) := by decide +kernel
theorem dX11_least_72 : decode cX11_least 72 = .ok (.aload_n 0, 1) := by decide +kernel
theorem dX11_least_73 : decode cX11_least 73 = .ok (.getfield 64, 3) := by decide +kernel
theorem dX11_least_76 : decode cX11_least 76 = .ok (.getfield 263, 3) := by decide +kernel
theorem dX11_least_79 : decode cX11_least 79 = .ok (.ireturn, 1) := by decide +kernel
theorem dX11_least_80 : decode cX11_least 80 = .ok (.aload_n 0, 1) := by decide +kernel
theorem dX11_least_81 : decode cX11_least 81 = .ok (.getfield 64, 3) := by decide +kernel
theorem dX11_least_84 : decode cX11_least 84 = .ok (.iload_n 1, 1) := by decide +kernel
theorem dX11_least_85 : decode cX11_least 85 = .ok (.bipush 10, 2) := by decide +kernel
theorem dX11_least_87 : decode cX11_least 87 = .ok (.isub, 1) := by decide +kernel
theorem dX11_least_88 : decode cX11_least 88 = .ok (.invokevirtual 264, 3) := by decide +kernel
theorem dX11_least_91 : decode cX11_least 91 = .ok (.ireturn, 1) := by decide +kernel
theorem dX11_tree_0 : decode cX11_tree 0 = .ok (.iload_n 1, 1) := by decide +kernel
theorem dX11_tree_1 : decode cX11_tree 1 = .ok (.invokestatic 146, 3) := by decide +kernel
theorem dX11_tree_4 : decode cX11_tree 4 = .ok (.ifCond .eq 16, 3) := by decide +kernel
theorem dX11_tree_7 : decode cX11_tree 7 = .ok (.aload_n 0, 1) := by decide +kernel
theorem dX11_tree_8 : decode cX11_tree 8 = .ok (.getfield 26, 3) := by decide +kernel
theorem dX11_tree_11 : decode cX11_tree 11 = .ok (.getfield 150, 3) := by decide +kernel
theorem dX11_tree_14 : decode cX11_tree 14 = .ok (.iload_n 1, 1) := by decide +kernel
theorem dX11_tree_15 : decode cX11_tree 15 = .ok (.iaload, 1) := by decide +kernel
theorem dX11_tree_16 : decode cX11_tree 16 = .ok (.iconst 2, 1) := by decide +kernel
theorem dX11_tree_17 : decode cX11_tree 17 = .ok (.if_icmp .eq 5, 3) := by decide +kernel
theorem dX11_tree_20 : decode cX11_tree 20 = .ok (.iconst (-1), 1) := by decide +kernel
theorem dX11_tree_21 : decode cX11_tree 21 = .ok (.ireturn, 1) := by decide +kernel
theorem dX11_tree_22 : decode cX11_tree 22 = .ok (.aload_n 0, 1) := by decide +kernel
theorem dX11_tree_23 : decode cX11_tree 23 = .ok (.invokevirtual 257, 3) := by decide +kernel
theorem dX11_tree_26 : decode cX11_tree 26 = .ok (.istore_n 2, 1) := by decide +kernel
theorem dX11_tree_27 : decode cX11_tree 27 = .ok (.iload_n 2, 1) := by decide +kernel
theorem dX11_tree_28 : decode cX11_tree 28 = .ok (.ifCond .eq 7, 3) := by decide +kernel
theorem dX11_tree_31 : decode cX11_tree 31 = .ok (.iload_n 2, 1) := by decide +kernel
theorem dX11_tree_32 : decode cX11_tree 32 = .ok (.goto 15, 3) := by decide +kernel
theorem dX11_tree_35 : decode cX11_tree 35 = .ok (.aload_n 0, 1) := by decide +kernel
theorem dX11_tree_36 : decode cX11_tree 36 = .ok (.getfield 64, 3) := by decide +kernel
theorem dX11_tree_39 : decode cX11_tree 39 = .ok (.aload_n 0, 1) := by decide +kernel
theorem dX11_tree_40 : decode cX11_tree 40 = .ok (.getfield 26, 3) := by decide +kernel
theorem dX11_tree_43 : decode cX11_tree 43 = .ok (.iload_n 1, 1) := by decide +kernel
theorem dX11_tree_44 : decode cX11_tree 44 = .ok (.invokevirtual 265, 3) := by decide +kernel
theorem dX11_tree_47 : decode cX11_tree 47 = .ok (.ireturn, 1) := by decide +kernel
theorem dX11_dearest_0 : decode cX11_dearest 0 = .ok (.iload_n 1, 1) := by decide +kernel
theorem dX11_dearest_1 : decode cX11_dearest 1 = .ok (.iconst 0, 1) := by decide +kernel
theorem dX11_dearest_2 : decode cX11_dearest 2 = .ok (.iconst 1, 1) := by decide +kernel
theorem dX11_dearest_3 : decode cX11_dearest 3 = .ok (.invokestatic 138, 3) := by decide +kernel
theorem dX11_dearest_6 : decode cX11_dearest 6 = .ok (.ifCond .ne 5, 3) := by decide +kernel
theorem dX11_dearest_9 : decode cX11_dearest 9 = .ok (.iconst (-1), 1) := by decide +kernel
theorem dX11_dearest_10 : decode cX11_dearest 10 = .ok (.ireturn, 1) := by decide +kernel
theorem dX11_dearest_11 : decode cX11_dearest 11 = .ok (.aload_n 0, 1) := by decide +kernel
theorem dX11_dearest_12 : decode cX11_dearest 12 = .ok (.invokevirtual 257, 3) := by decide +kernel
theorem dX11_dearest_15 : decode cX11_dearest 15 = .ok (.istore_n 2, 1) := by decide +kernel
theorem dX11_dearest_16 : decode cX11_dearest 16 = .ok (.iload_n 2, 1) := by decide +kernel
theorem dX11_dearest_17 : decode cX11_dearest 17 = .ok (.ifCond .eq 5, 3) := by decide +kernel
theorem dX11_dearest_20 : decode cX11_dearest 20 = .ok (.iload_n 2, 1) := by decide +kernel
theorem dX11_dearest_21 : decode cX11_dearest 21 = .ok (.ireturn, 1) := by decide +kernel
theorem dX11_dearest_22 : decode cX11_dearest 22 = .ok (.aload_n 0, 1) := by decide +kernel
theorem dX11_dearest_23 : decode cX11_dearest 23 = .ok (.getfield 64, 3) := by decide +kernel
theorem dX11_dearest_26 : decode cX11_dearest 26 = .ok (.aload_n 0, 1) := by decide +kernel
theorem dX11_dearest_27 : decode cX11_dearest 27 = .ok (.getfield 26, 3) := by decide +kernel
theorem dX11_dearest_30 : decode cX11_dearest 30 = .ok (.invokevirtual 269, 3) := by decide +kernel
theorem dX11_dearest_33 : decode cX11_dearest 33 = .ok (.aload_n 0, 1) := by decide +kernel
theorem dX11_dearest_34 : decode cX11_dearest 34 = .ok (.getfield 64, 3) := by decide +kernel
theorem dX11_dearest_37 : decode cX11_dearest 37 = .ok (.getfield 272, 3) := by decide +kernel
theorem dX11_dearest_40 : decode cX11_dearest 40 = .ok (.ifCond .gt 6, 3) := by decide +kernel
theorem dX11_dearest_43 : decode cX11_dearest 43 = .ok (.bipush (-4), 2) := by decide +kernel
theorem dX11_dearest_45 : decode cX11_dearest 45 = .ok (.ireturn, 1) := by decide +kernel
theorem dX11_dearest_46 : decode cX11_dearest 46 = .ok (.iload_n 1, 1) := by decide +kernel
theorem dX11_dearest_47 : decode cX11_dearest 47 = .ok (.ifCond .ne 13, 3) := by decide +kernel
theorem dX11_dearest_50 : decode cX11_dearest 50 = .ok (.aload_n 0, 1) := by decide +kernel
theorem dX11_dearest_51 : decode cX11_dearest 51 = .ok (.getfield 64, 3) := by decide +kernel
theorem dX11_dearest_54 : decode cX11_dearest 54 = .ok (.getfield 275, 3) := by decide +kernel
theorem dX11_dearest_57 : decode cX11_dearest 57 = .ok (.goto 10, 3) := by decide +kernel
theorem dX11_dearest_60 : decode cX11_dearest 60 = .ok (.aload_n 0, 1) := by decide +kernel
theorem dX11_dearest_61 : decode cX11_dearest 61 = .ok (.getfield 64, 3) := by decide +kernel
theorem dX11_dearest_64 : decode cX11_dearest 64 = .ok (.getfield 272, 3) := by decide +kernel
theorem dX11_dearest_67 : decode cX11_dearest 67 = .ok (.ireturn, 1) := by decide +kernel
theorem dX11_adopt_0 : decode cX11_adopt 0 = .ok (.aload_n 0, 1) := by decide +kernel
theorem dX11_adopt_1 : decode cX11_adopt 1 = .ok (.invokevirtual 257, 3) := by decide +kernel
theorem dX11_adopt_4 : decode cX11_adopt 4 = .ok (.istore_n 1, 1) := by decide +kernel
theorem dX11_adopt_5 : decode cX11_adopt 5 = .ok (.iload_n 1, 1) := by decide +kernel
theorem dX11_adopt_6 : decode cX11_adopt 6 = .ok (.ifCond .eq 5, 3) := by decide +kernel
theorem dX11_adopt_9 : decode cX11_adopt 9 = .ok (.iload_n 1, 1) := by decide +kernel
theorem dX11_adopt_10 : decode cX11_adopt 10 = .ok (.ireturn, 1) := by decide +kernel
theorem dX11_adopt_11 : decode cX11_adopt 11 = .ok (.aload_n 0, 1) := by decide +kernel
theorem dX11_adopt_12 : decode cX11_adopt 12 = .ok (.getfield 37, 3) := by decide +kernel
theorem dX11_adopt_15 : decode cX11_adopt 15 = .ok (.iconst 0, 1) := by decide +kernel
theorem dX11_adopt_16 : decode cX11_adopt 16 = .ok (.putfield 126, 3) := by decide +kernel
theorem dX11_adopt_19 : decode cX11_adopt 19 = .ok (.iconst 0, 1) := by decide +kernel
theorem dX11_adopt_20 : decode cX11_adopt 20 = .ok (.istore_n 2, 1) := by decide +kernel
theorem dX11_adopt_21 : decode cX11_adopt 21 = .ok (.iload_n 2, 1) := by decide +kernel
theorem dX11_adopt_22 : decode cX11_adopt 22 = .ok (.aload_n 0, 1) := by decide +kernel
theorem dX11_adopt_23 : decode cX11_adopt 23 = .ok (.getfield 64, 3) := by decide +kernel
theorem dX11_adopt_26 : decode cX11_adopt 26 = .ok (.getfield 262, 3) := by decide +kernel
theorem dX11_adopt_29 : decode cX11_adopt 29 = .ok (.if_icmp .ge 30, 3) := by decide +kernel
theorem dX11_adopt_32 : decode cX11_adopt 32 = .ok (.aload_n 0, 1) := by decide +kernel
theorem dX11_adopt_33 : decode cX11_adopt 33 = .ok (.getfield 37, 3) := by decide +kernel
theorem dX11_adopt_36 : decode cX11_adopt 36 = .ok (.aload_n 0, 1) := by decide +kernel
theorem dX11_adopt_37 : decode cX11_adopt 37 = .ok (.getfield 64, 3) := by decide +kernel
theorem dX11_adopt_40 : decode cX11_adopt 40 = .ok (.iload_n 2, 1) := by decide +kernel
theorem dX11_adopt_41 : decode cX11_adopt 41 = .ok (.invokevirtual 264, 3) := by decide +kernel
theorem dX11_adopt_44 : decode cX11_adopt 44 = .ok (.invokevirtual 278, 3) := by decide +kernel
theorem dX11_adopt_47 : decode cX11_adopt 47 = .ok (.ifCond .ne 6, 3) := by decide +kernel
theorem dX11_adopt_50 : decode cX11_adopt 50 = .ok (.bipush (-3), 2) := by decide +kernel
theorem dX11_adopt_52 : decode cX11_adopt 52 = .ok (.ireturn, 1) := by decide +kernel
theorem dX11_adopt_53 : decode cX11_adopt 53 = .ok (.iinc 2 1, 3) := by decide +kernel
theorem dX11_adopt_56 : decode cX11_adopt 56 = .ok (.goto (-35), 3) := by decide +kernel
theorem dX11_adopt_59 : decode cX11_adopt 59 = .ok (.aload_n 0, 1) := by decide +kernel
theorem dX11_adopt_60 : decode cX11_adopt 60 = .ok (.getfield 33, 3) := by decide +kernel
theorem dX11_adopt_63 : decode cX11_adopt 63 = .ok (.aload_n 0, 1) := by decide +kernel
theorem dX11_adopt_64 : decode cX11_adopt 64 = .ok (.getfield 37, 3) := by decide +kernel
theorem dX11_adopt_67 : decode cX11_adopt 67 = .ok (.invokevirtual 281, 3) := by decide +kernel
theorem dX11_adopt_70 : decode cX11_adopt 70 = .ok (.aload_n 0, 1) := by decide +kernel
theorem dX11_adopt_71 : decode cX11_adopt 71 = .ok (.getfield 33, 3) := by decide +kernel
theorem dX11_adopt_74 : decode cX11_adopt 74 = .ok (.getfield 126, 3) := by decide +kernel
theorem dX11_adopt_77 : decode cX11_adopt 77 = .ok (.ireturn, 1) := by decide +kernel
theorem dX11_seekLeast_0 : decode cX11_seekLeast 0 = .ok (.aload_n 0, 1) := by decide +kernel
theorem dX11_seekLeast_1 : decode cX11_seekLeast 1 = .ok (.getfield 26, 3) := by decide +kernel
theorem dX11_seekLeast_4 : decode cX11_seekLeast 4 = .ok (.invokevirtual 284, 3) := by decide +kernel
theorem dX11_seekLeast_7 : decode cX11_seekLeast 7 = .ok (.bipush 7, 2) := by decide +kernel
theorem dX11_seekLeast_9 : decode cX11_seekLeast 9 = .ok (.if_icmp .le 6, 3) := by decide +kernel
theorem dX11_seekLeast_12 : decode cX11_seekLeast 12 = .ok (.bipush (-2), 2) := by decide +kernel
theorem dX11_seekLeast_14 : decode cX11_seekLeast 14 = .ok (.ireturn, 1) := by decide +kernel
theorem dX11_seekLeast_15 : decode cX11_seekLeast 15 = .ok (.aload_n 0, 1) := by decide +kernel
theorem dX11_seekLeast_16 : decode cX11_seekLeast 16 = .ok (.getfield 64, 3) := by decide +kernel
theorem dX11_seekLeast_19 : decode cX11_seekLeast 19 = .ok (.aload_n 0, 1) := by decide +kernel
theorem dX11_seekLeast_20 : decode cX11_seekLeast 20 = .ok (.getfield 26, 3) := by decide +kernel
theorem dX11_seekLeast_23 : decode cX11_seekLeast 23 = .ok (.invokevirtual 287, 3) := by decide +kernel
theorem dX11_seekLeast_26 : decode cX11_seekLeast 26 = .ok (.aload_n 0, 1) := by decide +kernel
theorem dX11_seekLeast_27 : decode cX11_seekLeast 27 = .ok (.getfield 64, 3) := by decide +kernel
theorem dX11_seekLeast_30 : decode cX11_seekLeast 30 = .ok (.invokevirtual 290, 3) := by decide +kernel
theorem dX11_seekLeast_33 : decode cX11_seekLeast 33 = .ok (.ifCond .eq 7, 3) := by decide +kernel
theorem dX11_seekLeast_36 : decode cX11_seekLeast 36 = .ok (.iconst 0, 1) := by decide +kernel
theorem dX11_seekLeast_37 : decode cX11_seekLeast 37 = .ok (.goto 5, 3) := by decide +kernel
theorem dX11_seekLeast_40 : decode cX11_seekLeast 40 = .ok (.bipush (-4), 2) := by decide +kernel
theorem dX11_seekLeast_42 : decode cX11_seekLeast 42 = .ok (.ireturn, 1) := by decide +kernel
theorem dX11_steps_0 : decode cX11_steps 0 = .ok (.iload_n 1, 1) := by decide +kernel
theorem dX11_steps_1 : decode cX11_steps 1 = .ok (.invokestatic 146, 3) := by decide +kernel
theorem dX11_steps_4 : decode cX11_steps 4 = .ok (.ifCond .eq 10, 3) := by decide +kernel
theorem dX11_steps_7 : decode cX11_steps 7 = .ok (.iload_n 2, 1) := by decide +kernel
theorem dX11_steps_8 : decode cX11_steps 8 = .ok (.invokestatic 146, 3) := by decide +kernel
theorem dX11_steps_11 : decode cX11_steps 11 = .ok (.ifCond .ne 5, 3) := by decide +kernel
theorem dX11_steps_14 : decode cX11_steps 14 = .ok (.iconst (-1), 1) := by decide +kernel
theorem dX11_steps_15 : decode cX11_steps 15 = .ok (.ireturn, 1) := by decide +kernel
theorem dX11_steps_16 : decode cX11_steps 16 = .ok (.aload_n 0, 1) := by decide +kernel
theorem dX11_steps_17 : decode cX11_steps 17 = .ok (.getfield 57, 3) := by decide +kernel
theorem dX11_steps_20 : decode cX11_steps 20 = .ok (.aload_n 0, 1) := by decide +kernel
theorem dX11_steps_21 : decode cX11_steps 21 = .ok (.getfield 26, 3) := by decide +kernel
theorem dX11_steps_24 : decode cX11_steps 24 = .ok (.iload_n 1, 1) := by decide +kernel
theorem dX11_steps_25 : decode cX11_steps 25 = .ok (.invokevirtual 294, 3) := by decide +kernel
theorem dX11_steps_28 : decode cX11_steps 28 = .ok (.aload_n 0, 1) := by decide +kernel
theorem dX11_steps_29 : decode cX11_steps 29 = .ok (.getfield 57, 3) := by decide +kernel
theorem dX11_steps_32 : decode cX11_steps 32 = .ok (.getfield 298, 3) := by decide +kernel
theorem dX11_steps_35 : decode cX11_steps 35 = .ok (.iload_n 2, 1) := by decide +kernel
theorem dX11_steps_36 : decode cX11_steps 36 = .ok (.iaload, 1) := by decide +kernel
theorem dX11_steps_37 : decode cX11_steps 37 = .ok (.istore_n 3, 1) := by decide +kernel
theorem dX11_steps_38 : decode cX11_steps 38 = .ok (.iload_n 3, 1) := by decide +kernel
theorem dX11_steps_39 : decode cX11_steps 39 = .ok (.ifCond .lt 7, 3) := by decide +kernel
theorem dX11_steps_42 : decode cX11_steps 42 = .ok (.iload_n 3, 1) := by decide +kernel
theorem dX11_steps_43 : decode cX11_steps 43 = .ok (.goto 5, 3) := by decide +kernel
theorem dX11_steps_46 : decode cX11_steps 46 = .ok (.bipush (-4), 2) := by decide +kernel
theorem dX11_steps_48 : decode cX11_steps 48 = .ok (.ireturn, 1) := by decide +kernel
theorem dX11_beyond_0 : decode cX11_beyond 0 = .ok (.aload_n 0, 1) := by decide +kernel
theorem dX11_beyond_1 : decode cX11_beyond 1 = .ok (.getfield 57, 3) := by decide +kernel
theorem dX11_beyond_4 : decode cX11_beyond 4 = .ok (.aload_n 0, 1) := by decide +kernel
theorem dX11_beyond_5 : decode cX11_beyond 5 = .ok (.getfield 26, 3) := by decide +kernel
theorem dX11_beyond_8 : decode cX11_beyond 8 = .ok (.aload_n 0, 1) := by decide +kernel
theorem dX11_beyond_9 : decode cX11_beyond 9 = .ok (.getfield 26, 3) := by decide +kernel
theorem dX11_beyond_12 : decode cX11_beyond 12 = .ok (.iconst 0, 1) := by decide +kernel
theorem dX11_beyond_13 : decode cX11_beyond 13 = .ok (.invokevirtual 142, 3) := by decide +kernel
theorem dX11_beyond_16 : decode cX11_beyond 16 = .ok (.invokevirtual 294, 3) := by decide +kernel
theorem dX11_beyond_19 : decode cX11_beyond 19 = .ok (.lconst 0, 1) := by decide +kernel
theorem dX11_beyond_20 : decode cX11_beyond 20 = .ok (.lstore_n 1, 1) := by decide +kernel
theorem dX11_beyond_21 : decode cX11_beyond 21 = .ok (.iconst 0, 1) := by decide +kernel
theorem dX11_beyond_22 : decode cX11_beyond 22 = .ok (.istore_n 3, 1) := by decide +kernel
theorem dX11_beyond_23 : decode cX11_beyond 23 = .ok (.iload_n 3, 1) := by decide +kernel
theorem dX11_beyond_24 : decode cX11_beyond 24 = .ok (.bipush 36, 2) := by decide +kernel
theorem dX11_beyond_26 : decode cX11_beyond 26 = .ok (.if_icmp .ge 55, 3) := by decide +kernel
theorem dX11_beyond_29 : decode cX11_beyond 29 = .ok (.aload_n 0, 1) := by decide +kernel
theorem dX11_beyond_30 : decode cX11_beyond 30 = .ok (.getfield 57, 3) := by decide +kernel
theorem dX11_beyond_33 : decode cX11_beyond 33 = .ok (.getfield 298, 3) := by decide +kernel
theorem dX11_beyond_36 : decode cX11_beyond 36 = .ok (.iload_n 3, 1) := by decide +kernel
theorem dX11_beyond_37 : decode cX11_beyond 37 = .ok (.iaload, 1) := by decide +kernel
theorem dX11_beyond_38 : decode cX11_beyond 38 = .ok (.istore 4, 2) := by decide +kernel
theorem dX11_beyond_40 : decode cX11_beyond 40 = .ok (.aload_n 0, 1) := by decide +kernel
theorem dX11_beyond_41 : decode cX11_beyond 41 = .ok (.getfield 26, 3) := by decide +kernel
theorem dX11_beyond_44 : decode cX11_beyond 44 = .ok (.iload_n 3, 1) := by decide +kernel
theorem dX11_beyond_45 : decode cX11_beyond 45 = .ok (.invokevirtual 301, 3) := by decide +kernel
theorem dX11_beyond_48 : decode cX11_beyond 48 = .ok (.ifCond .eq 27, 3) := by decide +kernel
theorem dX11_beyond_51 : decode cX11_beyond 51 = .ok (.iload 4, 2) := by decide +kernel
theorem dX11_beyond_53 : decode cX11_beyond 53 = .ok (.ifCond .lt 16, 3) := by decide +kernel
theorem dX11_beyond_56 : decode cX11_beyond 56 = .ok (.iload 4, 2) := by decide +kernel
theorem dX11_beyond_58 : decode cX11_beyond 58 = .ok (.aload_n 0, 1) := by decide +kernel
theorem dX11_beyond_59 : decode cX11_beyond 59 = .ok (.getfield 26, 3) := by decide +kernel
theorem dX11_beyond_62 : decode cX11_beyond 62 = .ok (.iconst 5, 1) := by decide +kernel
theorem dX11_beyond_63 : decode cX11_beyond 63 = .ok (.invokevirtual 142, 3) := by decide +kernel
theorem dX11_beyond_66 : decode cX11_beyond 66 = .ok (.if_icmp .le 9, 3) := by decide +kernel
theorem dX11_beyond_69 : decode cX11_beyond 69 = .ok (.lload_n 1, 1) := by decide +kernel
theorem dX11_beyond_70 : decode cX11_beyond 70 = .ok (.lconst 1, 1) := by decide +kernel
theorem dX11_beyond_71 : decode cX11_beyond 71 = .ok (.iload_n 3, 1) := by decide +kernel
theorem dX11_beyond_72 : decode cX11_beyond 72 = .ok (.lshl, 1) := by decide +kernel
theorem dX11_beyond_73 : decode cX11_beyond 73 = .ok (.lor, 1) := by decide +kernel
theorem dX11_beyond_74 : decode cX11_beyond 74 = .ok (.lstore_n 1, 1) := by decide +kernel
theorem dX11_beyond_75 : decode cX11_beyond 75 = .ok (.iinc 3 1, 3) := by decide +kernel
theorem dX11_beyond_78 : decode cX11_beyond 78 = .ok (.goto (-55), 3) := by decide +kernel
theorem dX11_beyond_81 : decode cX11_beyond 81 = .ok (.lload_n 1, 1) := by decide +kernel
theorem dX11_beyond_82 : decode cX11_beyond 82 = .ok (.lreturn, 1) := by decide +kernel
theorem dX11_middle_0 : decode cX11_middle 0 = .ok (.iload_n 1, 1) := by decide +kernel
theorem dX11_middle_1 : decode cX11_middle 1 = .ok (.iconst 0, 1) := by decide +kernel
theorem dX11_middle_2 : decode cX11_middle 2 = .ok (.iconst 1, 1) := by decide +kernel
theorem dX11_middle_3 : decode cX11_middle 3 = .ok (.invokestatic 138, 3) := by decide +kernel
theorem dX11_middle_6 : decode cX11_middle 6 = .ok (.ifCond .ne 5, 3) := by decide +kernel
theorem dX11_middle_9 : decode cX11_middle 9 = .ok (.iconst (-1), 1) := by decide +kernel
theorem dX11_middle_10 : decode cX11_middle 10 = .ok (.ireturn, 1) := by decide +kernel
theorem dX11_middle_11 : decode cX11_middle 11 = .ok (.bipush (-4), 2) := by decide +kernel
theorem dX11_middle_13 : decode cX11_middle 13 = .ok (.istore_n 2, 1) := by decide +kernel
theorem dX11_middle_14 : decode cX11_middle 14 = .ok (.bipush (-4), 2) := by decide +kernel
theorem dX11_middle_16 : decode cX11_middle 16 = .ok (.istore_n 3, 1) := by decide +kernel
theorem dX11_middle_17 : decode cX11_middle 17 = .ok (.iconst 0, 1) := by decide +kernel
theorem dX11_middle_18 : decode cX11_middle 18 = .ok (.istore 4, 2) := by decide +kernel
theorem dX11_middle_20 : decode cX11_middle 20 = .ok (.iload 4, 2) := by decide +kernel
theorem dX11_middle_22 : decode cX11_middle 22 = .ok (.bipush 36, 2) := by decide +kernel
theorem dX11_middle_24 : decode cX11_middle 24 = .ok (.if_icmp .ge 45, 3) := by decide +kernel
theorem dX11_middle_27 : decode cX11_middle 27 = .ok (.aload_n 0, 1) := by decide +kernel
theorem dX11_middle_28 : decode cX11_middle 28 = .ok (.getfield 57, 3) := by decide +kernel
theorem dX11_middle_31 : decode cX11_middle 31 = .ok (.aload_n 0, 1) := by decide +kernel
theorem dX11_middle_32 : decode cX11_middle 32 = .ok (.getfield 26, 3) := by decide +kernel
theorem dX11_middle_35 : decode cX11_middle 35 = .ok (.iload 4, 2) := by decide +kernel
theorem dX11_middle_37 : decode cX11_middle 37 = .ok (.invokevirtual 304, 3) := by decide +kernel
theorem dX11_middle_40 : decode cX11_middle 40 = .ok (.istore 5, 2) := by decide +kernel
theorem dX11_middle_42 : decode cX11_middle 42 = .ok (.iload 5, 2) := by decide +kernel
theorem dX11_middle_44 : decode cX11_middle 44 = .ok (.ifCond .lt 19, 3) := by decide +kernel
theorem dX11_middle_47 : decode cX11_middle 47 = .ok (.iload_n 2, 1) := by decide +kernel
theorem dX11_middle_48 : decode cX11_middle 48 = .ok (.ifCond .lt 9, 3) := by decide +kernel
theorem dX11_middle_51 : decode cX11_middle 51 = .ok (.iload 5, 2) := by decide +kernel
theorem dX11_middle_53 : decode cX11_middle 53 = .ok (.iload_n 3, 1) := by decide +kernel
theorem dX11_middle_54 : decode cX11_middle 54 = .ok (.if_icmp .ge 9, 3) := by decide +kernel
theorem dX11_middle_57 : decode cX11_middle 57 = .ok (.iload 4, 2) := by decide +kernel
theorem dX11_middle_59 : decode cX11_middle 59 = .ok (.istore_n 2, 1) := by decide +kernel
theorem dX11_middle_60 : decode cX11_middle 60 = .ok (.iload 5, 2) := by decide +kernel
theorem dX11_middle_62 : decode cX11_middle 62 = .ok (.istore_n 3, 1) := by decide +kernel
theorem dX11_middle_63 : decode cX11_middle 63 = .ok (.iinc 4 1, 3) := by decide +kernel
theorem dX11_middle_66 : decode cX11_middle 66 = .ok (.goto (-46), 3) := by decide +kernel
theorem dX11_middle_69 : decode cX11_middle 69 = .ok (.iload_n 1, 1) := by decide +kernel
theorem dX11_middle_70 : decode cX11_middle 70 = .ok (.ifCond .ne 7, 3) := by decide +kernel
theorem dX11_middle_73 : decode cX11_middle 73 = .ok (.iload_n 2, 1) := by decide +kernel
theorem dX11_middle_74 : decode cX11_middle 74 = .ok (.goto 4, 3) := by decide +kernel
theorem dX11_middle_77 : decode cX11_middle 77 = .ok (.iload_n 3, 1) := by decide +kernel
theorem dX11_middle_78 : decode cX11_middle 78 = .ok (.ireturn, 1) := by decide +kernel
theorem dX11_robot_0 : decode cX11_robot 0 = .ok (.iload_n 1, 1) := by decide +kernel
theorem dX11_robot_1 : decode cX11_robot 1 = .ok (.iload_n 2, 1) := by decide +kernel
theorem dX11_robot_2 : decode cX11_robot 2 = .ok (.iload_n 3, 1) := by decide +kernel
theorem dX11_robot_3 : decode cX11_robot 3 = .ok (.iconst 3, 1) := by decide +kernel
theorem dX11_robot_4 : decode cX11_robot 4 = .ok (.invokestatic 307, 3) := by decide +kernel
theorem dX11_robot_7 : decode cX11_robot 7 = .ok (.ifCond .eq 25, 3) := by decide +kernel
theorem dX11_robot_10 : decode cX11_robot 10 = .ok (.iload 5, 2) := by decide +kernel
theorem dX11_robot_12 : decode cX11_robot 12 = .ok (.iconst 0, 1) := by decide +kernel
theorem dX11_robot_13 : decode cX11_robot 13 = .ok (.sipush 999, 3) := by decide +kernel
theorem dX11_robot_16 : decode cX11_robot 16 = .ok (.invokestatic 138, 3) := by decide +kernel
theorem dX11_robot_19 : decode cX11_robot 19 = .ok (.ifCond .eq 13, 3) := by decide +kernel
theorem dX11_robot_22 : decode cX11_robot 22 = .ok (.iload 6, 2) := by decide +kernel
theorem dX11_robot_24 : decode cX11_robot 24 = .ok (.iconst 0, 1) := by decide +kernel
theorem dX11_robot_25 : decode cX11_robot 25 = .ok (.iconst 5, 1) := by decide +kernel
theorem dX11_robot_26 : decode cX11_robot 26 = .ok (.invokestatic 138, 3) := by decide +kernel
theorem dX11_robot_29 : decode cX11_robot 29 = .ok (.ifCond .ne 7, 3) := by decide +kernel
theorem dX11_robot_32 : decode cX11_robot 32 = .ok (.ldc2_w 221, 3) := by decide +kernel
theorem dX11_robot_35 : decode cX11_robot 35 = .ok (.lreturn, 1) := by decide +kernel
theorem dX11_robot_36 : decode cX11_robot 36 = .ok (.aload_n 0, 1) := by decide +kernel
theorem dX11_robot_37 : decode cX11_robot 37 = .ok (.getfield 26, 3) := by decide +kernel
theorem dX11_robot_40 : decode cX11_robot 40 = .ok (.iload_n 1, 1) := by decide +kernel
theorem dX11_robot_41 : decode cX11_robot 41 = .ok (.invokevirtual 311, 3) := by decide +kernel
theorem dX11_robot_44 : decode cX11_robot 44 = .ok (.ifCond .ne 7, 3) := by decide +kernel
theorem dX11_robot_47 : decode cX11_robot 47 = .ok (.ldc2_w 314, 3) := by decide +kernel
theorem dX11_robot_50 : decode cX11_robot 50 = .ok (.lreturn, 1) := by decide +kernel
theorem dX11_robot_51 : decode cX11_robot 51 = .ok (.aload_n 0, 1) := by decide +kernel
theorem dX11_robot_52 : decode cX11_robot 52 = .ok (.getfield 71, 3) := by decide +kernel
theorem dX11_robot_55 : decode cX11_robot 55 = .ok (.iload_n 1, 1) := by decide +kernel
theorem dX11_robot_56 : decode cX11_robot 56 = .ok (.iload_n 2, 1) := by decide +kernel
theorem dX11_robot_57 : decode cX11_robot 57 = .ok (.iload 4, 2) := by decide +kernel
theorem dX11_robot_59 : decode cX11_robot 59 = .ok (.invokevirtual 316, 3) := by decide +kernel
theorem dX11_robot_62 : decode cX11_robot 62 = .ok (.aload_n 0, 1) := by decide +kernel
theorem dX11_robot_63 : decode cX11_robot 63 = .ok (.getfield 71, 3) := by decide +kernel
theorem dX11_robot_66 : decode cX11_robot 66 = .ok (.aload_n 0, 1) := by decide +kernel
theorem dX11_robot_67 : decode cX11_robot 67 = .ok (.getfield 26, 3) := by decide +kernel
theorem dX11_robot_70 : decode cX11_robot 70 = .ok (.iload_n 3, 1) := by decide +kernel
theorem dX11_robot_71 : decode cX11_robot 71 = .ok (.iload 5, 2) := by decide +kernel
theorem dX11_robot_73 : decode cX11_robot 73 = .ok (.invokevirtual 320, 3) := by decide +kernel
theorem dX11_robot_76 : decode cX11_robot 76 = .ok (.iload 6, 2) := by decide +kernel
theorem dX11_robot_78 : decode cX11_robot 78 = .ok (.tableswitch 81 0 4 #[34, 43, 52, 64, 72], 34) := by decide +kernel
theorem dX11_robot_112 : decode cX11_robot 112 = .ok (.aload_n 0, 1) := by decide +kernel
theorem dX11_robot_113 : decode cX11_robot 113 = .ok (.getfield 71, 3) := by decide +kernel
theorem dX11_robot_116 : decode cX11_robot 116 = .ok (.getfield 324, 3) := by decide +kernel
theorem dX11_robot_119 : decode cX11_robot 119 = .ok (.i2l, 1) := by decide +kernel
theorem dX11_robot_120 : decode cX11_robot 120 = .ok (.lreturn, 1) := by decide +kernel
theorem dX11_robot_121 : decode cX11_robot 121 = .ok (.aload_n 0, 1) := by decide +kernel
theorem dX11_robot_122 : decode cX11_robot 122 = .ok (.getfield 71, 3) := by decide +kernel
theorem dX11_robot_125 : decode cX11_robot 125 = .ok (.getfield 325, 3) := by decide +kernel
theorem dX11_robot_128 : decode cX11_robot 128 = .ok (.i2l, 1) := by decide +kernel
theorem dX11_robot_129 : decode cX11_robot 129 = .ok (.lreturn, 1) := by decide +kernel
theorem dX11_robot_130 : decode cX11_robot 130 = .ok (.aload_n 0, 1) := by decide +kernel
theorem dX11_robot_131 : decode cX11_robot 131 = .ok (.getfield 71, 3) := by decide +kernel
theorem dX11_robot_134 : decode cX11_robot 134 = .ok (.getfield 328, 3) := by decide +kernel
theorem dX11_robot_137 : decode cX11_robot 137 = .ok (.invokestatic 332, 3) := by decide +kernel
theorem dX11_robot_140 : decode cX11_robot 140 = .ok (.i2l, 1) := by decide +kernel
theorem dX11_robot_141 : decode cX11_robot 141 = .ok (.lreturn, 1) := by decide +kernel
theorem dX11_robot_142 : decode cX11_robot 142 = .ok (.aload_n 0, 1) := by decide +kernel
theorem dX11_robot_143 : decode cX11_robot 143 = .ok (.getfield 71, 3) := by decide +kernel
theorem dX11_robot_146 : decode cX11_robot 146 = .ok (.getfield 328, 3) := by decide +kernel
theorem dX11_robot_149 : decode cX11_robot 149 = .ok (.lreturn, 1) := by decide +kernel
theorem dX11_robot_150 : decode cX11_robot 150 = .ok (.aload_n 0, 1) := by decide +kernel
theorem dX11_robot_151 : decode cX11_robot 151 = .ok (.getfield 71, 3) := by decide +kernel
theorem dX11_robot_154 : decode cX11_robot 154 = .ok (.getfield 338, 3) := by decide +kernel
theorem dX11_robot_157 : decode cX11_robot 157 = .ok (.i2l, 1) := by decide +kernel
theorem dX11_robot_158 : decode cX11_robot 158 = .ok (.lreturn, 1) := by decide +kernel
theorem dX11_robot_159 : decode cX11_robot 159 = .ok (.aload_n 0, 1) := by decide +kernel
theorem dX11_robot_160 : decode cX11_robot 160 = .ok (.getfield 71, 3) := by decide +kernel
theorem dX11_robot_163 : decode cX11_robot 163 = .ok (.getfield 341, 3) := by decide +kernel
theorem dX11_robot_166 : decode cX11_robot 166 = .ok (.i2l, 1) := by decide +kernel
theorem dX11_robot_167 : decode cX11_robot 167 = .ok (.lreturn, 1) := by decide +kernel
theorem dX11_until_0 : decode cX11_until 0 = .ok (.iload_n 1, 1) := by decide +kernel
theorem dX11_until_1 : decode cX11_until 1 = .ok (.iload_n 2, 1) := by decide +kernel
theorem dX11_until_2 : decode cX11_until 2 = .ok (.iload_n 3, 1) := by decide +kernel
theorem dX11_until_3 : decode cX11_until 3 = .ok (.iconst 3, 1) := by decide +kernel
theorem dX11_until_4 : decode cX11_until 4 = .ok (.invokestatic 307, 3) := by decide +kernel
theorem dX11_until_7 : decode cX11_until 7 = .ok (.ifCond .eq 25, 3) := by decide +kernel
theorem dX11_until_10 : decode cX11_until 10 = .ok (.iload 6, 2) := by decide +kernel
theorem dX11_until_12 : decode cX11_until 12 = .ok (.iconst 1, 1) := by decide +kernel
theorem dX11_until_13 : decode cX11_until 13 = .ok (.bipush 99, 2) := by decide +kernel
theorem dX11_until_15 : decode cX11_until 15 = .ok (.invokestatic 138, 3) := by decide +kernel
theorem dX11_until_18 : decode cX11_until 18 = .ok (.ifCond .eq 14, 3) := by decide +kernel
theorem dX11_until_21 : decode cX11_until 21 = .ok (.iload 5, 2) := by decide +kernel
theorem dX11_until_23 : decode cX11_until 23 = .ok (.iconst 0, 1) := by decide +kernel
theorem dX11_until_24 : decode cX11_until 24 = .ok (.iload 6, 2) := by decide +kernel
theorem dX11_until_26 : decode cX11_until 26 = .ok (.invokestatic 138, 3) := by decide +kernel
theorem dX11_until_29 : decode cX11_until 29 = .ok (.ifCond .ne 5, 3) := by decide +kernel
theorem dX11_until_32 : decode cX11_until 32 = .ok (.iconst (-1), 1) := by decide +kernel
theorem dX11_until_33 : decode cX11_until 33 = .ok (.ireturn, 1) := by decide +kernel
theorem dX11_until_34 : decode cX11_until 34 = .ok (.aload_n 0, 1) := by decide +kernel
theorem dX11_until_35 : decode cX11_until 35 = .ok (.getfield 26, 3) := by decide +kernel
theorem dX11_until_38 : decode cX11_until 38 = .ok (.iload_n 1, 1) := by decide +kernel
theorem dX11_until_39 : decode cX11_until 39 = .ok (.invokevirtual 311, 3) := by decide +kernel
theorem dX11_until_42 : decode cX11_until 42 = .ok (.ifCond .ne 6, 3) := by decide +kernel
theorem dX11_until_45 : decode cX11_until 45 = .ok (.bipush (-2), 2) := by decide +kernel
theorem dX11_until_47 : decode cX11_until 47 = .ok (.ireturn, 1) := by decide +kernel
theorem dX11_until_48 : decode cX11_until 48 = .ok (.aload_n 0, 1) := by decide +kernel
theorem dX11_until_49 : decode cX11_until 49 = .ok (.getfield 26, 3) := by decide +kernel
theorem dX11_until_52 : decode cX11_until 52 = .ok (.invokevirtual 344, 3) := by decide +kernel
theorem dX11_until_55 : decode cX11_until 55 = .ok (.lstore 7, 2) := by decide +kernel
theorem dX11_until_57 : decode cX11_until 57 = .ok (.iload 5, 2) := by decide +kernel
theorem dX11_until_59 : decode cX11_until 59 = .ok (.lload 7, 2) := by decide +kernel
theorem dX11_until_61 : decode cX11_until 61 = .ok (.invokestatic 332, 3) := by decide +kernel
theorem dX11_until_64 : decode cX11_until 64 = .ok (.imul, 1) := by decide +kernel
theorem dX11_until_65 : decode cX11_until 65 = .ok (.istore 9, 2) := by decide +kernel
theorem dX11_until_67 : decode cX11_until 67 = .ok (.aload_n 0, 1) := by decide +kernel
theorem dX11_until_68 : decode cX11_until 68 = .ok (.getfield 71, 3) := by decide +kernel
theorem dX11_until_71 : decode cX11_until 71 = .ok (.iload_n 1, 1) := by decide +kernel
theorem dX11_until_72 : decode cX11_until 72 = .ok (.iload_n 2, 1) := by decide +kernel
theorem dX11_until_73 : decode cX11_until 73 = .ok (.iload 4, 2) := by decide +kernel
theorem dX11_until_75 : decode cX11_until 75 = .ok (.invokevirtual 316, 3) := by decide +kernel
theorem dX11_until_78 : decode cX11_until 78 = .ok (.iconst 0, 1) := by decide +kernel
theorem dX11_until_79 : decode cX11_until 79 = .ok (.istore 10, 2) := by decide +kernel
theorem dX11_until_81 : decode cX11_until 81 = .ok (.iload 10, 2) := by decide +kernel
theorem dX11_until_83 : decode cX11_until 83 = .ok (.sipush 999, 3) := by decide +kernel
theorem dX11_until_86 : decode cX11_until 86 = .ok (.if_icmp .gt 45, 3) := by decide +kernel
theorem dX11_until_89 : decode cX11_until 89 = .ok (.aload_n 0, 1) := by decide +kernel
theorem dX11_until_90 : decode cX11_until 90 = .ok (.getfield 71, 3) := by decide +kernel
theorem dX11_until_93 : decode cX11_until 93 = .ok (.getfield 328, 3) := by decide +kernel
theorem dX11_until_96 : decode cX11_until 96 = .ok (.lload 7, 2) := by decide +kernel
theorem dX11_until_98 : decode cX11_until 98 = .ok (.land, 1) := by decide +kernel
theorem dX11_until_99 : decode cX11_until 99 = .ok (.invokestatic 332, 3) := by decide +kernel
theorem dX11_until_102 : decode cX11_until 102 = .ok (.iload 6, 2) := by decide +kernel
theorem dX11_until_104 : decode cX11_until 104 = .ok (.imul, 1) := by decide +kernel
theorem dX11_until_105 : decode cX11_until 105 = .ok (.iload 9, 2) := by decide +kernel
theorem dX11_until_107 : decode cX11_until 107 = .ok (.if_icmp .lt 6, 3) := by decide +kernel
theorem dX11_until_110 : decode cX11_until 110 = .ok (.iload 10, 2) := by decide +kernel
theorem dX11_until_112 : decode cX11_until 112 = .ok (.ireturn, 1) := by decide +kernel
theorem dX11_until_113 : decode cX11_until 113 = .ok (.aload_n 0, 1) := by decide +kernel
theorem dX11_until_114 : decode cX11_until 114 = .ok (.getfield 71, 3) := by decide +kernel
theorem dX11_until_117 : decode cX11_until 117 = .ok (.aload_n 0, 1) := by decide +kernel
theorem dX11_until_118 : decode cX11_until 118 = .ok (.getfield 26, 3) := by decide +kernel
theorem dX11_until_121 : decode cX11_until 121 = .ok (.iload_n 3, 1) := by decide +kernel
theorem dX11_until_122 : decode cX11_until 122 = .ok (.invokevirtual 347, 3) := by decide +kernel
theorem dX11_until_125 : decode cX11_until 125 = .ok (.iinc 10 1, 3) := by decide +kernel
theorem dX11_until_128 : decode cX11_until 128 = .ok (.goto (-47), 3) := by decide +kernel
theorem dX11_until_131 : decode cX11_until 131 = .ok (.bipush (-4), 2) := by decide +kernel
theorem dX11_until_133 : decode cX11_until 133 = .ok (.ireturn, 1) := by decide +kernel
theorem dX11_never_0 : decode cX11_never 0 = .ok (.iload_n 1, 1) := by decide +kernel
theorem dX11_never_1 : decode cX11_never 1 = .ok (.iload_n 2, 1) := by decide +kernel
theorem dX11_never_2 : decode cX11_never 2 = .ok (.iload_n 3, 1) := by decide +kernel
theorem dX11_never_3 : decode cX11_never 3 = .ok (.iconst 2, 1) := by decide +kernel
theorem dX11_never_4 : decode cX11_never 4 = .ok (.invokestatic 307, 3) := by decide +kernel
theorem dX11_never_7 : decode cX11_never 7 = .ok (.ifCond .ne 7, 3) := by decide +kernel
theorem dX11_never_10 : decode cX11_never 10 = .ok (.ldc2_w 221, 3) := by decide +kernel
theorem dX11_never_13 : decode cX11_never 13 = .ok (.lreturn, 1) := by decide +kernel
theorem dX11_never_14 : decode cX11_never 14 = .ok (.aload_n 0, 1) := by decide +kernel
theorem dX11_never_15 : decode cX11_never 15 = .ok (.getfield 26, 3) := by decide +kernel
theorem dX11_never_18 : decode cX11_never 18 = .ok (.iload_n 1, 1) := by decide +kernel
theorem dX11_never_19 : decode cX11_never 19 = .ok (.invokevirtual 311, 3) := by decide +kernel
theorem dX11_never_22 : decode cX11_never 22 = .ok (.ifCond .ne 7, 3) := by decide +kernel
theorem dX11_never_25 : decode cX11_never 25 = .ok (.ldc2_w 314, 3) := by decide +kernel
theorem dX11_never_28 : decode cX11_never 28 = .ok (.lreturn, 1) := by decide +kernel
theorem dX11_never_29 : decode cX11_never 29 = .ok (.aload_n 0, 1) := by decide +kernel
theorem dX11_never_30 : decode cX11_never 30 = .ok (.getfield 71, 3) := by decide +kernel
theorem dX11_never_33 : decode cX11_never 33 = .ok (.iload_n 1, 1) := by decide +kernel
theorem dX11_never_34 : decode cX11_never 34 = .ok (.iload_n 2, 1) := by decide +kernel
theorem dX11_never_35 : decode cX11_never 35 = .ok (.iconst 0, 1) := by decide +kernel
theorem dX11_never_36 : decode cX11_never 36 = .ok (.invokevirtual 316, 3) := by decide +kernel
theorem dX11_never_39 : decode cX11_never 39 = .ok (.aload_n 0, 1) := by decide +kernel
theorem dX11_never_40 : decode cX11_never 40 = .ok (.getfield 71, 3) := by decide +kernel
theorem dX11_never_43 : decode cX11_never 43 = .ok (.aload_n 0, 1) := by decide +kernel
theorem dX11_never_44 : decode cX11_never 44 = .ok (.getfield 26, 3) := by decide +kernel
theorem dX11_never_47 : decode cX11_never 47 = .ok (.iload_n 3, 1) := by decide +kernel
theorem dX11_never_48 : decode cX11_never 48 = .ok (.sipush 144, 3) := by decide +kernel
theorem dX11_never_51 : decode cX11_never 51 = .ok (.invokevirtual 320, 3) := by decide +kernel
theorem dX11_never_54 : decode cX11_never 54 = .ok (.aload_n 0, 1) := by decide +kernel
theorem dX11_never_55 : decode cX11_never 55 = .ok (.getfield 26, 3) := by decide +kernel
theorem dX11_never_58 : decode cX11_never 58 = .ok (.invokevirtual 344, 3) := by decide +kernel
theorem dX11_never_61 : decode cX11_never 61 = .ok (.aload_n 0, 1) := by decide +kernel
theorem dX11_never_62 : decode cX11_never 62 = .ok (.getfield 71, 3) := by decide +kernel
theorem dX11_never_65 : decode cX11_never 65 = .ok (.getfield 328, 3) := by decide +kernel
theorem dX11_never_68 : decode cX11_never 68 = .ok (.ldc2_w 221, 3) := by decide +kernel
theorem dX11_never_71 : decode cX11_never 71 = .ok (.lxor, 1) := by decide +kernel
theorem dX11_never_72 : decode cX11_never 72 = .ok (.land, 1) := by decide +kernel
theorem dX11_never_73 : decode cX11_never 73 = .ok (.lreturn, 1) := by decide +kernel
theorem dX11_best_0 : decode cX11_best 0 = .ok (.iload_n 1, 1) := by decide +kernel
theorem dX11_best_1 : decode cX11_best 1 = .ok (.iload_n 2, 1) := by decide +kernel
theorem dX11_best_2 : decode cX11_best 2 = .ok (.iconst 0, 1) := by decide +kernel
theorem dX11_best_3 : decode cX11_best 3 = .ok (.iconst 3, 1) := by decide +kernel
theorem dX11_best_4 : decode cX11_best 4 = .ok (.invokestatic 307, 3) := by decide +kernel
theorem dX11_best_7 : decode cX11_best 7 = .ok (.ifCond .eq 25, 3) := by decide +kernel
theorem dX11_best_10 : decode cX11_best 10 = .ok (.iload 4, 2) := by decide +kernel
theorem dX11_best_12 : decode cX11_best 12 = .ok (.iconst 0, 1) := by decide +kernel
theorem dX11_best_13 : decode cX11_best 13 = .ok (.sipush 999, 3) := by decide +kernel
theorem dX11_best_16 : decode cX11_best 16 = .ok (.invokestatic 138, 3) := by decide +kernel
theorem dX11_best_19 : decode cX11_best 19 = .ok (.ifCond .eq 13, 3) := by decide +kernel
theorem dX11_best_22 : decode cX11_best 22 = .ok (.iload 5, 2) := by decide +kernel
theorem dX11_best_24 : decode cX11_best 24 = .ok (.iconst 0, 1) := by decide +kernel
theorem dX11_best_25 : decode cX11_best 25 = .ok (.iconst 1, 1) := by decide +kernel
theorem dX11_best_26 : decode cX11_best 26 = .ok (.invokestatic 138, 3) := by decide +kernel
theorem dX11_best_29 : decode cX11_best 29 = .ok (.ifCond .ne 5, 3) := by decide +kernel
theorem dX11_best_32 : decode cX11_best 32 = .ok (.iconst (-1), 1) := by decide +kernel
theorem dX11_best_33 : decode cX11_best 33 = .ok (.ireturn, 1) := by decide +kernel
theorem dX11_best_34 : decode cX11_best 34 = .ok (.aload_n 0, 1) := by decide +kernel
theorem dX11_best_35 : decode cX11_best 35 = .ok (.getfield 26, 3) := by decide +kernel
theorem dX11_best_38 : decode cX11_best 38 = .ok (.iload_n 1, 1) := by decide +kernel
theorem dX11_best_39 : decode cX11_best 39 = .ok (.invokevirtual 311, 3) := by decide +kernel
theorem dX11_best_42 : decode cX11_best 42 = .ok (.ifCond .ne 6, 3) := by decide +kernel
theorem dX11_best_45 : decode cX11_best 45 = .ok (.bipush (-2), 2) := by decide +kernel
theorem dX11_best_47 : decode cX11_best 47 = .ok (.ireturn, 1) := by decide +kernel
theorem dX11_best_48 : decode cX11_best 48 = .ok (.iconst 0, 1) := by decide +kernel
theorem dX11_best_49 : decode cX11_best 49 = .ok (.istore 6, 2) := by decide +kernel
theorem dX11_best_51 : decode cX11_best 51 = .ok (.iconst (-1), 1) := by decide +kernel
theorem dX11_best_52 : decode cX11_best 52 = .ok (.istore 7, 2) := by decide +kernel
theorem dX11_best_54 : decode cX11_best 54 = .ok (.iconst 0, 1) := by decide +kernel
theorem dX11_best_55 : decode cX11_best 55 = .ok (.istore 8, 2) := by decide +kernel
theorem dX11_best_57 : decode cX11_best 57 = .ok (.iload 8, 2) := by decide +kernel
theorem dX11_best_59 : decode cX11_best 59 = .ok (.iconst 3, 1) := by decide +kernel
theorem dX11_best_60 : decode cX11_best 60 = .ok (.if_icmp .gt 69, 3) := by decide +kernel
theorem dX11_best_63 : decode cX11_best 63 = .ok (.aload_n 0, 1) := by decide +kernel
theorem dX11_best_64 : decode cX11_best 64 = .ok (.getfield 71, 3) := by decide +kernel
theorem dX11_best_67 : decode cX11_best 67 = .ok (.iload_n 1, 1) := by decide +kernel
theorem dX11_best_68 : decode cX11_best 68 = .ok (.iload_n 2, 1) := by decide +kernel
theorem dX11_best_69 : decode cX11_best 69 = .ok (.iload_n 3, 1) := by decide +kernel
theorem dX11_best_70 : decode cX11_best 70 = .ok (.invokevirtual 316, 3) := by decide +kernel
theorem dX11_best_73 : decode cX11_best 73 = .ok (.aload_n 0, 1) := by decide +kernel
theorem dX11_best_74 : decode cX11_best 74 = .ok (.getfield 71, 3) := by decide +kernel
theorem dX11_best_77 : decode cX11_best 77 = .ok (.aload_n 0, 1) := by decide +kernel
theorem dX11_best_78 : decode cX11_best 78 = .ok (.getfield 26, 3) := by decide +kernel
theorem dX11_best_81 : decode cX11_best 81 = .ok (.iload 8, 2) := by decide +kernel
theorem dX11_best_83 : decode cX11_best 83 = .ok (.iload 4, 2) := by decide +kernel
theorem dX11_best_85 : decode cX11_best 85 = .ok (.invokevirtual 320, 3) := by decide +kernel
theorem dX11_best_88 : decode cX11_best 88 = .ok (.aload_n 0, 1) := by decide +kernel
theorem dX11_best_89 : decode cX11_best 89 = .ok (.getfield 71, 3) := by decide +kernel
theorem dX11_best_92 : decode cX11_best 92 = .ok (.getfield 328, 3) := by decide +kernel
theorem dX11_best_95 : decode cX11_best 95 = .ok (.aload_n 0, 1) := by decide +kernel
theorem dX11_best_96 : decode cX11_best 96 = .ok (.getfield 26, 3) := by decide +kernel
theorem dX11_best_99 : decode cX11_best 99 = .ok (.invokevirtual 344, 3) := by decide +kernel
theorem dX11_best_102 : decode cX11_best 102 = .ok (.land, 1) := by decide +kernel
theorem dX11_best_103 : decode cX11_best 103 = .ok (.invokestatic 332, 3) := by decide +kernel
theorem dX11_best_106 : decode cX11_best 106 = .ok (.istore 9, 2) := by decide +kernel
theorem dX11_best_108 : decode cX11_best 108 = .ok (.iload 9, 2) := by decide +kernel
theorem dX11_best_110 : decode cX11_best 110 = .ok (.iload 7, 2) := by decide +kernel
theorem dX11_best_112 : decode cX11_best 112 = .ok (.if_icmp .le 11, 3) := by decide +kernel
theorem dX11_best_115 : decode cX11_best 115 = .ok (.iload 9, 2) := by decide +kernel
theorem dX11_best_117 : decode cX11_best 117 = .ok (.istore 7, 2) := by decide +kernel
theorem dX11_best_119 : decode cX11_best 119 = .ok (.iload 8, 2) := by decide +kernel
theorem dX11_best_121 : decode cX11_best 121 = .ok (.istore 6, 2) := by decide +kernel
theorem dX11_best_123 : decode cX11_best 123 = .ok (.iinc 8 1, 3) := by decide +kernel
theorem dX11_best_126 : decode cX11_best 126 = .ok (.goto (-69), 3) := by decide +kernel
theorem dX11_best_129 : decode cX11_best 129 = .ok (.iload 5, 2) := by decide +kernel
theorem dX11_best_131 : decode cX11_best 131 = .ok (.ifCond .ne 8, 3) := by decide +kernel
theorem dX11_best_134 : decode cX11_best 134 = .ok (.iload 6, 2) := by decide +kernel
theorem dX11_best_136 : decode cX11_best 136 = .ok (.goto 5, 3) := by decide +kernel
theorem dX11_best_139 : decode cX11_best 139 = .ok (.iload 7, 2) := by decide +kernel
theorem dX11_best_141 : decode cX11_best 141 = .ok (.ireturn, 1) := by decide +kernel
theorem dX11_odds_0 : decode cX11_odds 0 = .ok (.iload_n 1, 1) := by decide +kernel
theorem dX11_odds_1 : decode cX11_odds 1 = .ok (.iload_n 2, 1) := by decide +kernel
theorem dX11_odds_2 : decode cX11_odds 2 = .ok (.iconst 0, 1) := by decide +kernel
theorem dX11_odds_3 : decode cX11_odds 3 = .ok (.iconst 3, 1) := by decide +kernel
theorem dX11_odds_4 : decode cX11_odds 4 = .ok (.invokestatic 307, 3) := by decide +kernel
theorem dX11_odds_7 : decode cX11_odds 7 = .ok (.ifCond .eq 10, 3) := by decide +kernel
theorem dX11_odds_10 : decode cX11_odds 10 = .ok (.iload_n 3, 1) := by decide +kernel
theorem dX11_odds_11 : decode cX11_odds 11 = .ok (.invokestatic 146, 3) := by decide +kernel
theorem dX11_odds_14 : decode cX11_odds 14 = .ok (.ifCond .ne 7, 3) := by decide +kernel
theorem dX11_odds_17 : decode cX11_odds 17 = .ok (.ldc2_w 221, 3) := by decide +kernel
theorem dX11_odds_20 : decode cX11_odds 20 = .ok (.lreturn, 1) := by decide +kernel
theorem dX11_odds_21 : decode cX11_odds 21 = .ok (.iload 4, 2) := by decide +kernel
theorem dX11_odds_23 : decode cX11_odds 23 = .ok (.iconst 0, 1) := by decide +kernel
theorem dX11_odds_24 : decode cX11_odds 24 = .ok (.bipush 20, 2) := by decide +kernel
theorem dX11_odds_26 : decode cX11_odds 26 = .ok (.invokestatic 138, 3) := by decide +kernel
theorem dX11_odds_29 : decode cX11_odds 29 = .ok (.ifCond .eq 13, 3) := by decide +kernel
theorem dX11_odds_32 : decode cX11_odds 32 = .ok (.iload 5, 2) := by decide +kernel
theorem dX11_odds_34 : decode cX11_odds 34 = .ok (.iconst 0, 1) := by decide +kernel
theorem dX11_odds_35 : decode cX11_odds 35 = .ok (.iconst 1, 1) := by decide +kernel
theorem dX11_odds_36 : decode cX11_odds 36 = .ok (.invokestatic 138, 3) := by decide +kernel
theorem dX11_odds_39 : decode cX11_odds 39 = .ok (.ifCond .ne 7, 3) := by decide +kernel
theorem dX11_odds_42 : decode cX11_odds 42 = .ok (.ldc2_w 221, 3) := by decide +kernel
theorem dX11_odds_45 : decode cX11_odds 45 = .ok (.lreturn, 1) := by decide +kernel
theorem dX11_odds_46 : decode cX11_odds 46 = .ok (.aload_n 0, 1) := by decide +kernel
theorem dX11_odds_47 : decode cX11_odds 47 = .ok (.getfield 26, 3) := by decide +kernel
theorem dX11_odds_50 : decode cX11_odds 50 = .ok (.iload_n 1, 1) := by decide +kernel
theorem dX11_odds_51 : decode cX11_odds 51 = .ok (.invokevirtual 311, 3) := by decide +kernel
theorem dX11_odds_54 : decode cX11_odds 54 = .ok (.ifCond .ne 7, 3) := by decide +kernel
theorem dX11_odds_57 : decode cX11_odds 57 = .ok (.ldc2_w 314, 3) := by decide +kernel
theorem dX11_odds_60 : decode cX11_odds 60 = .ok (.lreturn, 1) := by decide +kernel
theorem dX11_odds_61 : decode cX11_odds 61 = .ok (.aload_n 0, 1) := by decide +kernel
theorem dX11_odds_62 : decode cX11_odds 62 = .ok (.getfield 78, 3) := by decide +kernel
theorem dX11_odds_65 : decode cX11_odds 65 = .ok (.aload_n 0, 1) := by decide +kernel
theorem dX11_odds_66 : decode cX11_odds 66 = .ok (.getfield 26, 3) := by decide +kernel
theorem dX11_odds_69 : decode cX11_odds 69 = .ok (.iload_n 1, 1) := by decide +kernel
theorem dX11_odds_70 : decode cX11_odds 70 = .ok (.iconst 4, 1) := by decide +kernel
theorem dX11_odds_71 : decode cX11_odds 71 = .ok (.imul, 1) := by decide +kernel
theorem dX11_odds_72 : decode cX11_odds 72 = .ok (.iload_n 2, 1) := by decide +kernel
theorem dX11_odds_73 : decode cX11_odds 73 = .ok (.iadd, 1) := by decide +kernel
theorem dX11_odds_74 : decode cX11_odds 74 = .ok (.iload_n 3, 1) := by decide +kernel
theorem dX11_odds_75 : decode cX11_odds 75 = .ok (.iload 4, 2) := by decide +kernel
theorem dX11_odds_77 : decode cX11_odds 77 = .ok (.invokevirtual 350, 3) := by decide +kernel
theorem dX11_odds_80 : decode cX11_odds 80 = .ok (.iload 5, 2) := by decide +kernel
theorem dX11_odds_82 : decode cX11_odds 82 = .ok (.ifCond .ne 13, 3) := by decide +kernel
theorem dX11_odds_85 : decode cX11_odds 85 = .ok (.aload_n 0, 1) := by decide +kernel
theorem dX11_odds_86 : decode cX11_odds 86 = .ok (.getfield 78, 3) := by decide +kernel
theorem dX11_odds_89 : decode cX11_odds 89 = .ok (.getfield 354, 3) := by decide +kernel
theorem dX11_odds_92 : decode cX11_odds 92 = .ok (.goto 10, 3) := by decide +kernel
theorem dX11_odds_95 : decode cX11_odds 95 = .ok (.aload_n 0, 1) := by decide +kernel
theorem dX11_odds_96 : decode cX11_odds 96 = .ok (.getfield 78, 3) := by decide +kernel
theorem dX11_odds_99 : decode cX11_odds 99 = .ok (.getfield 357, 3) := by decide +kernel
theorem dX11_odds_102 : decode cX11_odds 102 = .ok (.lreturn, 1) := by decide +kernel
theorem dX11_isRobot_0 : decode cX11_isRobot 0 = .ok (.iload_n 0, 1) := by decide +kernel
theorem dX11_isRobot_1 : decode cX11_isRobot 1 = .ok (.invokestatic 146, 3) := by decide +kernel
theorem dX11_isRobot_4 : decode cX11_isRobot 4 = .ok (.ifCond .eq 23, 3) := by decide +kernel
theorem dX11_isRobot_7 : decode cX11_isRobot 7 = .ok (.iload_n 1, 1) := by decide +kernel
theorem dX11_isRobot_8 : decode cX11_isRobot 8 = .ok (.invokestatic 360, 3) := by decide +kernel
theorem dX11_isRobot_11 : decode cX11_isRobot 11 = .ok (.ifCond .eq 16, 3) := by decide +kernel
theorem dX11_isRobot_14 : decode cX11_isRobot 14 = .ok (.iload_n 2, 1) := by decide +kernel
theorem dX11_isRobot_15 : decode cX11_isRobot 15 = .ok (.iconst 0, 1) := by decide +kernel
theorem dX11_isRobot_16 : decode cX11_isRobot 16 = .ok (.iload_n 3, 1) := by decide +kernel
theorem dX11_isRobot_17 : decode cX11_isRobot 17 = .ok (.invokestatic 138, 3) := by decide +kernel
theorem dX11_isRobot_20 : decode cX11_isRobot 20 = .ok (.ifCond .eq 7, 3) := by decide +kernel
theorem dX11_isRobot_23 : decode cX11_isRobot 23 = .ok (.iconst 1, 1) := by decide +kernel
theorem dX11_isRobot_24 : decode cX11_isRobot 24 = .ok (.goto 4, 3) := by decide +kernel
theorem dX11_isRobot_27 : decode cX11_isRobot 27 = .ok (.iconst 0, 1) := by decide +kernel
theorem dX11_isRobot_28 : decode cX11_isRobot 28 = .ok (.ireturn, 1) := by decide +kernel
theorem dX11_week_0 : decode cX11_week 0 = .ok (.iload_n 1, 1) := by decide +kernel
theorem dX11_week_1 : decode cX11_week 1 = .ok (.iconst 1, 1) := by decide +kernel
theorem dX11_week_2 : decode cX11_week 2 = .ok (.bipush 99, 2) := by decide +kernel
theorem dX11_week_4 : decode cX11_week 4 = .ok (.invokestatic 138, 3) := by decide +kernel
theorem dX11_week_7 : decode cX11_week 7 = .ok (.ifCond .ne 5, 3) := by decide +kernel
theorem dX11_week_10 : decode cX11_week 10 = .ok (.iconst (-1), 1) := by decide +kernel
theorem dX11_week_11 : decode cX11_week 11 = .ok (.ireturn, 1) := by decide +kernel
theorem dX11_week_12 : decode cX11_week 12 = .ok (.iconst 0, 1) := by decide +kernel
theorem dX11_week_13 : decode cX11_week 13 = .ok (.istore_n 2, 1) := by decide +kernel
theorem dX11_week_14 : decode cX11_week 14 = .ok (.iconst 0, 1) := by decide +kernel
theorem dX11_week_15 : decode cX11_week 15 = .ok (.istore_n 3, 1) := by decide +kernel
theorem dX11_week_16 : decode cX11_week 16 = .ok (.iload_n 3, 1) := by decide +kernel
theorem dX11_week_17 : decode cX11_week 17 = .ok (.bipush 36, 2) := by decide +kernel
theorem dX11_week_19 : decode cX11_week 19 = .ok (.if_icmp .ge 41, 3) := by decide +kernel
theorem dX11_week_22 : decode cX11_week 22 = .ok (.aload_n 0, 1) := by decide +kernel
theorem dX11_week_23 : decode cX11_week 23 = .ok (.getfield 26, 3) := by decide +kernel
theorem dX11_week_26 : decode cX11_week 26 = .ok (.getfield 154, 3) := by decide +kernel
theorem dX11_week_29 : decode cX11_week 29 = .ok (.iload_n 3, 1) := by decide +kernel
theorem dX11_week_30 : decode cX11_week 30 = .ok (.aload_n 0, 1) := by decide +kernel
theorem dX11_week_31 : decode cX11_week 31 = .ok (.getfield 26, 3) := by decide +kernel
theorem dX11_week_34 : decode cX11_week 34 = .ok (.iload_n 3, 1) := by decide +kernel
theorem dX11_week_35 : decode cX11_week 35 = .ok (.iload_n 1, 1) := by decide +kernel
theorem dX11_week_36 : decode cX11_week 36 = .ok (.invokevirtual 363, 3) := by decide +kernel
theorem dX11_week_39 : decode cX11_week 39 = .ok (.iastore, 1) := by decide +kernel
theorem dX11_week_40 : decode cX11_week 40 = .ok (.iload_n 2, 1) := by decide +kernel
theorem dX11_week_41 : decode cX11_week 41 = .ok (.aload_n 0, 1) := by decide +kernel
theorem dX11_week_42 : decode cX11_week 42 = .ok (.getfield 26, 3) := by decide +kernel
theorem dX11_week_45 : decode cX11_week 45 = .ok (.getfield 154, 3) := by decide +kernel
theorem dX11_week_48 : decode cX11_week 48 = .ok (.iload_n 3, 1) := by decide +kernel
theorem dX11_week_49 : decode cX11_week 49 = .ok (.iaload, 1) := by decide +kernel
theorem dX11_week_50 : decode cX11_week 50 = .ok (.invokestatic 248, 3) := by decide +kernel
theorem dX11_week_53 : decode cX11_week 53 = .ok (.istore_n 2, 1) := by decide +kernel
theorem dX11_week_54 : decode cX11_week 54 = .ok (.iinc 3 1, 3) := by decide +kernel
theorem dX11_week_57 : decode cX11_week 57 = .ok (.goto (-41), 3) := by decide +kernel
theorem dX11_week_60 : decode cX11_week 60 = .ok (.iload_n 2, 1) := by decide +kernel
theorem dX11_week_61 : decode cX11_week 61 = .ok (.ireturn, 1) := by decide +kernel
theorem dX11_high_0 : decode cX11_high 0 = .ok (.iload_n 1, 1) := by decide +kernel
theorem dX11_high_1 : decode cX11_high 1 = .ok (.iconst 0, 1) := by decide +kernel
theorem dX11_high_2 : decode cX11_high 2 = .ok (.bipush 60, 2) := by decide +kernel
theorem dX11_high_4 : decode cX11_high 4 = .ok (.invokestatic 138, 3) := by decide +kernel
theorem dX11_high_7 : decode cX11_high 7 = .ok (.ifCond .eq 12, 3) := by decide +kernel
theorem dX11_high_10 : decode cX11_high 10 = .ok (.iload_n 2, 1) := by decide +kernel
theorem dX11_high_11 : decode cX11_high 11 = .ok (.iconst 0, 1) := by decide +kernel
theorem dX11_high_12 : decode cX11_high 12 = .ok (.iconst 1, 1) := by decide +kernel
theorem dX11_high_13 : decode cX11_high 13 = .ok (.invokestatic 138, 3) := by decide +kernel
theorem dX11_high_16 : decode cX11_high 16 = .ok (.ifCond .ne 7, 3) := by decide +kernel
theorem dX11_high_19 : decode cX11_high 19 = .ok (.ldc2_w 221, 3) := by decide +kernel
theorem dX11_high_22 : decode cX11_high 22 = .ok (.lreturn, 1) := by decide +kernel
theorem dX11_high_23 : decode cX11_high 23 = .ok (.lconst 0, 1) := by decide +kernel
theorem dX11_high_24 : decode cX11_high 24 = .ok (.lstore_n 3, 1) := by decide +kernel
theorem dX11_high_25 : decode cX11_high 25 = .ok (.iconst 0, 1) := by decide +kernel
theorem dX11_high_26 : decode cX11_high 26 = .ok (.istore 5, 2) := by decide +kernel
theorem dX11_high_28 : decode cX11_high 28 = .ok (.iload 5, 2) := by decide +kernel
theorem dX11_high_30 : decode cX11_high 30 = .ok (.bipush 36, 2) := by decide +kernel
theorem dX11_high_32 : decode cX11_high 32 = .ok (.if_icmp .ge 80, 3) := by decide +kernel
theorem dX11_high_35 : decode cX11_high 35 = .ok (.aload_n 0, 1) := by decide +kernel
theorem dX11_high_36 : decode cX11_high 36 = .ok (.getfield 26, 3) := by decide +kernel
theorem dX11_high_39 : decode cX11_high 39 = .ok (.getfield 154, 3) := by decide +kernel
theorem dX11_high_42 : decode cX11_high 42 = .ok (.iload 5, 2) := by decide +kernel
theorem dX11_high_44 : decode cX11_high 44 = .ok (.iaload, 1) := by decide +kernel
theorem dX11_high_45 : decode cX11_high 45 = .ok (.iload_n 1, 1) := by decide +kernel
theorem dX11_high_46 : decode cX11_high 46 = .ok (.if_icmp .le 7, 3) := by decide +kernel
theorem dX11_high_49 : decode cX11_high 49 = .ok (.iconst 1, 1) := by decide +kernel
theorem dX11_high_50 : decode cX11_high 50 = .ok (.goto 4, 3) := by decide +kernel
theorem dX11_high_53 : decode cX11_high 53 = .ok (.iconst 0, 1) := by decide +kernel
theorem dX11_high_54 : decode cX11_high 54 = .ok (.istore 6, 2) := by decide +kernel
theorem dX11_high_56 : decode cX11_high 56 = .ok (.aload_n 0, 1) := by decide +kernel
theorem dX11_high_57 : decode cX11_high 57 = .ok (.getfield 26, 3) := by decide +kernel
theorem dX11_high_60 : decode cX11_high 60 = .ok (.iload 5, 2) := by decide +kernel
theorem dX11_high_62 : decode cX11_high 62 = .ok (.iconst 1, 1) := by decide +kernel
theorem dX11_high_63 : decode cX11_high 63 = .ok (.invokevirtual 363, 3) := by decide +kernel
theorem dX11_high_66 : decode cX11_high 66 = .ok (.iload_n 1, 1) := by decide +kernel
theorem dX11_high_67 : decode cX11_high 67 = .ok (.if_icmp .le 7, 3) := by decide +kernel
theorem dX11_high_70 : decode cX11_high 70 = .ok (.iconst 1, 1) := by decide +kernel
theorem dX11_high_71 : decode cX11_high 71 = .ok (.goto 4, 3) := by decide +kernel
theorem dX11_high_74 : decode cX11_high 74 = .ok (.iconst 0, 1) := by decide +kernel
theorem dX11_high_75 : decode cX11_high 75 = .ok (.istore 7, 2) := by decide +kernel
theorem dX11_high_77 : decode cX11_high 77 = .ok (.iload_n 2, 1) := by decide +kernel
theorem dX11_high_78 : decode cX11_high 78 = .ok (.ifCond .ne 11, 3) := by decide +kernel
theorem dX11_high_81 : decode cX11_high 81 = .ok (.iload 6, 2) := by decide +kernel
theorem dX11_high_83 : decode cX11_high 83 = .ok (.ifCond .eq 23, 3) := by decide +kernel
theorem dX11_high_86 : decode cX11_high 86 = .ok (.goto 13, 3) := by decide +kernel
theorem dX11_high_89 : decode cX11_high 89 = .ok (.iload 7, 2) := by decide +kernel
theorem dX11_high_91 : decode cX11_high 91 = .ok (.ifCond .eq 15, 3) := by decide +kernel
theorem dX11_high_94 : decode cX11_high 94 = .ok (.iload 6, 2) := by decide +kernel
theorem dX11_high_96 : decode cX11_high 96 = .ok (.ifCond .ne 10, 3) := by decide +kernel
theorem dX11_high_99 : decode cX11_high 99 = .ok (.lload_n 3, 1) := by decide +kernel
theorem dX11_high_100 : decode cX11_high 100 = .ok (.lconst 1, 1) := by decide +kernel
theorem dX11_high_101 : decode cX11_high 101 = .ok (.iload 5, 2) := by decide +kernel
theorem dX11_high_103 : decode cX11_high 103 = .ok (.lshl, 1) := by decide +kernel
theorem dX11_high_104 : decode cX11_high 104 = .ok (.lor, 1) := by decide +kernel
theorem dX11_high_105 : decode cX11_high 105 = .ok (.lstore_n 3, 1) := by decide +kernel
theorem dX11_high_106 : decode cX11_high 106 = .ok (.iinc 5 1, 3) := by decide +kernel
theorem dX11_high_109 : decode cX11_high 109 = .ok (.goto (-81), 3) := by decide +kernel
theorem dX11_high_112 : decode cX11_high 112 = .ok (.lload_n 3, 1) := by decide +kernel
theorem dX11_high_113 : decode cX11_high 113 = .ok (.lreturn, 1) := by decide +kernel
theorem dX11_weeks_0 : decode cX11_weeks 0 = .ok (.iload_n 1, 1) := by decide +kernel
theorem dX11_weeks_1 : decode cX11_weeks 1 = .ok (.iconst 0, 1) := by decide +kernel
theorem dX11_weeks_2 : decode cX11_weeks 2 = .ok (.bipush 60, 2) := by decide +kernel
theorem dX11_weeks_4 : decode cX11_weeks 4 = .ok (.invokestatic 138, 3) := by decide +kernel
theorem dX11_weeks_7 : decode cX11_weeks 7 = .ok (.ifCond .ne 5, 3) := by decide +kernel
theorem dX11_weeks_10 : decode cX11_weeks 10 = .ok (.iconst (-1), 1) := by decide +kernel
theorem dX11_weeks_11 : decode cX11_weeks 11 = .ok (.ireturn, 1) := by decide +kernel
theorem dX11_weeks_12 : decode cX11_weeks 12 = .ok (.iconst 0, 1) := by decide +kernel
theorem dX11_weeks_13 : decode cX11_weeks 13 = .ok (.istore_n 2, 1) := by decide +kernel
theorem dX11_weeks_14 : decode cX11_weeks 14 = .ok (.iload_n 2, 1) := by decide +kernel
theorem dX11_weeks_15 : decode cX11_weeks 15 = .ok (.bipush 60, 2) := by decide +kernel
theorem dX11_weeks_17 : decode cX11_weeks 17 = .ok (.if_icmp .gt 38, 3) := by decide +kernel
theorem dX11_weeks_20 : decode cX11_weeks 20 = .ok (.iconst 0, 1) := by decide +kernel
theorem dX11_weeks_21 : decode cX11_weeks 21 = .ok (.istore_n 3, 1) := by decide +kernel
theorem dX11_weeks_22 : decode cX11_weeks 22 = .ok (.iload_n 3, 1) := by decide +kernel
theorem dX11_weeks_23 : decode cX11_weeks 23 = .ok (.bipush 36, 2) := by decide +kernel
theorem dX11_weeks_25 : decode cX11_weeks 25 = .ok (.if_icmp .ge 24, 3) := by decide +kernel
theorem dX11_weeks_28 : decode cX11_weeks 28 = .ok (.aload_n 0, 1) := by decide +kernel
theorem dX11_weeks_29 : decode cX11_weeks 29 = .ok (.getfield 26, 3) := by decide +kernel
theorem dX11_weeks_32 : decode cX11_weeks 32 = .ok (.iload_n 3, 1) := by decide +kernel
theorem dX11_weeks_33 : decode cX11_weeks 33 = .ok (.iload_n 2, 1) := by decide +kernel
theorem dX11_weeks_34 : decode cX11_weeks 34 = .ok (.invokevirtual 363, 3) := by decide +kernel
theorem dX11_weeks_37 : decode cX11_weeks 37 = .ok (.iload_n 1, 1) := by decide +kernel
theorem dX11_weeks_38 : decode cX11_weeks 38 = .ok (.if_icmp .le 5, 3) := by decide +kernel
theorem dX11_weeks_41 : decode cX11_weeks 41 = .ok (.iload_n 2, 1) := by decide +kernel
theorem dX11_weeks_42 : decode cX11_weeks 42 = .ok (.ireturn, 1) := by decide +kernel
theorem dX11_weeks_43 : decode cX11_weeks 43 = .ok (.iinc 3 1, 3) := by decide +kernel
theorem dX11_weeks_46 : decode cX11_weeks 46 = .ok (.goto (-24), 3) := by decide +kernel
theorem dX11_weeks_49 : decode cX11_weeks 49 = .ok (.iinc 2 1, 3) := by decide +kernel
theorem dX11_weeks_52 : decode cX11_weeks 52 = .ok (.goto (-38), 3) := by decide +kernel
theorem dX11_weeks_55 : decode cX11_weeks 55 = .ok (.bipush (-4), 2) := by decide +kernel
theorem dX11_weeks_57 : decode cX11_weeks 57 = .ok (.ireturn, 1) := by decide +kernel
theorem dX11_stripes_0 : decode cX11_stripes 0 = .ok (.iload_n 1, 1) := by decide +kernel
theorem dX11_stripes_1 : decode cX11_stripes 1 = .ok (.iconst 0, 1) := by decide +kernel
theorem dX11_stripes_2 : decode cX11_stripes 2 = .ok (.iconst 2, 1) := by decide +kernel
theorem dX11_stripes_3 : decode cX11_stripes 3 = .ok (.invokestatic 138, 3) := by decide +kernel
theorem dX11_stripes_6 : decode cX11_stripes 6 = .ok (.ifCond .ne 5, 3) := by decide +kernel
theorem dX11_stripes_9 : decode cX11_stripes 9 = .ok (.iconst (-1), 1) := by decide +kernel
theorem dX11_stripes_10 : decode cX11_stripes 10 = .ok (.ireturn, 1) := by decide +kernel
theorem dX11_stripes_11 : decode cX11_stripes 11 = .ok (.iconst 0, 1) := by decide +kernel
theorem dX11_stripes_12 : decode cX11_stripes 12 = .ok (.istore_n 2, 1) := by decide +kernel
theorem dX11_stripes_13 : decode cX11_stripes 13 = .ok (.iconst 0, 1) := by decide +kernel
theorem dX11_stripes_14 : decode cX11_stripes 14 = .ok (.istore_n 3, 1) := by decide +kernel
theorem dX11_stripes_15 : decode cX11_stripes 15 = .ok (.iload_n 3, 1) := by decide +kernel
theorem dX11_stripes_16 : decode cX11_stripes 16 = .ok (.bipush 36, 2) := by decide +kernel
theorem dX11_stripes_18 : decode cX11_stripes 18 = .ok (.if_icmp .ge 35, 3) := by decide +kernel
theorem dX11_stripes_21 : decode cX11_stripes 21 = .ok (.aload_n 0, 1) := by decide +kernel
theorem dX11_stripes_22 : decode cX11_stripes 22 = .ok (.getfield 26, 3) := by decide +kernel
theorem dX11_stripes_25 : decode cX11_stripes 25 = .ok (.iload_n 3, 1) := by decide +kernel
theorem dX11_stripes_26 : decode cX11_stripes 26 = .ok (.invokevirtual 301, 3) := by decide +kernel
theorem dX11_stripes_29 : decode cX11_stripes 29 = .ok (.ifCond .eq 18, 3) := by decide +kernel
theorem dX11_stripes_32 : decode cX11_stripes 32 = .ok (.aload_n 0, 1) := by decide +kernel
theorem dX11_stripes_33 : decode cX11_stripes 33 = .ok (.getfield 26, 3) := by decide +kernel
theorem dX11_stripes_36 : decode cX11_stripes 36 = .ok (.iload_n 3, 1) := by decide +kernel
theorem dX11_stripes_37 : decode cX11_stripes 37 = .ok (.invokevirtual 366, 3) := by decide +kernel
theorem dX11_stripes_40 : decode cX11_stripes 40 = .ok (.iload_n 1, 1) := by decide +kernel
theorem dX11_stripes_41 : decode cX11_stripes 41 = .ok (.if_icmp .ne 6, 3) := by decide +kernel
theorem dX11_stripes_44 : decode cX11_stripes 44 = .ok (.iinc 2 1, 3) := by decide +kernel
theorem dX11_stripes_47 : decode cX11_stripes 47 = .ok (.iinc 3 1, 3) := by decide +kernel
theorem dX11_stripes_50 : decode cX11_stripes 50 = .ok (.goto (-35), 3) := by decide +kernel
theorem dX11_stripes_53 : decode cX11_stripes 53 = .ok (.iload_n 2, 1) := by decide +kernel
theorem dX11_stripes_54 : decode cX11_stripes 54 = .ok (.ireturn, 1) := by decide +kernel
theorem dX11_keep_0 : decode cX11_keep 0 = .ok (.iload_n 1, 1) := by decide +kernel
theorem dX11_keep_1 : decode cX11_keep 1 = .ok (.iconst 0, 1) := by decide +kernel
theorem dX11_keep_2 : decode cX11_keep 2 = .ok (.iconst 1, 1) := by decide +kernel
theorem dX11_keep_3 : decode cX11_keep 3 = .ok (.invokestatic 138, 3) := by decide +kernel
theorem dX11_keep_6 : decode cX11_keep 6 = .ok (.ifCond .ne 5, 3) := by decide +kernel
theorem dX11_keep_9 : decode cX11_keep 9 = .ok (.iconst (-1), 1) := by decide +kernel
theorem dX11_keep_10 : decode cX11_keep 10 = .ok (.ireturn, 1) := by decide +kernel
theorem dX11_keep_11 : decode cX11_keep 11 = .ok (.aload_n 0, 1) := by decide +kernel
theorem dX11_keep_12 : decode cX11_keep 12 = .ok (.getfield 90, 3) := by decide +kernel
theorem dX11_keep_15 : decode cX11_keep 15 = .ok (.iload_n 1, 1) := by decide +kernel
theorem dX11_keep_16 : decode cX11_keep 16 = .ok (.baload, 1) := by decide +kernel
theorem dX11_keep_17 : decode cX11_keep 17 = .ok (.istore_n 2, 1) := by decide +kernel
theorem dX11_keep_18 : decode cX11_keep 18 = .ok (.aload_n 0, 1) := by decide +kernel
theorem dX11_keep_19 : decode cX11_keep 19 = .ok (.getfield 82, 3) := by decide +kernel
theorem dX11_keep_22 : decode cX11_keep 22 = .ok (.iload_n 1, 1) := by decide +kernel
theorem dX11_keep_23 : decode cX11_keep 23 = .ok (.aaload, 1) := by decide +kernel
theorem dX11_keep_24 : decode cX11_keep 24 = .ok (.aload_n 0, 1) := by decide +kernel
theorem dX11_keep_25 : decode cX11_keep 25 = .ok (.getfield 26, 3) := by decide +kernel
theorem dX11_keep_28 : decode cX11_keep 28 = .ok (.invokevirtual 369, 3) := by decide +kernel
theorem dX11_keep_31 : decode cX11_keep 31 = .ok (.aload_n 0, 1) := by decide +kernel
theorem dX11_keep_32 : decode cX11_keep 32 = .ok (.getfield 86, 3) := by decide +kernel
theorem dX11_keep_35 : decode cX11_keep 35 = .ok (.iload_n 1, 1) := by decide +kernel
theorem dX11_keep_36 : decode cX11_keep 36 = .ok (.aaload, 1) := by decide +kernel
theorem dX11_keep_37 : decode cX11_keep 37 = .ok (.aload_n 0, 1) := by decide +kernel
theorem dX11_keep_38 : decode cX11_keep 38 = .ok (.getfield 33, 3) := by decide +kernel
theorem dX11_keep_41 : decode cX11_keep 41 = .ok (.invokevirtual 281, 3) := by decide +kernel
theorem dX11_keep_44 : decode cX11_keep 44 = .ok (.aload_n 0, 1) := by decide +kernel
theorem dX11_keep_45 : decode cX11_keep 45 = .ok (.getfield 90, 3) := by decide +kernel
theorem dX11_keep_48 : decode cX11_keep 48 = .ok (.iload_n 1, 1) := by decide +kernel
theorem dX11_keep_49 : decode cX11_keep 49 = .ok (.iconst 1, 1) := by decide +kernel
theorem dX11_keep_50 : decode cX11_keep 50 = .ok (.bastore, 1) := by decide +kernel
theorem dX11_keep_51 : decode cX11_keep 51 = .ok (.iload_n 2, 1) := by decide +kernel
theorem dX11_keep_52 : decode cX11_keep 52 = .ok (.ifCond .eq 7, 3) := by decide +kernel
theorem dX11_keep_55 : decode cX11_keep 55 = .ok (.iconst 1, 1) := by decide +kernel
theorem dX11_keep_56 : decode cX11_keep 56 = .ok (.goto 4, 3) := by decide +kernel
theorem dX11_keep_59 : decode cX11_keep 59 = .ok (.iconst 0, 1) := by decide +kernel
theorem dX11_keep_60 : decode cX11_keep 60 = .ok (.ireturn, 1) := by decide +kernel
theorem dX11_back_0 : decode cX11_back 0 = .ok (.iload_n 1, 1) := by decide +kernel
theorem dX11_back_1 : decode cX11_back 1 = .ok (.iconst 0, 1) := by decide +kernel
theorem dX11_back_2 : decode cX11_back 2 = .ok (.iconst 1, 1) := by decide +kernel
theorem dX11_back_3 : decode cX11_back 3 = .ok (.invokestatic 138, 3) := by decide +kernel
theorem dX11_back_6 : decode cX11_back 6 = .ok (.ifCond .ne 5, 3) := by decide +kernel
theorem dX11_back_9 : decode cX11_back 9 = .ok (.iconst (-1), 1) := by decide +kernel
theorem dX11_back_10 : decode cX11_back 10 = .ok (.ireturn, 1) := by decide +kernel
theorem dX11_back_11 : decode cX11_back 11 = .ok (.aload_n 0, 1) := by decide +kernel
theorem dX11_back_12 : decode cX11_back 12 = .ok (.getfield 90, 3) := by decide +kernel
theorem dX11_back_15 : decode cX11_back 15 = .ok (.iload_n 1, 1) := by decide +kernel
theorem dX11_back_16 : decode cX11_back 16 = .ok (.baload, 1) := by decide +kernel
theorem dX11_back_17 : decode cX11_back 17 = .ok (.ifCond .eq 23, 3) := by decide +kernel
theorem dX11_back_20 : decode cX11_back 20 = .ok (.aload_n 0, 1) := by decide +kernel
theorem dX11_back_21 : decode cX11_back 21 = .ok (.getfield 82, 3) := by decide +kernel
theorem dX11_back_24 : decode cX11_back 24 = .ok (.iload_n 1, 1) := by decide +kernel
theorem dX11_back_25 : decode cX11_back 25 = .ok (.aaload, 1) := by decide +kernel
theorem dX11_back_26 : decode cX11_back 26 = .ok (.aload_n 0, 1) := by decide +kernel
theorem dX11_back_27 : decode cX11_back 27 = .ok (.getfield 26, 3) := by decide +kernel
theorem dX11_back_30 : decode cX11_back 30 = .ok (.iconst 0, 1) := by decide +kernel
theorem dX11_back_31 : decode cX11_back 31 = .ok (.invokevirtual 142, 3) := by decide +kernel
theorem dX11_back_34 : decode cX11_back 34 = .ok (.invokevirtual 311, 3) := by decide +kernel
theorem dX11_back_37 : decode cX11_back 37 = .ok (.ifCond .ne 6, 3) := by decide +kernel
theorem dX11_back_40 : decode cX11_back 40 = .ok (.bipush (-2), 2) := by decide +kernel
theorem dX11_back_42 : decode cX11_back 42 = .ok (.ireturn, 1) := by decide +kernel
theorem dX11_back_43 : decode cX11_back 43 = .ok (.aload_n 0, 1) := by decide +kernel
theorem dX11_back_44 : decode cX11_back 44 = .ok (.getfield 26, 3) := by decide +kernel
theorem dX11_back_47 : decode cX11_back 47 = .ok (.aload_n 0, 1) := by decide +kernel
theorem dX11_back_48 : decode cX11_back 48 = .ok (.getfield 82, 3) := by decide +kernel
theorem dX11_back_51 : decode cX11_back 51 = .ok (.iload_n 1, 1) := by decide +kernel
theorem dX11_back_52 : decode cX11_back 52 = .ok (.aaload, 1) := by decide +kernel
theorem dX11_back_53 : decode cX11_back 53 = .ok (.invokevirtual 369, 3) := by decide +kernel
theorem dX11_back_56 : decode cX11_back 56 = .ok (.aload_n 0, 1) := by decide +kernel
theorem dX11_back_57 : decode cX11_back 57 = .ok (.getfield 33, 3) := by decide +kernel
theorem dX11_back_60 : decode cX11_back 60 = .ok (.aload_n 0, 1) := by decide +kernel
theorem dX11_back_61 : decode cX11_back 61 = .ok (.getfield 86, 3) := by decide +kernel
theorem dX11_back_64 : decode cX11_back 64 = .ok (.iload_n 1, 1) := by decide +kernel
theorem dX11_back_65 : decode cX11_back 65 = .ok (.aaload, 1) := by decide +kernel
theorem dX11_back_66 : decode cX11_back 66 = .ok (.invokevirtual 281, 3) := by decide +kernel
theorem dX11_back_69 : decode cX11_back 69 = .ok (.aload_n 0, 1) := by decide +kernel
theorem dX11_back_70 : decode cX11_back 70 = .ok (.getfield 64, 3) := by decide +kernel
theorem dX11_back_73 : decode cX11_back 73 = .ok (.invokevirtual 129, 3) := by decide +kernel
theorem dX11_back_76 : decode cX11_back 76 = .ok (.aload_n 0, 1) := by decide +kernel
theorem dX11_back_77 : decode cX11_back 77 = .ok (.getfield 33, 3) := by decide +kernel
theorem dX11_back_80 : decode cX11_back 80 = .ok (.getfield 126, 3) := by decide +kernel
theorem dX11_back_83 : decode cX11_back 83 = .ok (.ireturn, 1) := by decide +kernel
theorem dX11_sheet_0 : decode cX11_sheet 0 = .ok (.iload_n 1, 1) := by decide +kernel
theorem dX11_sheet_1 : decode cX11_sheet 1 = .ok (.invokestatic 372, 3) := by decide +kernel
theorem dX11_sheet_4 : decode cX11_sheet 4 = .ok (.ifCond .eq 16, 3) := by decide +kernel
theorem dX11_sheet_7 : decode cX11_sheet 7 = .ok (.iload_n 2, 1) := by decide +kernel
theorem dX11_sheet_8 : decode cX11_sheet 8 = .ok (.invokestatic 375, 3) := by decide +kernel
theorem dX11_sheet_11 : decode cX11_sheet 11 = .ok (.ifCond .eq 9, 3) := by decide +kernel
theorem dX11_sheet_14 : decode cX11_sheet 14 = .ok (.iload_n 3, 1) := by decide +kernel
theorem dX11_sheet_15 : decode cX11_sheet 15 = .ok (.bipush 48, 2) := by decide +kernel
theorem dX11_sheet_17 : decode cX11_sheet 17 = .ok (.if_icmp .le 5, 3) := by decide +kernel
theorem dX11_sheet_20 : decode cX11_sheet 20 = .ok (.iconst (-1), 1) := by decide +kernel
theorem dX11_sheet_21 : decode cX11_sheet 21 = .ok (.ireturn, 1) := by decide +kernel
theorem dX11_sheet_22 : decode cX11_sheet 22 = .ok (.iload_n 3, 1) := by decide +kernel
theorem dX11_sheet_23 : decode cX11_sheet 23 = .ok (.ifCond .ge 6, 3) := by decide +kernel
theorem dX11_sheet_26 : decode cX11_sheet 26 = .ok (.bipush (-14), 2) := by decide +kernel
theorem dX11_sheet_28 : decode cX11_sheet 28 = .ok (.ireturn, 1) := by decide +kernel
theorem dX11_sheet_29 : decode cX11_sheet 29 = .ok (.aload_n 0, 1) := by decide +kernel
theorem dX11_sheet_30 : decode cX11_sheet 30 = .ok (.getfield 97, 3) := by decide +kernel
theorem dX11_sheet_33 : decode cX11_sheet 33 = .ok (.iload_n 1, 1) := by decide +kernel
theorem dX11_sheet_34 : decode cX11_sheet 34 = .ok (.aaload, 1) := by decide +kernel
theorem dX11_sheet_35 : decode cX11_sheet 35 = .ok (.iload_n 2, 1) := by decide +kernel
theorem dX11_sheet_36 : decode cX11_sheet 36 = .ok (.iload_n 3, 1) := by decide +kernel
theorem dX11_sheet_37 : decode cX11_sheet 37 = .ok (.invokevirtual 378, 3) := by decide +kernel
theorem dX11_sheet_40 : decode cX11_sheet 40 = .ok (.iconst 1, 1) := by decide +kernel
theorem dX11_sheet_41 : decode cX11_sheet 41 = .ok (.ireturn, 1) := by decide +kernel
theorem dX11_lay_0 : decode cX11_lay 0 = .ok (.iload_n 1, 1) := by decide +kernel
theorem dX11_lay_1 : decode cX11_lay 1 = .ok (.invokestatic 372, 3) := by decide +kernel
theorem dX11_lay_4 : decode cX11_lay 4 = .ok (.ifCond .ne 5, 3) := by decide +kernel
theorem dX11_lay_7 : decode cX11_lay 7 = .ok (.iconst (-1), 1) := by decide +kernel
theorem dX11_lay_8 : decode cX11_lay 8 = .ok (.ireturn, 1) := by decide +kernel
theorem dX11_lay_9 : decode cX11_lay 9 = .ok (.aload_n 0, 1) := by decide +kernel
theorem dX11_lay_10 : decode cX11_lay 10 = .ok (.getfield 97, 3) := by decide +kernel
theorem dX11_lay_13 : decode cX11_lay 13 = .ok (.iload_n 1, 1) := by decide +kernel
theorem dX11_lay_14 : decode cX11_lay 14 = .ok (.aaload, 1) := by decide +kernel
theorem dX11_lay_15 : decode cX11_lay 15 = .ok (.astore 4, 2) := by decide +kernel
theorem dX11_lay_17 : decode cX11_lay 17 = .ok (.aload 4, 2) := by decide +kernel
theorem dX11_lay_19 : decode cX11_lay 19 = .ok (.aload 4, 2) := by decide +kernel
theorem dX11_lay_21 : decode cX11_lay 21 = .ok (.getfield 382, 3) := by decide +kernel
theorem dX11_lay_24 : decode cX11_lay 24 = .ok (.iload_n 2, 1) := by decide +kernel
theorem dX11_lay_25 : decode cX11_lay 25 = .ok (.i2l, 1) := by decide +kernel
theorem dX11_lay_26 : decode cX11_lay 26 = .ok (.invokevirtual 385, 3) := by decide +kernel
theorem dX11_lay_29 : decode cX11_lay 29 = .ok (.istore 5, 2) := by decide +kernel
theorem dX11_lay_31 : decode cX11_lay 31 = .ok (.iload 5, 2) := by decide +kernel
theorem dX11_lay_33 : decode cX11_lay 33 = .ok (.ifCond .eq 9, 3) := by decide +kernel
theorem dX11_lay_36 : decode cX11_lay 36 = .ok (.bipush (-10), 2) := by decide +kernel
theorem dX11_lay_38 : decode cX11_lay 38 = .ok (.iload 5, 2) := by decide +kernel
theorem dX11_lay_40 : decode cX11_lay 40 = .ok (.isub, 1) := by decide +kernel
theorem dX11_lay_41 : decode cX11_lay 41 = .ok (.ireturn, 1) := by decide +kernel
theorem dX11_lay_42 : decode cX11_lay 42 = .ok (.aload 4, 2) := by decide +kernel
theorem dX11_lay_44 : decode cX11_lay 44 = .ok (.iload_n 2, 1) := by decide +kernel
theorem dX11_lay_45 : decode cX11_lay 45 = .ok (.iload_n 3, 1) := by decide +kernel
theorem dX11_lay_46 : decode cX11_lay 46 = .ok (.invokevirtual 389, 3) := by decide +kernel
theorem dX11_lay_49 : decode cX11_lay 49 = .ok (.iconst 1, 1) := by decide +kernel
theorem dX11_lay_50 : decode cX11_lay 50 = .ok (.ireturn, 1) := by decide +kernel
theorem dX11_read_0 : decode cX11_read 0 = .ok (.iload_n 1, 1) := by decide +kernel
theorem dX11_read_1 : decode cX11_read 1 = .ok (.invokestatic 372, 3) := by decide +kernel
theorem dX11_read_4 : decode cX11_read 4 = .ok (.ifCond .eq 21, 3) := by decide +kernel
theorem dX11_read_7 : decode cX11_read 7 = .ok (.iload_n 2, 1) := by decide +kernel
theorem dX11_read_8 : decode cX11_read 8 = .ok (.invokestatic 375, 3) := by decide +kernel
theorem dX11_read_11 : decode cX11_read 11 = .ok (.ifCond .eq 14, 3) := by decide +kernel
theorem dX11_read_14 : decode cX11_read 14 = .ok (.iload 4, 2) := by decide +kernel
theorem dX11_read_16 : decode cX11_read 16 = .ok (.iconst 0, 1) := by decide +kernel
theorem dX11_read_17 : decode cX11_read 17 = .ok (.bipush 24, 2) := by decide +kernel
theorem dX11_read_19 : decode cX11_read 19 = .ok (.invokestatic 138, 3) := by decide +kernel
theorem dX11_read_22 : decode cX11_read 22 = .ok (.ifCond .ne 5, 3) := by decide +kernel
theorem dX11_read_25 : decode cX11_read 25 = .ok (.iconst (-1), 1) := by decide +kernel
theorem dX11_read_26 : decode cX11_read 26 = .ok (.ireturn, 1) := by decide +kernel
theorem dX11_read_27 : decode cX11_read 27 = .ok (.aload_n 0, 1) := by decide +kernel
theorem dX11_read_28 : decode cX11_read 28 = .ok (.getfield 97, 3) := by decide +kernel
theorem dX11_read_31 : decode cX11_read 31 = .ok (.iload_n 1, 1) := by decide +kernel
theorem dX11_read_32 : decode cX11_read 32 = .ok (.aaload, 1) := by decide +kernel
theorem dX11_read_33 : decode cX11_read 33 = .ok (.astore 5, 2) := by decide +kernel
theorem dX11_read_35 : decode cX11_read 35 = .ok (.aload_n 0, 1) := by decide +kernel
theorem dX11_read_36 : decode cX11_read 36 = .ok (.getfield 33, 3) := by decide +kernel
theorem dX11_read_39 : decode cX11_read 39 = .ok (.getfield 126, 3) := by decide +kernel
theorem dX11_read_42 : decode cX11_read 42 = .ok (.istore 6, 2) := by decide +kernel
theorem dX11_read_44 : decode cX11_read 44 = .ok (.iconst 0, 1) := by decide +kernel
theorem dX11_read_45 : decode cX11_read 45 = .ok (.istore 7, 2) := by decide +kernel
theorem dX11_read_47 : decode cX11_read 47 = .ok (.iconst 0, 1) := by decide +kernel
theorem dX11_read_48 : decode cX11_read 48 = .ok (.istore 8, 2) := by decide +kernel
theorem dX11_read_50 : decode cX11_read 50 = .ok (.iload 8, 2) := by decide +kernel
theorem dX11_read_52 : decode cX11_read 52 = .ok (.iload 4, 2) := by decide +kernel
theorem dX11_read_54 : decode cX11_read 54 = .ok (.if_icmp .ge 88, 3) := by decide +kernel
theorem dX11_read_57 : decode cX11_read 57 = .ok (.iload 7, 2) := by decide +kernel
theorem dX11_read_59 : decode cX11_read 59 = .ok (.ifCond .ne 83, 3) := by decide +kernel
theorem dX11_read_62 : decode cX11_read 62 = .ok (.iload_n 3, 1) := by decide +kernel
theorem dX11_read_63 : decode cX11_read 63 = .ok (.i2l, 1) := by decide +kernel
theorem dX11_read_64 : decode cX11_read 64 = .ok (.ldc2_w 392, 3) := by decide +kernel
theorem dX11_read_67 : decode cX11_read 67 = .ok (.iload 8, 2) := by decide +kernel
theorem dX11_read_69 : decode cX11_read 69 = .ok (.i2l, 1) := by decide +kernel
theorem dX11_read_70 : decode cX11_read 70 = .ok (.lmul, 1) := by decide +kernel
theorem dX11_read_71 : decode cX11_read 71 = .ok (.ladd, 1) := by decide +kernel
theorem dX11_read_72 : decode cX11_read 72 = .ok (.lstore 9, 2) := by decide +kernel
theorem dX11_read_74 : decode cX11_read 74 = .ok (.aload 5, 2) := by decide +kernel
theorem dX11_read_76 : decode cX11_read 76 = .ok (.iload_n 2, 1) := by decide +kernel
theorem dX11_read_77 : decode cX11_read 77 = .ok (.lload 9, 2) := by decide +kernel
theorem dX11_read_79 : decode cX11_read 79 = .ok (.invokevirtual 385, 3) := by decide +kernel
theorem dX11_read_82 : decode cX11_read 82 = .ok (.istore 7, 2) := by decide +kernel
theorem dX11_read_84 : decode cX11_read 84 = .ok (.iload 7, 2) := by decide +kernel
theorem dX11_read_86 : decode cX11_read 86 = .ok (.ifCond .ne 15, 3) := by decide +kernel
theorem dX11_read_89 : decode cX11_read 89 = .ok (.aload 5, 2) := by decide +kernel
theorem dX11_read_91 : decode cX11_read 91 = .ok (.iload_n 2, 1) := by decide +kernel
theorem dX11_read_92 : decode cX11_read 92 = .ok (.lload 9, 2) := by decide +kernel
theorem dX11_read_94 : decode cX11_read 94 = .ok (.lconst 1, 1) := by decide +kernel
theorem dX11_read_95 : decode cX11_read 95 = .ok (.ladd, 1) := by decide +kernel
theorem dX11_read_96 : decode cX11_read 96 = .ok (.invokevirtual 385, 3) := by decide +kernel
theorem dX11_read_99 : decode cX11_read 99 = .ok (.istore 7, 2) := by decide +kernel
theorem dX11_read_101 : decode cX11_read 101 = .ok (.iload 7, 2) := by decide +kernel
theorem dX11_read_103 : decode cX11_read 103 = .ok (.ifCond .ne 33, 3) := by decide +kernel
theorem dX11_read_106 : decode cX11_read 106 = .ok (.aload_n 0, 1) := by decide +kernel
theorem dX11_read_107 : decode cX11_read 107 = .ok (.aload 5, 2) := by decide +kernel
theorem dX11_read_109 : decode cX11_read 109 = .ok (.lload 9, 2) := by decide +kernel
theorem dX11_read_111 : decode cX11_read 111 = .ok (.l2i, 1) := by decide +kernel
theorem dX11_read_112 : decode cX11_read 112 = .ok (.iload 8, 2) := by decide +kernel
theorem dX11_read_114 : decode cX11_read 114 = .ok (.invokevirtual 394, 3) := by decide +kernel
theorem dX11_read_117 : decode cX11_read 117 = .ok (.istore 11, 2) := by decide +kernel
theorem dX11_read_119 : decode cX11_read 119 = .ok (.iload 11, 2) := by decide +kernel
theorem dX11_read_121 : decode cX11_read 121 = .ok (.ifCond .eq 15, 3) := by decide +kernel
theorem dX11_read_124 : decode cX11_read 124 = .ok (.aload_n 0, 1) := by decide +kernel
theorem dX11_read_125 : decode cX11_read 125 = .ok (.getfield 33, 3) := by decide +kernel
theorem dX11_read_128 : decode cX11_read 128 = .ok (.iload 6, 2) := by decide +kernel
theorem dX11_read_130 : decode cX11_read 130 = .ok (.putfield 126, 3) := by decide +kernel
theorem dX11_read_133 : decode cX11_read 133 = .ok (.iload 11, 2) := by decide +kernel
theorem dX11_read_135 : decode cX11_read 135 = .ok (.ireturn, 1) := by decide +kernel
theorem dX11_read_136 : decode cX11_read 136 = .ok (.iinc 8 1, 3) := by decide +kernel
theorem dX11_read_139 : decode cX11_read 139 = .ok (.goto (-89), 3) := by decide +kernel
theorem dX11_read_142 : decode cX11_read 142 = .ok (.aload_n 0, 1) := by decide +kernel
theorem dX11_read_143 : decode cX11_read 143 = .ok (.iload 7, 2) := by decide +kernel
theorem dX11_read_145 : decode cX11_read 145 = .ok (.putfield 101, 3) := by decide +kernel
theorem dX11_read_148 : decode cX11_read 148 = .ok (.aload_n 0, 1) := by decide +kernel
theorem dX11_read_149 : decode cX11_read 149 = .ok (.getfield 33, 3) := by decide +kernel
theorem dX11_read_152 : decode cX11_read 152 = .ok (.getfield 126, 3) := by decide +kernel
theorem dX11_read_155 : decode cX11_read 155 = .ok (.iload 6, 2) := by decide +kernel
theorem dX11_read_157 : decode cX11_read 157 = .ok (.isub, 1) := by decide +kernel
theorem dX11_read_158 : decode cX11_read 158 = .ok (.ireturn, 1) := by decide +kernel
theorem dX11_moveFrom_0 : decode cX11_moveFrom 0 = .ok (.aload_n 1, 1) := by decide +kernel
theorem dX11_moveFrom_1 : decode cX11_moveFrom 1 = .ok (.iload_n 2, 1) := by decide +kernel
theorem dX11_moveFrom_2 : decode cX11_moveFrom 2 = .ok (.invokevirtual 398, 3) := by decide +kernel
theorem dX11_moveFrom_5 : decode cX11_moveFrom 5 = .ok (.istore 4, 2) := by decide +kernel
theorem dX11_moveFrom_7 : decode cX11_moveFrom 7 = .ok (.aload_n 1, 1) := by decide +kernel
theorem dX11_moveFrom_8 : decode cX11_moveFrom 8 = .ok (.iload_n 2, 1) := by decide +kernel
theorem dX11_moveFrom_9 : decode cX11_moveFrom 9 = .ok (.iconst 1, 1) := by decide +kernel
theorem dX11_moveFrom_10 : decode cX11_moveFrom 10 = .ok (.iadd, 1) := by decide +kernel
theorem dX11_moveFrom_11 : decode cX11_moveFrom 11 = .ok (.invokevirtual 398, 3) := by decide +kernel
theorem dX11_moveFrom_14 : decode cX11_moveFrom 14 = .ok (.istore 5, 2) := by decide +kernel
theorem dX11_moveFrom_16 : decode cX11_moveFrom 16 = .ok (.iload 4, 2) := by decide +kernel
theorem dX11_moveFrom_18 : decode cX11_moveFrom 18 = .ok (.iload 5, 2) := by decide +kernel
theorem dX11_moveFrom_20 : decode cX11_moveFrom 20 = .ok (.invokestatic 163, 3) := by decide +kernel
theorem dX11_moveFrom_23 : decode cX11_moveFrom 23 = .ok (.ifCond .ne 8, 3) := by decide +kernel
theorem dX11_moveFrom_26 : decode cX11_moveFrom 26 = .ok (.bipush (-20), 2) := by decide +kernel
theorem dX11_moveFrom_28 : decode cX11_moveFrom 28 = .ok (.iload_n 3, 1) := by decide +kernel
theorem dX11_moveFrom_29 : decode cX11_moveFrom 29 = .ok (.isub, 1) := by decide +kernel
theorem dX11_moveFrom_30 : decode cX11_moveFrom 30 = .ok (.ireturn, 1) := by decide +kernel
theorem dX11_moveFrom_31 : decode cX11_moveFrom 31 = .ok (.aload_n 0, 1) := by decide +kernel
theorem dX11_moveFrom_32 : decode cX11_moveFrom 32 = .ok (.getfield 33, 3) := by decide +kernel
theorem dX11_moveFrom_35 : decode cX11_moveFrom 35 = .ok (.iload 4, 2) := by decide +kernel
theorem dX11_moveFrom_37 : decode cX11_moveFrom 37 = .ok (.iload 5, 2) := by decide +kernel
theorem dX11_moveFrom_39 : decode cX11_moveFrom 39 = .ok (.invokevirtual 167, 3) := by decide +kernel
theorem dX11_moveFrom_42 : decode cX11_moveFrom 42 = .ok (.ifCond .eq 7, 3) := by decide +kernel
theorem dX11_moveFrom_45 : decode cX11_moveFrom 45 = .ok (.iconst 0, 1) := by decide +kernel
theorem dX11_moveFrom_46 : decode cX11_moveFrom 46 = .ok (.goto 5, 3) := by decide +kernel
theorem dX11_moveFrom_49 : decode cX11_moveFrom 49 = .ok (.bipush (-3), 2) := by decide +kernel
theorem dX11_moveFrom_51 : decode cX11_moveFrom 51 = .ok (.ireturn, 1) := by decide +kernel
theorem dX11_torn_0 : decode cX11_torn 0 = .ok (.aload_n 0, 1) := by decide +kernel
theorem dX11_torn_1 : decode cX11_torn 1 = .ok (.getfield 101, 3) := by decide +kernel
theorem dX11_torn_4 : decode cX11_torn 4 = .ok (.ireturn, 1) := by decide +kernel
theorem dX11_count_0 : decode cX11_count 0 = .ok (.iload_n 1, 1) := by decide +kernel
theorem dX11_count_1 : decode cX11_count 1 = .ok (.tableswitch 140 0 6 #[43, 51, 59, 67, 97, 105, 132], 43) := by decide +kernel
theorem dX11_count_44 : decode cX11_count 44 = .ok (.aload_n 0, 1) := by decide +kernel
theorem dX11_count_45 : decode cX11_count 45 = .ok (.getfield 26, 3) := by decide +kernel
theorem dX11_count_48 : decode cX11_count 48 = .ok (.invokevirtual 284, 3) := by decide +kernel
theorem dX11_count_51 : decode cX11_count 51 = .ok (.ireturn, 1) := by decide +kernel
theorem dX11_count_52 : decode cX11_count 52 = .ok (.aload_n 0, 1) := by decide +kernel
theorem dX11_count_53 : decode cX11_count 53 = .ok (.getfield 26, 3) := by decide +kernel
theorem dX11_count_56 : decode cX11_count 56 = .ok (.invokevirtual 401, 3) := by decide +kernel
theorem dX11_count_59 : decode cX11_count 59 = .ok (.ireturn, 1) := by decide +kernel
theorem dX11_count_60 : decode cX11_count 60 = .ok (.aload_n 0, 1) := by decide +kernel
theorem dX11_count_61 : decode cX11_count 61 = .ok (.getfield 33, 3) := by decide +kernel
theorem dX11_count_64 : decode cX11_count 64 = .ok (.getfield 126, 3) := by decide +kernel
theorem dX11_count_67 : decode cX11_count 67 = .ok (.ireturn, 1) := by decide +kernel
theorem dX11_count_68 : decode cX11_count 68 = .ok (.aload_n 0, 1) := by decide +kernel
theorem dX11_count_69 : decode cX11_count 69 = .ok (.getfield 90, 3) := by decide +kernel
theorem dX11_count_72 : decode cX11_count 72 = .ok (.iconst 0, 1) := by decide +kernel
theorem dX11_count_73 : decode cX11_count 73 = .ok (.baload, 1) := by decide +kernel
theorem dX11_count_74 : decode cX11_count 74 = .ok (.ifCond .eq 7, 3) := by decide +kernel
theorem dX11_count_77 : decode cX11_count 77 = .ok (.iconst 1, 1) := by decide +kernel
theorem dX11_count_78 : decode cX11_count 78 = .ok (.goto 4, 3) := by decide +kernel
theorem dX11_count_81 : decode cX11_count 81 = .ok (.iconst 0, 1) := by decide +kernel
theorem dX11_count_82 : decode cX11_count 82 = .ok (.aload_n 0, 1) := by decide +kernel
theorem dX11_count_83 : decode cX11_count 83 = .ok (.getfield 90, 3) := by decide +kernel
theorem dX11_count_86 : decode cX11_count 86 = .ok (.iconst 1, 1) := by decide +kernel
theorem dX11_count_87 : decode cX11_count 87 = .ok (.baload, 1) := by decide +kernel
theorem dX11_count_88 : decode cX11_count 88 = .ok (.ifCond .eq 7, 3) := by decide +kernel
theorem dX11_count_91 : decode cX11_count 91 = .ok (.iconst 1, 1) := by decide +kernel
theorem dX11_count_92 : decode cX11_count 92 = .ok (.goto 4, 3) := by decide +kernel
theorem dX11_count_95 : decode cX11_count 95 = .ok (.iconst 0, 1) := by decide +kernel
theorem dX11_count_96 : decode cX11_count 96 = .ok (.iadd, 1) := by decide +kernel
theorem dX11_count_97 : decode cX11_count 97 = .ok (.ireturn, 1) := by decide +kernel
theorem dX11_count_98 : decode cX11_count 98 = .ok (.aload_n 0, 1) := by decide +kernel
theorem dX11_count_99 : decode cX11_count 99 = .ok (.getfield 12, 3) := by decide +kernel
theorem dX11_count_102 : decode cX11_count 102 = .ok (.getfield 109, 3) := by decide +kernel
theorem dX11_count_105 : decode cX11_count 105 = .ok (.ireturn, 1) := by decide +kernel
theorem dX11_count_106 : decode cX11_count 106 = .ok (.aload_n 0, 1) := by decide +kernel
theorem dX11_count_107 : decode cX11_count 107 = .ok (.getfield 97, 3) := by decide +kernel
theorem dX11_count_110 : decode cX11_count 110 = .ok (.iconst 0, 1) := by decide +kernel
theorem dX11_count_111 : decode cX11_count 111 = .ok (.aaload, 1) := by decide +kernel
theorem dX11_count_112 : decode cX11_count 112 = .ok (.invokevirtual 404, 3) := by decide +kernel
theorem dX11_count_115 : decode cX11_count 115 = .ok (.ifCond .eq 8, 3) := by decide +kernel
theorem dX11_count_118 : decode cX11_count 118 = .ok (.bipush (-4), 2) := by decide +kernel
theorem dX11_count_120 : decode cX11_count 120 = .ok (.goto 12, 3) := by decide +kernel
theorem dX11_count_123 : decode cX11_count 123 = .ok (.aload_n 0, 1) := by decide +kernel
theorem dX11_count_124 : decode cX11_count 124 = .ok (.getfield 97, 3) := by decide +kernel
theorem dX11_count_127 : decode cX11_count 127 = .ok (.iconst 0, 1) := by decide +kernel
theorem dX11_count_128 : decode cX11_count 128 = .ok (.aaload, 1) := by decide +kernel
theorem dX11_count_129 : decode cX11_count 129 = .ok (.getfield 407, 3) := by decide +kernel
theorem dX11_count_132 : decode cX11_count 132 = .ok (.ireturn, 1) := by decide +kernel
theorem dX11_count_133 : decode cX11_count 133 = .ok (.aload_n 0, 1) := by decide +kernel
theorem dX11_count_134 : decode cX11_count 134 = .ok (.getfield 26, 3) := by decide +kernel
theorem dX11_count_137 : decode cX11_count 137 = .ok (.invokevirtual 408, 3) := by decide +kernel
theorem dX11_count_140 : decode cX11_count 140 = .ok (.ireturn, 1) := by decide +kernel
theorem dX11_count_141 : decode cX11_count 141 = .ok (.iconst (-1), 1) := by decide +kernel
theorem dX11_count_142 : decode cX11_count 142 = .ok (.ireturn, 1) := by decide +kernel
theorem dX11_isWithin_0 : decode cX11_isWithin 0 = .ok (.iload_n 0, 1) := by decide +kernel
theorem dX11_isWithin_1 : decode cX11_isWithin 1 = .ok (.iload_n 1, 1) := by decide +kernel
theorem dX11_isWithin_2 : decode cX11_isWithin 2 = .ok (.if_icmp .lt 12, 3) := by decide +kernel
theorem dX11_isWithin_5 : decode cX11_isWithin 5 = .ok (.iload_n 0, 1) := by decide +kernel
theorem dX11_isWithin_6 : decode cX11_isWithin 6 = .ok (.iload_n 2, 1) := by decide +kernel
theorem dX11_isWithin_7 : decode cX11_isWithin 7 = .ok (.if_icmp .gt 7, 3) := by decide +kernel
theorem dX11_isWithin_10 : decode cX11_isWithin 10 = .ok (.iconst 1, 1) := by decide +kernel
theorem dX11_isWithin_11 : decode cX11_isWithin 11 = .ok (.goto 4, 3) := by decide +kernel
theorem dX11_isWithin_14 : decode cX11_isWithin 14 = .ok (.iconst 0, 1) := by decide +kernel
theorem dX11_isWithin_15 : decode cX11_isWithin 15 = .ok (.ireturn, 1) := by decide +kernel
theorem dX11_isCell_0 : decode cX11_isCell 0 = .ok (.iload_n 0, 1) := by decide +kernel
theorem dX11_isCell_1 : decode cX11_isCell 1 = .ok (.ifCond .lt 13, 3) := by decide +kernel
theorem dX11_isCell_4 : decode cX11_isCell 4 = .ok (.iload_n 0, 1) := by decide +kernel
theorem dX11_isCell_5 : decode cX11_isCell 5 = .ok (.bipush 36, 2) := by decide +kernel
theorem dX11_isCell_7 : decode cX11_isCell 7 = .ok (.if_icmp .ge 7, 3) := by decide +kernel
theorem dX11_isCell_10 : decode cX11_isCell 10 = .ok (.iconst 1, 1) := by decide +kernel
theorem dX11_isCell_11 : decode cX11_isCell 11 = .ok (.goto 4, 3) := by decide +kernel
theorem dX11_isCell_14 : decode cX11_isCell 14 = .ok (.iconst 0, 1) := by decide +kernel
theorem dX11_isCell_15 : decode cX11_isCell 15 = .ok (.ireturn, 1) := by decide +kernel
theorem dX11_isWay_0 : decode cX11_isWay 0 = .ok (.iload_n 0, 1) := by decide +kernel
theorem dX11_isWay_1 : decode cX11_isWay 1 = .ok (.iconst 0, 1) := by decide +kernel
theorem dX11_isWay_2 : decode cX11_isWay 2 = .ok (.iconst 3, 1) := by decide +kernel
theorem dX11_isWay_3 : decode cX11_isWay 3 = .ok (.invokestatic 138, 3) := by decide +kernel
theorem dX11_isWay_6 : decode cX11_isWay 6 = .ok (.ireturn, 1) := by decide +kernel
theorem dX11_isMove_0 : decode cX11_isMove 0 = .ok (.iload_n 0, 1) := by decide +kernel
theorem dX11_isMove_1 : decode cX11_isMove 1 = .ok (.invokestatic 360, 3) := by decide +kernel
theorem dX11_isMove_4 : decode cX11_isMove 4 = .ok (.ifCond .eq 16, 3) := by decide +kernel
theorem dX11_isMove_7 : decode cX11_isMove 7 = .ok (.iload_n 1, 1) := by decide +kernel
theorem dX11_isMove_8 : decode cX11_isMove 8 = .ok (.iconst 1, 1) := by decide +kernel
theorem dX11_isMove_9 : decode cX11_isMove 9 = .ok (.iconst 5, 1) := by decide +kernel
theorem dX11_isMove_10 : decode cX11_isMove 10 = .ok (.invokestatic 138, 3) := by decide +kernel
theorem dX11_isMove_13 : decode cX11_isMove 13 = .ok (.ifCond .eq 7, 3) := by decide +kernel
theorem dX11_isMove_16 : decode cX11_isMove 16 = .ok (.iconst 1, 1) := by decide +kernel
theorem dX11_isMove_17 : decode cX11_isMove 17 = .ok (.goto 4, 3) := by decide +kernel
theorem dX11_isMove_20 : decode cX11_isMove 20 = .ok (.iconst 0, 1) := by decide +kernel
theorem dX11_isMove_21 : decode cX11_isMove 21 = .ok (.ireturn, 1) := by decide +kernel
theorem dX11_isMinute_0 : decode cX11_isMinute 0 = .ok (.iload_n 0, 1) := by decide +kernel
theorem dX11_isMinute_1 : decode cX11_isMinute 1 = .ok (.iconst 0, 1) := by decide +kernel
theorem dX11_isMinute_2 : decode cX11_isMinute 2 = .ok (.sipush 999, 3) := by decide +kernel
theorem dX11_isMinute_5 : decode cX11_isMinute 5 = .ok (.invokestatic 138, 3) := by decide +kernel
theorem dX11_isMinute_8 : decode cX11_isMinute 8 = .ok (.ireturn, 1) := by decide +kernel
theorem dX11_isSheet_0 : decode cX11_isSheet 0 = .ok (.iload_n 0, 1) := by decide +kernel
theorem dX11_isSheet_1 : decode cX11_isSheet 1 = .ok (.iconst 0, 1) := by decide +kernel
theorem dX11_isSheet_2 : decode cX11_isSheet 2 = .ok (.iconst 3, 1) := by decide +kernel
theorem dX11_isSheet_3 : decode cX11_isSheet 3 = .ok (.invokestatic 138, 3) := by decide +kernel
theorem dX11_isSheet_6 : decode cX11_isSheet 6 = .ok (.ireturn, 1) := by decide +kernel
theorem dX11_isLane_0 : decode cX11_isLane 0 = .ok (.iload_n 0, 1) := by decide +kernel
theorem dX11_isLane_1 : decode cX11_isLane 1 = .ok (.iconst 0, 1) := by decide +kernel
theorem dX11_isLane_2 : decode cX11_isLane 2 = .ok (.iconst 2, 1) := by decide +kernel
theorem dX11_isLane_3 : decode cX11_isLane 3 = .ok (.invokestatic 138, 3) := by decide +kernel
theorem dX11_isLane_6 : decode cX11_isLane 6 = .ok (.ireturn, 1) := by decide +kernel
theorem dX11_quartersBetween_0 : decode cX11_quartersBetween 0 = .ok (.iload_n 1, 1) := by decide +kernel
theorem dX11_quartersBetween_1 : decode cX11_quartersBetween 1 = .ok (.iload_n 0, 1) := by decide +kernel
theorem dX11_quartersBetween_2 : decode cX11_quartersBetween 2 = .ok (.isub, 1) := by decide +kernel
theorem dX11_quartersBetween_3 : decode cX11_quartersBetween 3 = .ok (.iconst 3, 1) := by decide +kernel
theorem dX11_quartersBetween_4 : decode cX11_quartersBetween 4 = .ok (.iand, 1) := by decide +kernel
theorem dX11_quartersBetween_5 : decode cX11_quartersBetween 5 = .ok (.istore_n 2, 1) := by decide +kernel
theorem dX11_quartersBetween_6 : decode cX11_quartersBetween 6 = .ok (.iload_n 2, 1) := by decide +kernel
theorem dX11_quartersBetween_7 : decode cX11_quartersBetween 7 = .ok (.iconst 3, 1) := by decide +kernel
theorem dX11_quartersBetween_8 : decode cX11_quartersBetween 8 = .ok (.if_icmp .ne 7, 3) := by decide +kernel
theorem dX11_quartersBetween_11 : decode cX11_quartersBetween 11 = .ok (.iconst 1, 1) := by decide +kernel
theorem dX11_quartersBetween_12 : decode cX11_quartersBetween 12 = .ok (.goto 4, 3) := by decide +kernel
theorem dX11_quartersBetween_15 : decode cX11_quartersBetween 15 = .ok (.iload_n 2, 1) := by decide +kernel
theorem dX11_quartersBetween_16 : decode cX11_quartersBetween 16 = .ok (.ireturn, 1) := by decide +kernel
theorem dX12_init_0 : decode cX12_init 0 = .ok (.aload_n 0, 1) := by decide +kernel
theorem dX12_init_1 : decode cX12_init 1 = .ok (.invokespecial 1, 3) := by decide +kernel
theorem dX12_init_4 : decode cX12_init 4 = .ok (.aload_n 0, 1) := by decide +kernel
theorem dX12_init_5 : decode cX12_init 5 = .ok (.sipush 320, 3) := by decide +kernel
theorem dX12_init_8 : decode cX12_init 8 = .ok (.newarray .int, 2) := by decide +kernel
theorem dX12_init_10 : decode cX12_init 10 = .ok (.putfield 7, 3) := by decide +kernel
theorem dX12_init_13 : decode cX12_init 13 = .ok (.aload_n 0, 1) := by decide +kernel
theorem dX12_init_14 : decode cX12_init 14 = .ok (.bipush 11, 2) := by decide +kernel
theorem dX12_init_16 : decode cX12_init 16 = .ok (.newarray .int, 2) := by decide +kernel
theorem dX12_init_18 : decode cX12_init 18 = .ok (.dup, 1) := by decide +kernel
theorem dX12_init_19 : decode cX12_init 19 = .ok (.iconst 0, 1) := by decide +kernel
theorem dX12_init_20 : decode cX12_init 20 = .ok (.iconst 0, 1) := by decide +kernel
theorem dX12_init_21 : decode cX12_init 21 = .ok (.iastore, 1) := by decide +kernel
theorem dX12_init_22 : decode cX12_init 22 = .ok (.dup, 1) := by decide +kernel
theorem dX12_init_23 : decode cX12_init 23 = .ok (.iconst 1, 1) := by decide +kernel
theorem dX12_init_24 : decode cX12_init 24 = .ok (.bipush 6, 2) := by decide +kernel
theorem dX12_init_26 : decode cX12_init 26 = .ok (.iastore, 1) := by decide +kernel
theorem dX12_init_27 : decode cX12_init 27 = .ok (.dup, 1) := by decide +kernel
theorem dX12_init_28 : decode cX12_init 28 = .ok (.iconst 2, 1) := by decide +kernel
theorem dX12_init_29 : decode cX12_init 29 = .ok (.bipush 10, 2) := by decide +kernel
theorem dX12_init_31 : decode cX12_init 31 = .ok (.iastore, 1) := by decide +kernel
theorem dX12_init_32 : decode cX12_init 32 = .ok (.dup, 1) := by decide +kernel
theorem dX12_init_33 : decode cX12_init 33 = .ok (.iconst 3, 1) := by decide +kernel
theorem dX12_init_34 : decode cX12_init 34 = .ok (.bipush 15, 2) := by decide +kernel
theorem dX12_init_36 : decode cX12_init 36 = .ok (.iastore, 1) := by decide +kernel
theorem dX12_init_37 : decode cX12_init 37 = .ok (.dup, 1) := by decide +kernel
theorem dX12_init_38 : decode cX12_init 38 = .ok (.iconst 4, 1) := by decide +kernel
theorem dX12_init_39 : decode cX12_init 39 = .ok (.bipush 18, 2) := by decide +kernel
theorem dX12_init_41 : decode cX12_init 41 = .ok (.iastore, 1) := by decide +kernel
theorem dX12_init_42 : decode cX12_init 42 = .ok (.dup, 1) := by decide +kernel
theorem dX12_init_43 : decode cX12_init 43 = .ok (.iconst 5, 1) := by decide +kernel
theorem dX12_init_44 : decode cX12_init 44 = .ok (.bipush 23, 2) := by decide +kernel
theorem dX12_init_46 : decode cX12_init 46 = .ok (.iastore, 1) := by decide +kernel
theorem dX12_init_47 : decode cX12_init 47 = .ok (.dup, 1) := by decide +kernel
theorem dX12_init_48 : decode cX12_init 48 = .ok (.bipush 6, 2) := by decide +kernel
theorem dX12_init_50 : decode cX12_init 50 = .ok (.bipush 27, 2) := by decide +kernel
theorem dX12_init_52 : decode cX12_init 52 = .ok (.iastore, 1) := by decide +kernel
theorem dX12_init_53 : decode cX12_init 53 = .ok (.dup, 1) := by decide +kernel
theorem dX12_init_54 : decode cX12_init 54 = .ok (.bipush 7, 2) := by decide +kernel
theorem dX12_init_56 : decode cX12_init 56 = .ok (.bipush 30, 2) := by decide +kernel
theorem dX12_init_58 : decode cX12_init 58 = .ok (.iastore, 1) := by decide +kernel
theorem dX12_init_59 : decode cX12_init 59 = .ok (.dup, 1) := by decide +kernel
theorem dX12_init_60 : decode cX12_init 60 = .ok (.bipush 8, 2) := by decide +kernel
theorem dX12_init_62 : decode cX12_init 62 = .ok (.bipush 34, 2) := by decide +kernel
theorem dX12_init_64 : decode cX12_init 64 = .ok (.iastore, 1) := by decide +kernel
theorem dX12_init_65 : decode cX12_init 65 = .ok (.dup, 1) := by decide +kernel
theorem dX12_init_66 : decode cX12_init 66 = .ok (.bipush 9, 2) := by decide +kernel
theorem dX12_init_68 : decode cX12_init 68 = .ok (.bipush 37, 2) := by decide +kernel
theorem dX12_init_70 : decode cX12_init 70 = .ok (.iastore, 1) := by decide +kernel
theorem dX12_init_71 : decode cX12_init 71 = .ok (.dup, 1) := by decide +kernel
theorem dX12_init_72 : decode cX12_init 72 = .ok (.bipush 10, 2) := by decide +kernel
theorem dX12_init_74 : decode cX12_init 74 = .ok (.bipush 40, 2) := by decide +kernel
theorem dX12_init_76 : decode cX12_init 76 = .ok (.iastore, 1) := by decide +kernel
theorem dX12_init_77 : decode cX12_init 77 = .ok (.putfield 13, 3) := by decide +kernel
theorem dX12_init_80 : decode cX12_init 80 = .ok (.aload_n 0, 1) := by decide +kernel
theorem dX12_init_81 : decode cX12_init 81 = .ok (.bipush 40, 2) := by decide +kernel
theorem dX12_init_83 : decode cX12_init 83 = .ok (.newarray .int, 2) := by decide +kernel
theorem dX12_init_85 : decode cX12_init 85 = .ok (.dup, 1) := by decide +kernel
theorem dX12_init_86 : decode cX12_init 86 = .ok (.iconst 0, 1) := by decide +kernel
theorem dX12_init_87 : decode cX12_init 87 = .ok (.bipush 115, 2) := by decide +kernel
theorem dX12_init_89 : decode cX12_init 89 = .ok (.iastore, 1) := by decide +kernel
theorem dX12_init_90 : decode cX12_init 90 = .ok (.dup, 1) := by decide +kernel
theorem dX12_init_91 : decode cX12_init 91 = .ok (.iconst 1, 1) := by decide +kernel
theorem dX12_init_92 : decode cX12_init 92 = .ok (.bipush 111, 2) := by decide +kernel
theorem dX12_init_94 : decode cX12_init 94 = .ok (.iastore, 1) := by decide +kernel
theorem dX12_init_95 : decode cX12_init 95 = .ok (.dup, 1) := by decide +kernel
theorem dX12_init_96 : decode cX12_init 96 = .ok (.iconst 2, 1) := by decide +kernel
theorem dX12_init_97 : decode cX12_init 97 = .ok (.bipush 99, 2) := by decide +kernel
theorem dX12_init_99 : decode cX12_init 99 = .ok (.iastore, 1) := by decide +kernel
theorem dX12_init_100 : decode cX12_init 100 = .ok (.dup, 1) := by decide +kernel
theorem dX12_init_101 : decode cX12_init 101 = .ok (.iconst 3, 1) := by decide +kernel
theorem dX12_init_102 : decode cX12_init 102 = .ok (.bipush 107, 2) := by decide +kernel
theorem dX12_init_104 : decode cX12_init 104 = .ok (.iastore, 1) := by decide +kernel
theorem dX12_init_105 : decode cX12_init 105 = .ok (.dup, 1) := by decide +kernel
theorem dX12_init_106 : decode cX12_init 106 = .ok (.iconst 4, 1) := by decide +kernel
theorem dX12_init_107 : decode cX12_init 107 = .ok (.bipush 101, 2) := by decide +kernel
theorem dX12_init_109 : decode cX12_init 109 = .ok (.iastore, 1) := by decide +kernel
theorem dX12_init_110 : decode cX12_init 110 = .ok (.dup, 1) := by decide +kernel
theorem dX12_init_111 : decode cX12_init 111 = .ok (.iconst 5, 1) := by decide +kernel
theorem dX12_init_112 : decode cX12_init 112 = .ok (.bipush 116, 2) := by decide +kernel
theorem dX12_init_114 : decode cX12_init 114 = .ok (.iastore, 1) := by decide +kernel
theorem dX12_init_115 : decode cX12_init 115 = .ok (.dup, 1) := by decide +kernel
theorem dX12_init_116 : decode cX12_init 116 = .ok (.bipush 6, 2) := by decide +kernel
theorem dX12_init_118 : decode cX12_init 118 = .ok (.bipush 116, 2) := by decide +kernel
theorem dX12_init_120 : decode cX12_init 120 = .ok (.iastore, 1) := by decide +kernel
theorem dX12_init_121 : decode cX12_init 121 = .ok (.dup, 1) := by decide +kernel
theorem dX12_init_122 : decode cX12_init 122 = .ok (.bipush 7, 2) := by decide +kernel
theorem dX12_init_124 : decode cX12_init 124 = .ok (.bipush 117, 2) := by decide +kernel
theorem dX12_init_126 : decode cX12_init 126 = .ok (.iastore, 1) := by decide +kernel
theorem dX12_init_127 : decode cX12_init 127 = .ok (.dup, 1) := by decide +kernel
theorem dX12_init_128 : decode cX12_init 128 = .ok (.bipush 8, 2) := by decide +kernel
theorem dX12_init_130 : decode cX12_init 130 = .ok (.bipush 114, 2) := by decide +kernel
theorem dX12_init_132 : decode cX12_init 132 = .ok (.iastore, 1) := by decide +kernel
theorem dX12_init_133 : decode cX12_init 133 = .ok (.dup, 1) := by decide +kernel
theorem dX12_init_134 : decode cX12_init 134 = .ok (.bipush 9, 2) := by decide +kernel
theorem dX12_init_136 : decode cX12_init 136 = .ok (.bipush 110, 2) := by decide +kernel
theorem dX12_init_138 : decode cX12_init 138 = .ok (.iastore, 1) := by decide +kernel
theorem dX12_init_139 : decode cX12_init 139 = .ok (.dup, 1) := by decide +kernel
theorem dX12_init_140 : decode cX12_init 140 = .ok (.bipush 10, 2) := by decide +kernel
theorem dX12_init_142 : decode cX12_init 142 = .ok (.bipush 99, 2) := by decide +kernel
theorem dX12_init_144 : decode cX12_init 144 = .ok (.iastore, 1) := by decide +kernel
theorem dX12_init_145 : decode cX12_init 145 = .ok (.dup, 1) := by decide +kernel
theorem dX12_init_146 : decode cX12_init 146 = .ok (.bipush 11, 2) := by decide +kernel
theorem dX12_init_148 : decode cX12_init 148 = .ok (.bipush 108, 2) := by decide +kernel
theorem dX12_init_150 : decode cX12_init 150 = .ok (.iastore, 1) := by decide +kernel
theorem dX12_init_151 : decode cX12_init 151 = .ok (.dup, 1) := by decide +kernel
theorem dX12_init_152 : decode cX12_init 152 = .ok (.bipush 12, 2) := by decide +kernel
theorem dX12_init_154 : decode cX12_init 154 = .ok (.bipush 105, 2) := by decide +kernel
theorem dX12_init_156 : decode cX12_init 156 = .ok (.iastore, 1) := by decide +kernel
theorem dX12_init_157 : decode cX12_init 157 = .ok (.dup, 1) := by decide +kernel
theorem dX12_init_158 : decode cX12_init 158 = .ok (.bipush 13, 2) := by decide +kernel
theorem dX12_init_160 : decode cX12_init 160 = .ok (.bipush 109, 2) := by decide +kernel
theorem dX12_init_162 : decode cX12_init 162 = .ok (.iastore, 1) := by decide +kernel
theorem dX12_init_163 : decode cX12_init 163 = .ok (.dup, 1) := by decide +kernel
theorem dX12_init_164 : decode cX12_init 164 = .ok (.bipush 14, 2) := by decide +kernel
theorem dX12_init_166 : decode cX12_init 166 = .ok (.bipush 98, 2) := by decide +kernel
theorem dX12_init_168 : decode cX12_init 168 = .ok (.iastore, 1) := by decide +kernel
theorem dX12_init_169 : decode cX12_init 169 = .ok (.dup, 1) := by decide +kernel
theorem dX12_init_170 : decode cX12_init 170 = .ok (.bipush 15, 2) := by decide +kernel
theorem dX12_init_172 : decode cX12_init 172 = .ok (.bipush 98, 2) := by decide +kernel
theorem dX12_init_174 : decode cX12_init 174 = .ok (.iastore, 1) := by decide +kernel
theorem dX12_init_175 : decode cX12_init 175 = .ok (.dup, 1) := by decide +kernel
theorem dX12_init_176 : decode cX12_init 176 = .ok (.bipush 16, 2) := by decide +kernel
theorem dX12_init_178 : decode cX12_init 178 = .ok (.bipush 97, 2) := by decide +kernel
theorem dX12_init_180 : decode cX12_init 180 = .ok (.iastore, 1) := by decide +kernel
theorem dX12_init_181 : decode cX12_init 181 = .ok (.dup, 1) := by decide +kernel
theorem dX12_init_182 : decode cX12_init 182 = .ok (.bipush 17, 2) := by decide +kernel
theorem dX12_init_184 : decode cX12_init 184 = .ok (.bipush 103, 2) := by decide +kernel
theorem dX12_init_186 : decode cX12_init 186 = .ok (.iastore, 1) := by decide +kernel
theorem dX12_init_187 : decode cX12_init 187 = .ok (.dup, 1) := by decide +kernel
theorem dX12_init_188 : decode cX12_init 188 = .ok (.bipush 18, 2) := by decide +kernel
theorem dX12_init_190 : decode cX12_init 190 = .ok (.bipush 101, 2) := by decide +kernel
theorem dX12_init_192 : decode cX12_init 192 = .ok (.iastore, 1) := by decide +kernel
theorem dX12_init_193 : decode cX12_init 193 = .ok (.dup, 1) := by decide +kernel
theorem dX12_init_194 : decode cX12_init 194 = .ok (.bipush 19, 2) := by decide +kernel
theorem dX12_init_196 : decode cX12_init 196 = .ok (.bipush 109, 2) := by decide +kernel
theorem dX12_init_198 : decode cX12_init 198 = .ok (.iastore, 1) := by decide +kernel
theorem dX12_init_199 : decode cX12_init 199 = .ok (.dup, 1) := by decide +kernel
theorem dX12_init_200 : decode cX12_init 200 = .ok (.bipush 20, 2) := by decide +kernel
theorem dX12_init_202 : decode cX12_init 202 = .ok (.bipush 112, 2) := by decide +kernel
theorem dX12_init_204 : decode cX12_init 204 = .ok (.iastore, 1) := by decide +kernel
theorem dX12_init_205 : decode cX12_init 205 = .ok (.dup, 1) := by decide +kernel
theorem dX12_init_206 : decode cX12_init 206 = .ok (.bipush 21, 2) := by decide +kernel
theorem dX12_init_208 : decode cX12_init 208 = .ok (.bipush 116, 2) := by decide +kernel
theorem dX12_init_210 : decode cX12_init 210 = .ok (.iastore, 1) := by decide +kernel
theorem dX12_init_211 : decode cX12_init 211 = .ok (.dup, 1) := by decide +kernel
theorem dX12_init_212 : decode cX12_init 212 = .ok (.bipush 22, 2) := by decide +kernel
theorem dX12_init_214 : decode cX12_init 214 = .ok (.bipush 121, 2) := by decide +kernel
theorem dX12_init_216 : decode cX12_init 216 = .ok (.iastore, 1) := by decide +kernel
theorem dX12_init_217 : decode cX12_init 217 = .ok (.dup, 1) := by decide +kernel
theorem dX12_init_218 : decode cX12_init 218 = .ok (.bipush 23, 2) := by decide +kernel
theorem dX12_init_220 : decode cX12_init 220 = .ok (.bipush 99, 2) := by decide +kernel
theorem dX12_init_222 : decode cX12_init 222 = .ok (.iastore, 1) := by decide +kernel
theorem dX12_init_223 : decode cX12_init 223 = .ok (.dup, 1) := by decide +kernel
theorem dX12_init_224 : decode cX12_init 224 = .ok (.bipush 24, 2) := by decide +kernel
theorem dX12_init_226 : decode cX12_init 226 = .ok (.bipush 111, 2) := by decide +kernel
theorem dX12_init_228 : decode cX12_init 228 = .ok (.iastore, 1) := by decide +kernel
theorem dX12_init_229 : decode cX12_init 229 = .ok (.dup, 1) := by decide +kernel
theorem dX12_init_230 : decode cX12_init 230 = .ok (.bipush 25, 2) := by decide +kernel
theorem dX12_init_232 : decode cX12_init 232 = .ok (.bipush 114, 2) := by decide +kernel
theorem dX12_init_234 : decode cX12_init 234 = .ok (.iastore, 1) := by decide +kernel
theorem dX12_init_235 : decode cX12_init 235 = .ok (.dup, 1) := by decide +kernel
theorem dX12_init_236 : decode cX12_init 236 = .ok (.bipush 26, 2) := by decide +kernel
theorem dX12_init_238 : decode cX12_init 238 = .ok (.bipush 100, 2) := by decide +kernel
theorem dX12_init_240 : decode cX12_init 240 = .ok (.iastore, 1) := by decide +kernel
theorem dX12_init_241 : decode cX12_init 241 = .ok (.dup, 1) := by decide +kernel
theorem dX12_init_242 : decode cX12_init 242 = .ok (.bipush 27, 2) := by decide +kernel
theorem dX12_init_244 : decode cX12_init 244 = .ok (.bipush 100, 2) := by decide +kernel
theorem dX12_init_246 : decode cX12_init 246 = .ok (.iastore, 1) := by decide +kernel
theorem dX12_init_247 : decode cX12_init 247 = .ok (.dup, 1) := by decide +kernel
theorem dX12_init_248 : decode cX12_init 248 = .ok (.bipush 28, 2) := by decide +kernel
theorem dX12_init_250 : decode cX12_init 250 = .ok (.bipush 101, 2) := by decide +kernel
theorem dX12_init_252 : decode cX12_init 252 = .ok (.iastore, 1) := by decide +kernel
theorem dX12_init_253 : decode cX12_init 253 = .ok (.dup, 1) := by decide +kernel
theorem dX12_init_254 : decode cX12_init 254 = .ok (.bipush 29, 2) := by decide +kernel
theorem dX12_init_256 : decode cX12_init 256 = .ok (.bipush 119, 2) := by decide +kernel
theorem dX12_init_258 : decode cX12_init 258 = .ok (.iastore, 1) := by decide +kernel
theorem dX12_init_259 : decode cX12_init 259 = .ok (.dup, 1) := by decide +kernel
theorem dX12_init_260 : decode cX12_init 260 = .ok (.bipush 30, 2) := by decide +kernel
theorem dX12_init_262 : decode cX12_init 262 = .ok (.bipush 104, 2) := by decide +kernel
theorem dX12_init_264 : decode cX12_init 264 = .ok (.iastore, 1) := by decide +kernel
theorem dX12_init_265 : decode cX12_init 265 = .ok (.dup, 1) := by decide +kernel
theorem dX12_init_266 : decode cX12_init 266 = .ok (.bipush 31, 2) := by decide +kernel
theorem dX12_init_268 : decode cX12_init 268 = .ok (.bipush 105, 2) := by decide +kernel
theorem dX12_init_270 : decode cX12_init 270 = .ok (.iastore, 1) := by decide +kernel
theorem dX12_init_271 : decode cX12_init 271 = .ok (.dup, 1) := by decide +kernel
theorem dX12_init_272 : decode cX12_init 272 = .ok (.bipush 32, 2) := by decide +kernel
theorem dX12_init_274 : decode cX12_init 274 = .ok (.bipush 103, 2) := by decide +kernel
theorem dX12_init_276 : decode cX12_init 276 = .ok (.iastore, 1) := by decide +kernel
theorem dX12_init_277 : decode cX12_init 277 = .ok (.dup, 1) := by decide +kernel
theorem dX12_init_278 : decode cX12_init 278 = .ok (.bipush 33, 2) := by decide +kernel
theorem dX12_init_280 : decode cX12_init 280 = .ok (.bipush 104, 2) := by decide +kernel
theorem dX12_init_282 : decode cX12_init 282 = .ok (.iastore, 1) := by decide +kernel
theorem dX12_init_283 : decode cX12_init 283 = .ok (.dup, 1) := by decide +kernel
theorem dX12_init_284 : decode cX12_init 284 = .ok (.bipush 34, 2) := by decide +kernel
theorem dX12_init_286 : decode cX12_init 286 = .ok (.bipush 114, 2) := by decide +kernel
theorem dX12_init_288 : decode cX12_init 288 = .ok (.iastore, 1) := by decide +kernel
theorem dX12_init_289 : decode cX12_init 289 = .ok (.dup, 1) := by decide +kernel
theorem dX12_init_290 : decode cX12_init 290 = .ok (.bipush 35, 2) := by decide +kernel
theorem dX12_init_292 : decode cX12_init 292 = .ok (.bipush 111, 2) := by decide +kernel
theorem dX12_init_294 : decode cX12_init 294 = .ok (.iastore, 1) := by decide +kernel
theorem dX12_init_295 : decode cX12_init 295 = .ok (.dup, 1) := by decide +kernel
theorem dX12_init_296 : decode cX12_init 296 = .ok (.bipush 36, 2) := by decide +kernel
theorem dX12_init_298 : decode cX12_init 298 = .ok (.bipush 119, 2) := by decide +kernel
theorem dX12_init_300 : decode cX12_init 300 = .ok (.iastore, 1) := by decide +kernel
theorem dX12_init_301 : decode cX12_init 301 = .ok (.dup, 1) := by decide +kernel
theorem dX12_init_302 : decode cX12_init 302 = .ok (.bipush 37, 2) := by decide +kernel
theorem dX12_init_304 : decode cX12_init 304 = .ok (.bipush 115, 2) := by decide +kernel
theorem dX12_init_306 : decode cX12_init 306 = .ok (.iastore, 1) := by decide +kernel
theorem dX12_init_307 : decode cX12_init 307 = .ok (.dup, 1) := by decide +kernel
theorem dX12_init_308 : decode cX12_init 308 = .ok (.bipush 38, 2) := by decide +kernel
theorem dX12_init_310 : decode cX12_init 310 = .ok (.bipush 117, 2) := by decide +kernel
theorem dX12_init_312 : decode cX12_init 312 = .ok (.iastore, 1) := by decide +kernel
theorem dX12_init_313 : decode cX12_init 313 = .ok (.dup, 1) := by decide +kernel
theorem dX12_init_314 : decode cX12_init 314 = .ok (.bipush 39, 2) := by decide +kernel
theorem dX12_init_316 : decode cX12_init 316 = .ok (.bipush 110, 2) := by decide +kernel
theorem dX12_init_318 : decode cX12_init 318 = .ok (.iastore, 1) := by decide +kernel
theorem dX12_init_319 : decode cX12_init 319 = .ok (.putfield 16, 3) := by decide +kernel
theorem dX12_init_322 : decode cX12_init 322 = .ok (.aload_n 0, 1) := by decide +kernel
theorem dX12_init_323 : decode cX12_init 323 = .ok (.bipush 8, 2) := by decide +kernel
theorem dX12_init_325 : decode cX12_init 325 = .ok (.newarray .int, 2) := by decide +kernel
theorem dX12_init_327 : decode cX12_init 327 = .ok (.dup, 1) := by decide +kernel
theorem dX12_init_328 : decode cX12_init 328 = .ok (.iconst 0, 1) := by decide +kernel
theorem dX12_init_329 : decode cX12_init 329 = .ok (.iconst 0, 1) := by decide +kernel
theorem dX12_init_330 : decode cX12_init 330 = .ok (.iastore, 1) := by decide +kernel
theorem dX12_init_331 : decode cX12_init 331 = .ok (.dup, 1) := by decide +kernel
theorem dX12_init_332 : decode cX12_init 332 = .ok (.iconst 1, 1) := by decide +kernel
theorem dX12_init_333 : decode cX12_init 333 = .ok (.iconst 0, 1) := by decide +kernel
theorem dX12_init_334 : decode cX12_init 334 = .ok (.iastore, 1) := by decide +kernel
theorem dX12_init_335 : decode cX12_init 335 = .ok (.dup, 1) := by decide +kernel
theorem dX12_init_336 : decode cX12_init 336 = .ok (.iconst 2, 1) := by decide +kernel
theorem dX12_init_337 : decode cX12_init 337 = .ok (.iconst 1, 1) := by decide +kernel
theorem dX12_init_338 : decode cX12_init 338 = .ok (.iastore, 1) := by decide +kernel
theorem dX12_init_339 : decode cX12_init 339 = .ok (.dup, 1) := by decide +kernel
theorem dX12_init_340 : decode cX12_init 340 = .ok (.iconst 3, 1) := by decide +kernel
theorem dX12_init_341 : decode cX12_init 341 = .ok (.iconst 1, 1) := by decide +kernel
theorem dX12_init_342 : decode cX12_init 342 = .ok (.iastore, 1) := by decide +kernel
theorem dX12_init_343 : decode cX12_init 343 = .ok (.dup, 1) := by decide +kernel
theorem dX12_init_344 : decode cX12_init 344 = .ok (.iconst 4, 1) := by decide +kernel
theorem dX12_init_345 : decode cX12_init 345 = .ok (.iconst 0, 1) := by decide +kernel
theorem dX12_init_346 : decode cX12_init 346 = .ok (.iastore, 1) := by decide +kernel
theorem dX12_init_347 : decode cX12_init 347 = .ok (.dup, 1) := by decide +kernel
theorem dX12_init_348 : decode cX12_init 348 = .ok (.iconst 5, 1) := by decide +kernel
theorem dX12_init_349 : decode cX12_init 349 = .ok (.iconst 1, 1) := by decide +kernel
theorem dX12_init_350 : decode cX12_init 350 = .ok (.iastore, 1) := by decide +kernel
theorem dX12_init_351 : decode cX12_init 351 = .ok (.dup, 1) := by decide +kernel
theorem dX12_init_352 : decode cX12_init 352 = .ok (.bipush 6, 2) := by decide +kernel
theorem dX12_init_354 : decode cX12_init 354 = .ok (.iconst 0, 1) := by decide +kernel
theorem dX12_init_355 : decode cX12_init 355 = .ok (.iastore, 1) := by decide +kernel
theorem dX12_init_356 : decode cX12_init 356 = .ok (.dup, 1) := by decide +kernel
theorem dX12_init_357 : decode cX12_init 357 = .ok (.bipush 7, 2) := by decide +kernel
theorem dX12_init_359 : decode cX12_init 359 = .ok (.iconst 0, 1) := by decide +kernel
theorem dX12_init_360 : decode cX12_init 360 = .ok (.iastore, 1) := by decide +kernel
theorem dX12_init_361 : decode cX12_init 361 = .ok (.putfield 19, 3) := by decide +kernel
theorem dX12_init_364 : decode cX12_init 364 = .ok (.aload_n 0, 1) := by decide +kernel
theorem dX12_init_365 : decode cX12_init 365 = .ok (.bipush 8, 2) := by decide +kernel
theorem dX12_init_367 : decode cX12_init 367 = .ok (.newarray .int, 2) := by decide +kernel
theorem dX12_init_369 : decode cX12_init 369 = .ok (.dup, 1) := by decide +kernel
theorem dX12_init_370 : decode cX12_init 370 = .ok (.iconst 0, 1) := by decide +kernel
theorem dX12_init_371 : decode cX12_init 371 = .ok (.bipush 35, 2) := by decide +kernel
theorem dX12_init_373 : decode cX12_init 373 = .ok (.iastore, 1) := by decide +kernel
theorem dX12_init_374 : decode cX12_init 374 = .ok (.dup, 1) := by decide +kernel
theorem dX12_init_375 : decode cX12_init 375 = .ok (.iconst 1, 1) := by decide +kernel
theorem dX12_init_376 : decode cX12_init 376 = .ok (.iconst 3, 1) := by decide +kernel
theorem dX12_init_377 : decode cX12_init 377 = .ok (.iastore, 1) := by decide +kernel
theorem dX12_init_378 : decode cX12_init 378 = .ok (.dup, 1) := by decide +kernel
theorem dX12_init_379 : decode cX12_init 379 = .ok (.iconst 2, 1) := by decide +kernel
theorem dX12_init_380 : decode cX12_init 380 = .ok (.iconst 4, 1) := by decide +kernel
theorem dX12_init_381 : decode cX12_init 381 = .ok (.iastore, 1) := by decide +kernel
theorem dX12_init_382 : decode cX12_init 382 = .ok (.dup, 1) := by decide +kernel
theorem dX12_init_383 : decode cX12_init 383 = .ok (.iconst 3, 1) := by decide +kernel
theorem dX12_init_384 : decode cX12_init 384 = .ok (.sipush 200, 3) := by decide +kernel
theorem dX12_init_387 : decode cX12_init 387 = .ok (.iastore, 1) := by decide +kernel
theorem dX12_init_388 : decode cX12_init 388 = .ok (.dup, 1) := by decide +kernel
theorem dX12_init_389 : decode cX12_init 389 = .ok (.iconst 4, 1) := by decide +kernel
theorem dX12_init_390 : decode cX12_init 390 = .ok (.bipush 9, 2) := by decide +kernel
theorem dX12_init_392 : decode cX12_init 392 = .ok (.iastore, 1) := by decide +kernel
theorem dX12_init_393 : decode cX12_init 393 = .ok (.dup, 1) := by decide +kernel
theorem dX12_init_394 : decode cX12_init 394 = .ok (.iconst 5, 1) := by decide +kernel
theorem dX12_init_395 : decode cX12_init 395 = .ok (.bipush 99, 2) := by decide +kernel
theorem dX12_init_397 : decode cX12_init 397 = .ok (.iastore, 1) := by decide +kernel
theorem dX12_init_398 : decode cX12_init 398 = .ok (.dup, 1) := by decide +kernel
theorem dX12_init_399 : decode cX12_init 399 = .ok (.bipush 6, 2) := by decide +kernel
theorem dX12_init_401 : decode cX12_init 401 = .ok (.sipush 999, 3) := by decide +kernel
theorem dX12_init_404 : decode cX12_init 404 = .ok (.iastore, 1) := by decide +kernel
theorem dX12_init_405 : decode cX12_init 405 = .ok (.dup, 1) := by decide +kernel
theorem dX12_init_406 : decode cX12_init 406 = .ok (.bipush 7, 2) := by decide +kernel
theorem dX12_init_408 : decode cX12_init 408 = .ok (.bipush 60, 2) := by decide +kernel
theorem dX12_init_410 : decode cX12_init 410 = .ok (.iastore, 1) := by decide +kernel
theorem dX12_init_411 : decode cX12_init 411 = .ok (.putfield 22, 3) := by decide +kernel
theorem dX12_init_414 : decode cX12_init 414 = .ok (.aload_n 0, 1) := by decide +kernel
theorem dX12_init_415 : decode cX12_init 415 = .ok (.bipush 8, 2) := by decide +kernel
theorem dX12_init_417 : decode cX12_init 417 = .ok (.newarray .int, 2) := by decide +kernel
theorem dX12_init_419 : decode cX12_init 419 = .ok (.dup, 1) := by decide +kernel
theorem dX12_init_420 : decode cX12_init 420 = .ok (.iconst 0, 1) := by decide +kernel
theorem dX12_init_421 : decode cX12_init 421 = .ok (.iconst 0, 1) := by decide +kernel
theorem dX12_init_422 : decode cX12_init 422 = .ok (.iastore, 1) := by decide +kernel
theorem dX12_init_423 : decode cX12_init 423 = .ok (.dup, 1) := by decide +kernel
theorem dX12_init_424 : decode cX12_init 424 = .ok (.iconst 1, 1) := by decide +kernel
theorem dX12_init_425 : decode cX12_init 425 = .ok (.iconst 1, 1) := by decide +kernel
theorem dX12_init_426 : decode cX12_init 426 = .ok (.iastore, 1) := by decide +kernel
theorem dX12_init_427 : decode cX12_init 427 = .ok (.dup, 1) := by decide +kernel
theorem dX12_init_428 : decode cX12_init 428 = .ok (.iconst 2, 1) := by decide +kernel
theorem dX12_init_429 : decode cX12_init 429 = .ok (.iconst 2, 1) := by decide +kernel
theorem dX12_init_430 : decode cX12_init 430 = .ok (.iastore, 1) := by decide +kernel
theorem dX12_init_431 : decode cX12_init 431 = .ok (.dup, 1) := by decide +kernel
theorem dX12_init_432 : decode cX12_init 432 = .ok (.iconst 3, 1) := by decide +kernel
theorem dX12_init_433 : decode cX12_init 433 = .ok (.bipush 30, 2) := by decide +kernel
theorem dX12_init_435 : decode cX12_init 435 = .ok (.iastore, 1) := by decide +kernel
theorem dX12_init_436 : decode cX12_init 436 = .ok (.dup, 1) := by decide +kernel
theorem dX12_init_437 : decode cX12_init 437 = .ok (.iconst 4, 1) := by decide +kernel
theorem dX12_init_438 : decode cX12_init 438 = .ok (.iconst 2, 1) := by decide +kernel
theorem dX12_init_439 : decode cX12_init 439 = .ok (.iastore, 1) := by decide +kernel
theorem dX12_init_440 : decode cX12_init 440 = .ok (.dup, 1) := by decide +kernel
theorem dX12_init_441 : decode cX12_init 441 = .ok (.iconst 5, 1) := by decide +kernel
theorem dX12_init_442 : decode cX12_init 442 = .ok (.bipush 20, 2) := by decide +kernel
theorem dX12_init_444 : decode cX12_init 444 = .ok (.iastore, 1) := by decide +kernel
theorem dX12_init_445 : decode cX12_init 445 = .ok (.dup, 1) := by decide +kernel
theorem dX12_init_446 : decode cX12_init 446 = .ok (.bipush 6, 2) := by decide +kernel
theorem dX12_init_448 : decode cX12_init 448 = .ok (.iconst 0, 1) := by decide +kernel
theorem dX12_init_449 : decode cX12_init 449 = .ok (.iastore, 1) := by decide +kernel
theorem dX12_init_450 : decode cX12_init 450 = .ok (.dup, 1) := by decide +kernel
theorem dX12_init_451 : decode cX12_init 451 = .ok (.bipush 7, 2) := by decide +kernel
theorem dX12_init_453 : decode cX12_init 453 = .ok (.iconst 3, 1) := by decide +kernel
theorem dX12_init_454 : decode cX12_init 454 = .ok (.iastore, 1) := by decide +kernel
theorem dX12_init_455 : decode cX12_init 455 = .ok (.putfield 25, 3) := by decide +kernel
theorem dX12_init_458 : decode cX12_init 458 = .ok (.aload_n 0, 1) := by decide +kernel
theorem dX12_init_459 : decode cX12_init 459 = .ok (.bipush 8, 2) := by decide +kernel
theorem dX12_init_461 : decode cX12_init 461 = .ok (.newarray .int, 2) := by decide +kernel
theorem dX12_init_463 : decode cX12_init 463 = .ok (.dup, 1) := by decide +kernel
theorem dX12_init_464 : decode cX12_init 464 = .ok (.iconst 0, 1) := by decide +kernel
theorem dX12_init_465 : decode cX12_init 465 = .ok (.iconst 0, 1) := by decide +kernel
theorem dX12_init_466 : decode cX12_init 466 = .ok (.iastore, 1) := by decide +kernel
theorem dX12_init_467 : decode cX12_init 467 = .ok (.dup, 1) := by decide +kernel
theorem dX12_init_468 : decode cX12_init 468 = .ok (.iconst 1, 1) := by decide +kernel
theorem dX12_init_469 : decode cX12_init 469 = .ok (.iconst 1, 1) := by decide +kernel
theorem dX12_init_470 : decode cX12_init 470 = .ok (.iastore, 1) := by decide +kernel
theorem dX12_init_471 : decode cX12_init 471 = .ok (.dup, 1) := by decide +kernel
theorem dX12_init_472 : decode cX12_init 472 = .ok (.iconst 2, 1) := by decide +kernel
theorem dX12_init_473 : decode cX12_init 473 = .ok (.iconst 2, 1) := by decide +kernel
theorem dX12_init_474 : decode cX12_init 474 = .ok (.iastore, 1) := by decide +kernel
theorem dX12_init_475 : decode cX12_init 475 = .ok (.dup, 1) := by decide +kernel
theorem dX12_init_476 : decode cX12_init 476 = .ok (.iconst 3, 1) := by decide +kernel
theorem dX12_init_477 : decode cX12_init 477 = .ok (.bipush 30, 2) := by decide +kernel
theorem dX12_init_479 : decode cX12_init 479 = .ok (.iastore, 1) := by decide +kernel
theorem dX12_init_480 : decode cX12_init 480 = .ok (.dup, 1) := by decide +kernel
theorem dX12_init_481 : decode cX12_init 481 = .ok (.iconst 4, 1) := by decide +kernel
theorem dX12_init_482 : decode cX12_init 482 = .ok (.iconst 2, 1) := by decide +kernel
theorem dX12_init_483 : decode cX12_init 483 = .ok (.iastore, 1) := by decide +kernel
theorem dX12_init_484 : decode cX12_init 484 = .ok (.dup, 1) := by decide +kernel
theorem dX12_init_485 : decode cX12_init 485 = .ok (.iconst 5, 1) := by decide +kernel
theorem dX12_init_486 : decode cX12_init 486 = .ok (.bipush 20, 2) := by decide +kernel
theorem dX12_init_488 : decode cX12_init 488 = .ok (.iastore, 1) := by decide +kernel
theorem dX12_init_489 : decode cX12_init 489 = .ok (.dup, 1) := by decide +kernel
