theorem dX0_init_0 : decode cX0_init 0 = .ok (.aload_n 0, 1) := by decide +kernel
theorem dX0_init_1 : decode cX0_init 1 = .ok (.invokespecial 3, 3) := by decide +kernel
theorem dX0_init_4 : decode cX0_init 4 = .ok (.aload_n 0, 1) := by decide +kernel
theorem dX0_init_5 : decode cX0_init 5 = .ok (.sipush 144, 3) := by decide +kernel
theorem dX0_init_8 : decode cX0_init 8 = .ok (.newarray .long, 2) := by decide +kernel
theorem dX0_init_10 : decode cX0_init 10 = .ok (.putfield 9, 3) := by decide +kernel
theorem dX0_init_13 : decode cX0_init 13 = .ok (.aload_n 0, 1) := by decide +kernel
theorem dX0_init_14 : decode cX0_init 14 = .ok (.sipush 144, 3) := by decide +kernel
theorem dX0_init_17 : decode cX0_init 17 = .ok (.newarray .long, 2) := by decide +kernel
theorem dX0_init_19 : decode cX0_init 19 = .ok (.putfield 15, 3) := by decide +kernel
theorem dX0_init_22 : decode cX0_init 22 = .ok (.return_, 1) := by decide +kernel
theorem dX0_weigh_0 : decode cX0_weigh 0 = .ok (.aload_n 0, 1) := by decide +kernel
theorem dX0_weigh_1 : decode cX0_weigh 1 = .ok (.getfield 9, 3) := by decide +kernel
theorem dX0_weigh_4 : decode cX0_weigh 4 = .ok (.lconst 0, 1) := by decide +kernel
theorem dX0_weigh_5 : decode cX0_weigh 5 = .ok (.invokestatic 18, 3) := by decide +kernel
theorem dX0_weigh_8 : decode cX0_weigh 8 = .ok (.aload_n 0, 1) := by decide +kernel
theorem dX0_weigh_9 : decode cX0_weigh 9 = .ok (.lconst 0, 1) := by decide +kernel
theorem dX0_weigh_10 : decode cX0_weigh 10 = .ok (.putfield 24, 3) := by decide +kernel
theorem dX0_weigh_13 : decode cX0_weigh 13 = .ok (.aload_n 0, 1) := by decide +kernel
theorem dX0_weigh_14 : decode cX0_weigh 14 = .ok (.lconst 1, 1) := by decide +kernel
theorem dX0_weigh_15 : decode cX0_weigh 15 = .ok (.putfield 28, 3) := by decide +kernel
theorem dX0_weigh_18 : decode cX0_weigh 18 = .ok (.iload_n 2, 1) := by decide +kernel
theorem dX0_weigh_19 : decode cX0_weigh 19 = .ok (.iconst 4, 1) := by decide +kernel
theorem dX0_weigh_20 : decode cX0_weigh 20 = .ok (.idiv, 1) := by decide +kernel
theorem dX0_weigh_21 : decode cX0_weigh 21 = .ok (.iload_n 3, 1) := by decide +kernel
theorem dX0_weigh_22 : decode cX0_weigh 22 = .ok (.if_icmp .ne 11, 3) := by decide +kernel
theorem dX0_weigh_25 : decode cX0_weigh 25 = .ok (.aload_n 0, 1) := by decide +kernel
theorem dX0_weigh_26 : decode cX0_weigh 26 = .ok (.lconst 1, 1) := by decide +kernel
theorem dX0_weigh_27 : decode cX0_weigh 27 = .ok (.putfield 24, 3) := by decide +kernel
theorem dX0_weigh_30 : decode cX0_weigh 30 = .ok (.goto 10, 3) := by decide +kernel
theorem dX0_weigh_33 : decode cX0_weigh 33 = .ok (.aload_n 0, 1) := by decide +kernel
theorem dX0_weigh_34 : decode cX0_weigh 34 = .ok (.getfield 9, 3) := by decide +kernel
theorem dX0_weigh_37 : decode cX0_weigh 37 = .ok (.iload_n 2, 1) := by decide +kernel
theorem dX0_weigh_38 : decode cX0_weigh 38 = .ok (.lconst 1, 1) := by decide +kernel
theorem dX0_weigh_39 : decode cX0_weigh 39 = .ok (.lastore, 1) := by decide +kernel
theorem dX0_weigh_40 : decode cX0_weigh 40 = .ok (.iconst 0, 1) := by decide +kernel
theorem dX0_weigh_41 : decode cX0_weigh 41 = .ok (.istore 5, 2) := by decide +kernel
theorem dX0_weigh_43 : decode cX0_weigh 43 = .ok (.iload 5, 2) := by decide +kernel
theorem dX0_weigh_45 : decode cX0_weigh 45 = .ok (.iload 4, 2) := by decide +kernel
theorem dX0_weigh_47 : decode cX0_weigh 47 = .ok (.if_icmp .ge 27, 3) := by decide +kernel
theorem dX0_weigh_50 : decode cX0_weigh 50 = .ok (.aload_n 0, 1) := by decide +kernel
theorem dX0_weigh_51 : decode cX0_weigh 51 = .ok (.aload_n 1, 1) := by decide +kernel
theorem dX0_weigh_52 : decode cX0_weigh 52 = .ok (.iload_n 3, 1) := by decide +kernel
theorem dX0_weigh_53 : decode cX0_weigh 53 = .ok (.invokevirtual 31, 3) := by decide +kernel
theorem dX0_weigh_56 : decode cX0_weigh 56 = .ok (.aload_n 0, 1) := by decide +kernel
theorem dX0_weigh_57 : decode cX0_weigh 57 = .ok (.dup, 1) := by decide +kernel
theorem dX0_weigh_58 : decode cX0_weigh 58 = .ok (.getfield 28, 3) := by decide +kernel
theorem dX0_weigh_61 : decode cX0_weigh 61 = .ok (.ldc2_w 35, 3) := by decide +kernel
theorem dX0_weigh_64 : decode cX0_weigh 64 = .ok (.lmul, 1) := by decide +kernel
theorem dX0_weigh_65 : decode cX0_weigh 65 = .ok (.putfield 28, 3) := by decide +kernel
theorem dX0_weigh_68 : decode cX0_weigh 68 = .ok (.iinc 5 1, 3) := by decide +kernel
theorem dX0_weigh_71 : decode cX0_weigh 71 = .ok (.goto (-28), 3) := by decide +kernel
theorem dX0_weigh_74 : decode cX0_weigh 74 = .ok (.aload_n 0, 1) := by decide +kernel
theorem dX0_weigh_75 : decode cX0_weigh 75 = .ok (.aload_n 0, 1) := by decide +kernel
theorem dX0_weigh_76 : decode cX0_weigh 76 = .ok (.getfield 24, 3) := by decide +kernel
theorem dX0_weigh_79 : decode cX0_weigh 79 = .ok (.putfield 37, 3) := by decide +kernel
theorem dX0_weigh_82 : decode cX0_weigh 82 = .ok (.iconst 0, 1) := by decide +kernel
theorem dX0_weigh_83 : decode cX0_weigh 83 = .ok (.istore 5, 2) := by decide +kernel
theorem dX0_weigh_85 : decode cX0_weigh 85 = .ok (.iload 5, 2) := by decide +kernel
theorem dX0_weigh_87 : decode cX0_weigh 87 = .ok (.iconst 2, 1) := by decide +kernel
theorem dX0_weigh_88 : decode cX0_weigh 88 = .ok (.iload 4, 2) := by decide +kernel
theorem dX0_weigh_90 : decode cX0_weigh 90 = .ok (.imul, 1) := by decide +kernel
theorem dX0_weigh_91 : decode cX0_weigh 91 = .ok (.if_icmp .ge 46, 3) := by decide +kernel
theorem dX0_weigh_94 : decode cX0_weigh 94 = .ok (.aload_n 0, 1) := by decide +kernel
theorem dX0_weigh_95 : decode cX0_weigh 95 = .ok (.getfield 37, 3) := by decide +kernel
theorem dX0_weigh_98 : decode cX0_weigh 98 = .ok (.ldc2_w 40, 3) := by decide +kernel
theorem dX0_weigh_101 : decode cX0_weigh 101 = .ok (.lrem, 1) := by decide +kernel
theorem dX0_weigh_102 : decode cX0_weigh 102 = .ok (.lconst 0, 1) := by decide +kernel
theorem dX0_weigh_103 : decode cX0_weigh 103 = .ok (.lcmp, 1) := by decide +kernel
theorem dX0_weigh_104 : decode cX0_weigh 104 = .ok (.ifCond .ne 33, 3) := by decide +kernel
theorem dX0_weigh_107 : decode cX0_weigh 107 = .ok (.aload_n 0, 1) := by decide +kernel
theorem dX0_weigh_108 : decode cX0_weigh 108 = .ok (.dup, 1) := by decide +kernel
theorem dX0_weigh_109 : decode cX0_weigh 109 = .ok (.getfield 37, 3) := by decide +kernel
theorem dX0_weigh_112 : decode cX0_weigh 112 = .ok (.ldc2_w 40, 3) := by decide +kernel
theorem dX0_weigh_115 : decode cX0_weigh 115 = .ok (.ldiv, 1) := by decide +kernel
theorem dX0_weigh_116 : decode cX0_weigh 116 = .ok (.putfield 37, 3) := by decide +kernel
theorem dX0_weigh_119 : decode cX0_weigh 119 = .ok (.aload_n 0, 1) := by decide +kernel
theorem dX0_weigh_120 : decode cX0_weigh 120 = .ok (.dup, 1) := by decide +kernel
theorem dX0_weigh_121 : decode cX0_weigh 121 = .ok (.getfield 28, 3) := by decide +kernel
theorem dX0_weigh_124 : decode cX0_weigh 124 = .ok (.ldc2_w 40, 3) := by decide +kernel
theorem dX0_weigh_127 : decode cX0_weigh 127 = .ok (.ldiv, 1) := by decide +kernel
theorem dX0_weigh_128 : decode cX0_weigh 128 = .ok (.putfield 28, 3) := by decide +kernel
theorem dX0_weigh_131 : decode cX0_weigh 131 = .ok (.iinc 5 1, 3) := by decide +kernel
theorem dX0_weigh_134 : decode cX0_weigh 134 = .ok (.goto (-49), 3) := by decide +kernel
theorem dX0_weigh_137 : decode cX0_weigh 137 = .ok (.return_, 1) := by decide +kernel
theorem dX0_goStep_0 : decode cX0_goStep 0 = .ok (.aload_n 0, 1) := by decide +kernel
theorem dX0_goStep_1 : decode cX0_goStep 1 = .ok (.getfield 15, 3) := by decide +kernel
theorem dX0_goStep_4 : decode cX0_goStep 4 = .ok (.lconst 0, 1) := by decide +kernel
theorem dX0_goStep_5 : decode cX0_goStep 5 = .ok (.invokestatic 18, 3) := by decide +kernel
theorem dX0_goStep_8 : decode cX0_goStep 8 = .ok (.aload_n 0, 1) := by decide +kernel
theorem dX0_goStep_9 : decode cX0_goStep 9 = .ok (.dup, 1) := by decide +kernel
theorem dX0_goStep_10 : decode cX0_goStep 10 = .ok (.getfield 24, 3) := by decide +kernel
theorem dX0_goStep_13 : decode cX0_goStep 13 = .ok (.ldc2_w 35, 3) := by decide +kernel
theorem dX0_goStep_16 : decode cX0_goStep 16 = .ok (.lmul, 1) := by decide +kernel
theorem dX0_goStep_17 : decode cX0_goStep 17 = .ok (.putfield 24, 3) := by decide +kernel
theorem dX0_goStep_20 : decode cX0_goStep 20 = .ok (.iconst 0, 1) := by decide +kernel
theorem dX0_goStep_21 : decode cX0_goStep 21 = .ok (.istore_n 3, 1) := by decide +kernel
theorem dX0_goStep_22 : decode cX0_goStep 22 = .ok (.iload_n 3, 1) := by decide +kernel
theorem dX0_goStep_23 : decode cX0_goStep 23 = .ok (.sipush 144, 3) := by decide +kernel
theorem dX0_goStep_26 : decode cX0_goStep 26 = .ok (.if_icmp .ge 27, 3) := by decide +kernel
theorem dX0_goStep_29 : decode cX0_goStep 29 = .ok (.aload_n 0, 1) := by decide +kernel
theorem dX0_goStep_30 : decode cX0_goStep 30 = .ok (.getfield 9, 3) := by decide +kernel
theorem dX0_goStep_33 : decode cX0_goStep 33 = .ok (.iload_n 3, 1) := by decide +kernel
theorem dX0_goStep_34 : decode cX0_goStep 34 = .ok (.laload, 1) := by decide +kernel
theorem dX0_goStep_35 : decode cX0_goStep 35 = .ok (.lconst 0, 1) := by decide +kernel
theorem dX0_goStep_36 : decode cX0_goStep 36 = .ok (.lcmp, 1) := by decide +kernel
theorem dX0_goStep_37 : decode cX0_goStep 37 = .ok (.ifCond .le 10, 3) := by decide +kernel
theorem dX0_goStep_40 : decode cX0_goStep 40 = .ok (.aload_n 0, 1) := by decide +kernel
theorem dX0_goStep_41 : decode cX0_goStep 41 = .ok (.aload_n 1, 1) := by decide +kernel
theorem dX0_goStep_42 : decode cX0_goStep 42 = .ok (.iload_n 3, 1) := by decide +kernel
theorem dX0_goStep_43 : decode cX0_goStep 43 = .ok (.iload_n 2, 1) := by decide +kernel
theorem dX0_goStep_44 : decode cX0_goStep 44 = .ok (.invokevirtual 42, 3) := by decide +kernel
theorem dX0_goStep_47 : decode cX0_goStep 47 = .ok (.iinc 3 1, 3) := by decide +kernel
theorem dX0_goStep_50 : decode cX0_goStep 50 = .ok (.goto (-28), 3) := by decide +kernel
theorem dX0_goStep_53 : decode cX0_goStep 53 = .ok (.aload_n 0, 1) := by decide +kernel
theorem dX0_goStep_54 : decode cX0_goStep 54 = .ok (.getfield 15, 3) := by decide +kernel
theorem dX0_goStep_57 : decode cX0_goStep 57 = .ok (.iconst 0, 1) := by decide +kernel
theorem dX0_goStep_58 : decode cX0_goStep 58 = .ok (.aload_n 0, 1) := by decide +kernel
theorem dX0_goStep_59 : decode cX0_goStep 59 = .ok (.getfield 9, 3) := by decide +kernel
theorem dX0_goStep_62 : decode cX0_goStep 62 = .ok (.iconst 0, 1) := by decide +kernel
theorem dX0_goStep_63 : decode cX0_goStep 63 = .ok (.sipush 144, 3) := by decide +kernel
theorem dX0_goStep_66 : decode cX0_goStep 66 = .ok (.invokestatic 46, 3) := by decide +kernel
theorem dX0_goStep_69 : decode cX0_goStep 69 = .ok (.return_, 1) := by decide +kernel
theorem dX0_spread_0 : decode cX0_spread 0 = .ok (.iload_n 2, 1) := by decide +kernel
theorem dX0_spread_1 : decode cX0_spread 1 = .ok (.iconst 4, 1) := by decide +kernel
theorem dX0_spread_2 : decode cX0_spread 2 = .ok (.irem, 1) := by decide +kernel
theorem dX0_spread_3 : decode cX0_spread 3 = .ok (.istore 4, 2) := by decide +kernel
theorem dX0_spread_5 : decode cX0_spread 5 = .ok (.iload_n 2, 1) := by decide +kernel
theorem dX0_spread_6 : decode cX0_spread 6 = .ok (.iconst 4, 1) := by decide +kernel
theorem dX0_spread_7 : decode cX0_spread 7 = .ok (.idiv, 1) := by decide +kernel
theorem dX0_spread_8 : decode cX0_spread 8 = .ok (.istore 5, 2) := by decide +kernel
theorem dX0_spread_10 : decode cX0_spread 10 = .ok (.aload_n 1, 1) := by decide +kernel
theorem dX0_spread_11 : decode cX0_spread 11 = .ok (.iload 5, 2) := by decide +kernel
theorem dX0_spread_13 : decode cX0_spread 13 = .ok (.iload 4, 2) := by decide +kernel
theorem dX0_spread_15 : decode cX0_spread 15 = .ok (.invokevirtual 52, 3) := by decide +kernel
theorem dX0_spread_18 : decode cX0_spread 18 = .ok (.istore 6, 2) := by decide +kernel
theorem dX0_spread_20 : decode cX0_spread 20 = .ok (.iload 6, 2) := by decide +kernel
theorem dX0_spread_22 : decode cX0_spread 22 = .ok (.iload_n 3, 1) := by decide +kernel
theorem dX0_spread_23 : decode cX0_spread 23 = .ok (.if_icmp .ne 25, 3) := by decide +kernel
theorem dX0_spread_26 : decode cX0_spread 26 = .ok (.aload_n 0, 1) := by decide +kernel
theorem dX0_spread_27 : decode cX0_spread 27 = .ok (.dup, 1) := by decide +kernel
theorem dX0_spread_28 : decode cX0_spread 28 = .ok (.getfield 24, 3) := by decide +kernel
theorem dX0_spread_31 : decode cX0_spread 31 = .ok (.ldc2_w 35, 3) := by decide +kernel
theorem dX0_spread_34 : decode cX0_spread 34 = .ok (.aload_n 0, 1) := by decide +kernel
theorem dX0_spread_35 : decode cX0_spread 35 = .ok (.getfield 9, 3) := by decide +kernel
theorem dX0_spread_38 : decode cX0_spread 38 = .ok (.iload_n 2, 1) := by decide +kernel
theorem dX0_spread_39 : decode cX0_spread 39 = .ok (.laload, 1) := by decide +kernel
theorem dX0_spread_40 : decode cX0_spread 40 = .ok (.lmul, 1) := by decide +kernel
theorem dX0_spread_41 : decode cX0_spread 41 = .ok (.ladd, 1) := by decide +kernel
theorem dX0_spread_42 : decode cX0_spread 42 = .ok (.putfield 24, 3) := by decide +kernel
theorem dX0_spread_45 : decode cX0_spread 45 = .ok (.goto 72, 3) := by decide +kernel
theorem dX0_spread_48 : decode cX0_spread 48 = .ok (.iload 6, 2) := by decide +kernel
theorem dX0_spread_50 : decode cX0_spread 50 = .ok (.ifCond .lt 31, 3) := by decide +kernel
theorem dX0_spread_53 : decode cX0_spread 53 = .ok (.aload_n 0, 1) := by decide +kernel
theorem dX0_spread_54 : decode cX0_spread 54 = .ok (.getfield 15, 3) := by decide +kernel
theorem dX0_spread_57 : decode cX0_spread 57 = .ok (.iload 6, 2) := by decide +kernel
theorem dX0_spread_59 : decode cX0_spread 59 = .ok (.iconst 4, 1) := by decide +kernel
theorem dX0_spread_60 : decode cX0_spread 60 = .ok (.imul, 1) := by decide +kernel
theorem dX0_spread_61 : decode cX0_spread 61 = .ok (.iload 4, 2) := by decide +kernel
theorem dX0_spread_63 : decode cX0_spread 63 = .ok (.iadd, 1) := by decide +kernel
theorem dX0_spread_64 : decode cX0_spread 64 = .ok (.dup2, 1) := by decide +kernel
theorem dX0_spread_65 : decode cX0_spread 65 = .ok (.laload, 1) := by decide +kernel
theorem dX0_spread_66 : decode cX0_spread 66 = .ok (.ldc2_w 35, 3) := by decide +kernel
theorem dX0_spread_69 : decode cX0_spread 69 = .ok (.aload_n 0, 1) := by decide +kernel
theorem dX0_spread_70 : decode cX0_spread 70 = .ok (.getfield 9, 3) := by decide +kernel
theorem dX0_spread_73 : decode cX0_spread 73 = .ok (.iload_n 2, 1) := by decide +kernel
theorem dX0_spread_74 : decode cX0_spread 74 = .ok (.laload, 1) := by decide +kernel
theorem dX0_spread_75 : decode cX0_spread 75 = .ok (.lmul, 1) := by decide +kernel
theorem dX0_spread_76 : decode cX0_spread 76 = .ok (.ladd, 1) := by decide +kernel
theorem dX0_spread_77 : decode cX0_spread 77 = .ok (.lastore, 1) := by decide +kernel
theorem dX0_spread_78 : decode cX0_spread 78 = .ok (.goto 39, 3) := by decide +kernel
theorem dX0_spread_81 : decode cX0_spread 81 = .ok (.iconst 0, 1) := by decide +kernel
theorem dX0_spread_82 : decode cX0_spread 82 = .ok (.istore 7, 2) := by decide +kernel
theorem dX0_spread_84 : decode cX0_spread 84 = .ok (.iload 7, 2) := by decide +kernel
theorem dX0_spread_86 : decode cX0_spread 86 = .ok (.iconst 4, 1) := by decide +kernel
theorem dX0_spread_87 : decode cX0_spread 87 = .ok (.if_icmp .ge 30, 3) := by decide +kernel
theorem dX0_spread_90 : decode cX0_spread 90 = .ok (.aload_n 0, 1) := by decide +kernel
theorem dX0_spread_91 : decode cX0_spread 91 = .ok (.getfield 15, 3) := by decide +kernel
theorem dX0_spread_94 : decode cX0_spread 94 = .ok (.iload 5, 2) := by decide +kernel
theorem dX0_spread_96 : decode cX0_spread 96 = .ok (.iconst 4, 1) := by decide +kernel
theorem dX0_spread_97 : decode cX0_spread 97 = .ok (.imul, 1) := by decide +kernel
theorem dX0_spread_98 : decode cX0_spread 98 = .ok (.iload 7, 2) := by decide +kernel
theorem dX0_spread_100 : decode cX0_spread 100 = .ok (.iadd, 1) := by decide +kernel
theorem dX0_spread_101 : decode cX0_spread 101 = .ok (.dup2, 1) := by decide +kernel
theorem dX0_spread_102 : decode cX0_spread 102 = .ok (.laload, 1) := by decide +kernel
theorem dX0_spread_103 : decode cX0_spread 103 = .ok (.aload_n 0, 1) := by decide +kernel
theorem dX0_spread_104 : decode cX0_spread 104 = .ok (.getfield 9, 3) := by decide +kernel
theorem dX0_spread_107 : decode cX0_spread 107 = .ok (.iload_n 2, 1) := by decide +kernel
theorem dX0_spread_108 : decode cX0_spread 108 = .ok (.laload, 1) := by decide +kernel
theorem dX0_spread_109 : decode cX0_spread 109 = .ok (.ladd, 1) := by decide +kernel
theorem dX0_spread_110 : decode cX0_spread 110 = .ok (.lastore, 1) := by decide +kernel
theorem dX0_spread_111 : decode cX0_spread 111 = .ok (.iinc 7 1, 3) := by decide +kernel
theorem dX0_spread_114 : decode cX0_spread 114 = .ok (.goto (-30), 3) := by decide +kernel
theorem dX0_spread_117 : decode cX0_spread 117 = .ok (.return_, 1) := by decide +kernel
theorem dX1_init_0 : decode cX1_init 0 = .ok (.aload_n 0, 1) := by decide +kernel
theorem dX1_init_1 : decode cX1_init 1 = .ok (.invokespecial 3, 3) := by decide +kernel
theorem dX1_init_4 : decode cX1_init 4 = .ok (.aload_n 0, 1) := by decide +kernel
theorem dX1_init_5 : decode cX1_init 5 = .ok (.bipush 121, 2) := by decide +kernel
theorem dX1_init_7 : decode cX1_init 7 = .ok (.newarray .int, 2) := by decide +kernel
theorem dX1_init_9 : decode cX1_init 9 = .ok (.putfield 9, 3) := by decide +kernel
theorem dX1_init_12 : decode cX1_init 12 = .ok (.aload_n 0, 1) := by decide +kernel
theorem dX1_init_13 : decode cX1_init 13 = .ok (.bipush 36, 2) := by decide +kernel
theorem dX1_init_15 : decode cX1_init 15 = .ok (.newarray .int, 2) := by decide +kernel
theorem dX1_init_17 : decode cX1_init 17 = .ok (.putfield 15, 3) := by decide +kernel
theorem dX1_init_20 : decode cX1_init 20 = .ok (.return_, 1) := by decide +kernel
theorem dX1_draw_0 : decode cX1_draw 0 = .ok (.aload_n 0, 1) := by decide +kernel
theorem dX1_draw_1 : decode cX1_draw 1 = .ok (.aload_n 1, 1) := by decide +kernel
theorem dX1_draw_2 : decode cX1_draw 2 = .ok (.iconst 0, 1) := by decide +kernel
theorem dX1_draw_3 : decode cX1_draw 3 = .ok (.invokevirtual 18, 3) := by decide +kernel
theorem dX1_draw_6 : decode cX1_draw 6 = .ok (.invokevirtual 24, 3) := by decide +kernel
theorem dX1_draw_9 : decode cX1_draw 9 = .ok (.aload_n 1, 1) := by decide +kernel
theorem dX1_draw_10 : decode cX1_draw 10 = .ok (.iconst 0, 1) := by decide +kernel
theorem dX1_draw_11 : decode cX1_draw 11 = .ok (.invokevirtual 18, 3) := by decide +kernel
theorem dX1_draw_14 : decode cX1_draw 14 = .ok (.istore 4, 2) := by decide +kernel
theorem dX1_draw_16 : decode cX1_draw 16 = .ok (.iconst 0, 1) := by decide +kernel
theorem dX1_draw_17 : decode cX1_draw 17 = .ok (.istore 5, 2) := by decide +kernel
theorem dX1_draw_19 : decode cX1_draw 19 = .ok (.iload 5, 2) := by decide +kernel
theorem dX1_draw_21 : decode cX1_draw 21 = .ok (.aload_n 2, 1) := by decide +kernel
theorem dX1_draw_22 : decode cX1_draw 22 = .ok (.getfield 28, 3) := by decide +kernel
theorem dX1_draw_25 : decode cX1_draw 25 = .ok (.if_icmp .ge 72, 3) := by decide +kernel
theorem dX1_draw_28 : decode cX1_draw 28 = .ok (.aload_n 2, 1) := by decide +kernel
theorem dX1_draw_29 : decode cX1_draw 29 = .ok (.iload 5, 2) := by decide +kernel
theorem dX1_draw_31 : decode cX1_draw 31 = .ok (.invokevirtual 34, 3) := by decide +kernel
theorem dX1_draw_34 : decode cX1_draw 34 = .ok (.istore 6, 2) := by decide +kernel
theorem dX1_draw_36 : decode cX1_draw 36 = .ok (.iload 6, 2) := by decide +kernel
theorem dX1_draw_38 : decode cX1_draw 38 = .ok (.ifCond .le 53, 3) := by decide +kernel
theorem dX1_draw_41 : decode cX1_draw 41 = .ok (.aload_n 0, 1) := by decide +kernel
theorem dX1_draw_42 : decode cX1_draw 42 = .ok (.getfield 37, 3) := by decide +kernel
theorem dX1_draw_45 : decode cX1_draw 45 = .ok (.iload_n 3, 1) := by decide +kernel
theorem dX1_draw_46 : decode cX1_draw 46 = .ok (.if_icmp .ge 18, 3) := by decide +kernel
theorem dX1_draw_49 : decode cX1_draw 49 = .ok (.aload_n 1, 1) := by decide +kernel
theorem dX1_draw_50 : decode cX1_draw 50 = .ok (.iload 4, 2) := by decide +kernel
theorem dX1_draw_52 : decode cX1_draw 52 = .ok (.aload_n 2, 1) := by decide +kernel
theorem dX1_draw_53 : decode cX1_draw 53 = .ok (.iload 5, 2) := by decide +kernel
theorem dX1_draw_55 : decode cX1_draw 55 = .ok (.invokevirtual 40, 3) := by decide +kernel
theorem dX1_draw_58 : decode cX1_draw 58 = .ok (.invokevirtual 43, 3) := by decide +kernel
theorem dX1_draw_61 : decode cX1_draw 61 = .ok (.goto 5, 3) := by decide +kernel
theorem dX1_draw_64 : decode cX1_draw 64 = .ok (.bipush (-4), 2) := by decide +kernel
theorem dX1_draw_66 : decode cX1_draw 66 = .ok (.istore 4, 2) := by decide +kernel
theorem dX1_draw_68 : decode cX1_draw 68 = .ok (.iload 4, 2) := by decide +kernel
theorem dX1_draw_70 : decode cX1_draw 70 = .ok (.ifCond .ge 4, 3) := by decide +kernel
theorem dX1_draw_73 : decode cX1_draw 73 = .ok (.return_, 1) := by decide +kernel
theorem dX1_draw_74 : decode cX1_draw 74 = .ok (.aload_n 0, 1) := by decide +kernel
theorem dX1_draw_75 : decode cX1_draw 75 = .ok (.iload 4, 2) := by decide +kernel
theorem dX1_draw_77 : decode cX1_draw 77 = .ok (.aload_n 1, 1) := by decide +kernel
theorem dX1_draw_78 : decode cX1_draw 78 = .ok (.iconst 5, 1) := by decide +kernel
theorem dX1_draw_79 : decode cX1_draw 79 = .ok (.invokevirtual 18, 3) := by decide +kernel
theorem dX1_draw_82 : decode cX1_draw 82 = .ok (.invokevirtual 47, 3) := by decide +kernel
theorem dX1_draw_85 : decode cX1_draw 85 = .ok (.iinc 6 (-1), 3) := by decide +kernel
theorem dX1_draw_88 : decode cX1_draw 88 = .ok (.goto (-52), 3) := by decide +kernel
theorem dX1_draw_91 : decode cX1_draw 91 = .ok (.iinc 5 1, 3) := by decide +kernel
theorem dX1_draw_94 : decode cX1_draw 94 = .ok (.goto (-75), 3) := by decide +kernel
theorem dX1_draw_97 : decode cX1_draw 97 = .ok (.return_, 1) := by decide +kernel
theorem dX1_startAt_0 : decode cX1_startAt 0 = .ok (.aload_n 0, 1) := by decide +kernel
theorem dX1_startAt_1 : decode cX1_startAt 1 = .ok (.getfield 15, 3) := by decide +kernel
theorem dX1_startAt_4 : decode cX1_startAt 4 = .ok (.iconst 0, 1) := by decide +kernel
theorem dX1_startAt_5 : decode cX1_startAt 5 = .ok (.invokestatic 51, 3) := by decide +kernel
theorem dX1_startAt_8 : decode cX1_startAt 8 = .ok (.aload_n 0, 1) := by decide +kernel
theorem dX1_startAt_9 : decode cX1_startAt 9 = .ok (.iconst 0, 1) := by decide +kernel
theorem dX1_startAt_10 : decode cX1_startAt 10 = .ok (.putfield 57, 3) := by decide +kernel
theorem dX1_startAt_13 : decode cX1_startAt 13 = .ok (.aload_n 0, 1) := by decide +kernel
theorem dX1_startAt_14 : decode cX1_startAt 14 = .ok (.iconst 0, 1) := by decide +kernel
theorem dX1_startAt_15 : decode cX1_startAt 15 = .ok (.putfield 37, 3) := by decide +kernel
theorem dX1_startAt_18 : decode cX1_startAt 18 = .ok (.aload_n 0, 1) := by decide +kernel
theorem dX1_startAt_19 : decode cX1_startAt 19 = .ok (.iconst 0, 1) := by decide +kernel
theorem dX1_startAt_20 : decode cX1_startAt 20 = .ok (.putfield 58, 3) := by decide +kernel
theorem dX1_startAt_23 : decode cX1_startAt 23 = .ok (.aload_n 0, 1) := by decide +kernel
theorem dX1_startAt_24 : decode cX1_startAt 24 = .ok (.iconst 0, 1) := by decide +kernel
theorem dX1_startAt_25 : decode cX1_startAt 25 = .ok (.putfield 61, 3) := by decide +kernel
theorem dX1_startAt_28 : decode cX1_startAt 28 = .ok (.aload_n 0, 1) := by decide +kernel
theorem dX1_startAt_29 : decode cX1_startAt 29 = .ok (.iconst 0, 1) := by decide +kernel
theorem dX1_startAt_30 : decode cX1_startAt 30 = .ok (.putfield 64, 3) := by decide +kernel
theorem dX1_startAt_33 : decode cX1_startAt 33 = .ok (.aload_n 0, 1) := by decide +kernel
theorem dX1_startAt_34 : decode cX1_startAt 34 = .ok (.iconst 0, 1) := by decide +kernel
theorem dX1_startAt_35 : decode cX1_startAt 35 = .ok (.putfield 67, 3) := by decide +kernel
theorem dX1_startAt_38 : decode cX1_startAt 38 = .ok (.aload_n 0, 1) := by decide +kernel
theorem dX1_startAt_39 : decode cX1_startAt 39 = .ok (.iload_n 1, 1) := by decide +kernel
theorem dX1_startAt_40 : decode cX1_startAt 40 = .ok (.invokevirtual 70, 3) := by decide +kernel
theorem dX1_startAt_43 : decode cX1_startAt 43 = .ok (.return_, 1) := by decide +kernel
theorem dX1_layOn_0 : decode cX1_layOn 0 = .ok (.iload_n 1, 1) := by decide +kernel
theorem dX1_layOn_1 : decode cX1_layOn 1 = .ok (.invokestatic 73, 3) := by decide +kernel
theorem dX1_layOn_4 : decode cX1_layOn 4 = .ok (.ifCond .eq 45, 3) := by decide +kernel
theorem dX1_layOn_7 : decode cX1_layOn 7 = .ok (.aload_n 0, 1) := by decide +kernel
theorem dX1_layOn_8 : decode cX1_layOn 8 = .ok (.getfield 57, 3) := by decide +kernel
theorem dX1_layOn_11 : decode cX1_layOn 11 = .ok (.aload_n 0, 1) := by decide +kernel
theorem dX1_layOn_12 : decode cX1_layOn 12 = .ok (.getfield 9, 3) := by decide +kernel
theorem dX1_layOn_15 : decode cX1_layOn 15 = .ok (.arraylength, 1) := by decide +kernel
theorem dX1_layOn_16 : decode cX1_layOn 16 = .ok (.if_icmp .ge 33, 3) := by decide +kernel
theorem dX1_layOn_19 : decode cX1_layOn 19 = .ok (.aload_n 0, 1) := by decide +kernel
theorem dX1_layOn_20 : decode cX1_layOn 20 = .ok (.getfield 9, 3) := by decide +kernel
theorem dX1_layOn_23 : decode cX1_layOn 23 = .ok (.aload_n 0, 1) := by decide +kernel
theorem dX1_layOn_24 : decode cX1_layOn 24 = .ok (.getfield 57, 3) := by decide +kernel
theorem dX1_layOn_27 : decode cX1_layOn 27 = .ok (.iload_n 1, 1) := by decide +kernel
theorem dX1_layOn_28 : decode cX1_layOn 28 = .ok (.iastore, 1) := by decide +kernel
theorem dX1_layOn_29 : decode cX1_layOn 29 = .ok (.aload_n 0, 1) := by decide +kernel
theorem dX1_layOn_30 : decode cX1_layOn 30 = .ok (.dup, 1) := by decide +kernel
theorem dX1_layOn_31 : decode cX1_layOn 31 = .ok (.getfield 57, 3) := by decide +kernel
theorem dX1_layOn_34 : decode cX1_layOn 34 = .ok (.iconst 1, 1) := by decide +kernel
theorem dX1_layOn_35 : decode cX1_layOn 35 = .ok (.iadd, 1) := by decide +kernel
theorem dX1_layOn_36 : decode cX1_layOn 36 = .ok (.putfield 57, 3) := by decide +kernel
theorem dX1_layOn_39 : decode cX1_layOn 39 = .ok (.aload_n 0, 1) := by decide +kernel
theorem dX1_layOn_40 : decode cX1_layOn 40 = .ok (.getfield 15, 3) := by decide +kernel
theorem dX1_layOn_43 : decode cX1_layOn 43 = .ok (.iload_n 1, 1) := by decide +kernel
theorem dX1_layOn_44 : decode cX1_layOn 44 = .ok (.dup2, 1) := by decide +kernel
theorem dX1_layOn_45 : decode cX1_layOn 45 = .ok (.iaload, 1) := by decide +kernel
theorem dX1_layOn_46 : decode cX1_layOn 46 = .ok (.iconst 1, 1) := by decide +kernel
theorem dX1_layOn_47 : decode cX1_layOn 47 = .ok (.iadd, 1) := by decide +kernel
theorem dX1_layOn_48 : decode cX1_layOn 48 = .ok (.iastore, 1) := by decide +kernel
theorem dX1_layOn_49 : decode cX1_layOn 49 = .ok (.return_, 1) := by decide +kernel
theorem dX1_drawTo_0 : decode cX1_drawTo 0 = .ok (.aload_n 0, 1) := by decide +kernel
theorem dX1_drawTo_1 : decode cX1_drawTo 1 = .ok (.dup, 1) := by decide +kernel
theorem dX1_drawTo_2 : decode cX1_drawTo 2 = .ok (.getfield 37, 3) := by decide +kernel
theorem dX1_drawTo_5 : decode cX1_drawTo 5 = .ok (.iconst 1, 1) := by decide +kernel
theorem dX1_drawTo_6 : decode cX1_drawTo 6 = .ok (.iadd, 1) := by decide +kernel
theorem dX1_drawTo_7 : decode cX1_drawTo 7 = .ok (.putfield 37, 3) := by decide +kernel
theorem dX1_drawTo_10 : decode cX1_drawTo 10 = .ok (.aload_n 0, 1) := by decide +kernel
theorem dX1_drawTo_11 : decode cX1_drawTo 11 = .ok (.getfield 57, 3) := by decide +kernel
theorem dX1_drawTo_14 : decode cX1_drawTo 14 = .ok (.iconst 2, 1) := by decide +kernel
theorem dX1_drawTo_15 : decode cX1_drawTo 15 = .ok (.if_icmp .lt 49, 3) := by decide +kernel
theorem dX1_drawTo_18 : decode cX1_drawTo 18 = .ok (.aload_n 0, 1) := by decide +kernel
theorem dX1_drawTo_19 : decode cX1_drawTo 19 = .ok (.getfield 9, 3) := by decide +kernel
theorem dX1_drawTo_22 : decode cX1_drawTo 22 = .ok (.aload_n 0, 1) := by decide +kernel
theorem dX1_drawTo_23 : decode cX1_drawTo 23 = .ok (.getfield 57, 3) := by decide +kernel
theorem dX1_drawTo_26 : decode cX1_drawTo 26 = .ok (.iconst 2, 1) := by decide +kernel
theorem dX1_drawTo_27 : decode cX1_drawTo 27 = .ok (.isub, 1) := by decide +kernel
theorem dX1_drawTo_28 : decode cX1_drawTo 28 = .ok (.iaload, 1) := by decide +kernel
theorem dX1_drawTo_29 : decode cX1_drawTo 29 = .ok (.iload_n 1, 1) := by decide +kernel
theorem dX1_drawTo_30 : decode cX1_drawTo 30 = .ok (.if_icmp .ne 34, 3) := by decide +kernel
theorem dX1_drawTo_33 : decode cX1_drawTo 33 = .ok (.aload_n 0, 1) := by decide +kernel
theorem dX1_drawTo_34 : decode cX1_drawTo 34 = .ok (.dup, 1) := by decide +kernel
theorem dX1_drawTo_35 : decode cX1_drawTo 35 = .ok (.getfield 57, 3) := by decide +kernel
theorem dX1_drawTo_38 : decode cX1_drawTo 38 = .ok (.iconst 1, 1) := by decide +kernel
theorem dX1_drawTo_39 : decode cX1_drawTo 39 = .ok (.isub, 1) := by decide +kernel
theorem dX1_drawTo_40 : decode cX1_drawTo 40 = .ok (.putfield 57, 3) := by decide +kernel
theorem dX1_drawTo_43 : decode cX1_drawTo 43 = .ok (.aload_n 0, 1) := by decide +kernel
theorem dX1_drawTo_44 : decode cX1_drawTo 44 = .ok (.getfield 15, 3) := by decide +kernel
theorem dX1_drawTo_47 : decode cX1_drawTo 47 = .ok (.aload_n 0, 1) := by decide +kernel
theorem dX1_drawTo_48 : decode cX1_drawTo 48 = .ok (.getfield 9, 3) := by decide +kernel
theorem dX1_drawTo_51 : decode cX1_drawTo 51 = .ok (.aload_n 0, 1) := by decide +kernel
theorem dX1_drawTo_52 : decode cX1_drawTo 52 = .ok (.getfield 57, 3) := by decide +kernel
theorem dX1_drawTo_55 : decode cX1_drawTo 55 = .ok (.iaload, 1) := by decide +kernel
theorem dX1_drawTo_56 : decode cX1_drawTo 56 = .ok (.dup2, 1) := by decide +kernel
theorem dX1_drawTo_57 : decode cX1_drawTo 57 = .ok (.iaload, 1) := by decide +kernel
theorem dX1_drawTo_58 : decode cX1_drawTo 58 = .ok (.iconst 1, 1) := by decide +kernel
theorem dX1_drawTo_59 : decode cX1_drawTo 59 = .ok (.isub, 1) := by decide +kernel
theorem dX1_drawTo_60 : decode cX1_drawTo 60 = .ok (.iastore, 1) := by decide +kernel
theorem dX1_drawTo_61 : decode cX1_drawTo 61 = .ok (.goto 49, 3) := by decide +kernel
theorem dX1_drawTo_64 : decode cX1_drawTo 64 = .ok (.aload_n 0, 1) := by decide +kernel
theorem dX1_drawTo_65 : decode cX1_drawTo 65 = .ok (.getfield 15, 3) := by decide +kernel
theorem dX1_drawTo_68 : decode cX1_drawTo 68 = .ok (.iload_n 1, 1) := by decide +kernel
theorem dX1_drawTo_69 : decode cX1_drawTo 69 = .ok (.iaload, 1) := by decide +kernel
theorem dX1_drawTo_70 : decode cX1_drawTo 70 = .ok (.ifCond .le 35, 3) := by decide +kernel
theorem dX1_drawTo_73 : decode cX1_drawTo 73 = .ok (.aload_n 0, 1) := by decide +kernel
theorem dX1_drawTo_74 : decode cX1_drawTo 74 = .ok (.dup, 1) := by decide +kernel
theorem dX1_drawTo_75 : decode cX1_drawTo 75 = .ok (.getfield 58, 3) := by decide +kernel
theorem dX1_drawTo_78 : decode cX1_drawTo 78 = .ok (.iconst 1, 1) := by decide +kernel
theorem dX1_drawTo_79 : decode cX1_drawTo 79 = .ok (.iadd, 1) := by decide +kernel
theorem dX1_drawTo_80 : decode cX1_drawTo 80 = .ok (.putfield 58, 3) := by decide +kernel
theorem dX1_drawTo_83 : decode cX1_drawTo 83 = .ok (.aload_n 0, 1) := by decide +kernel
theorem dX1_drawTo_84 : decode cX1_drawTo 84 = .ok (.aload_n 0, 1) := by decide +kernel
theorem dX1_drawTo_85 : decode cX1_drawTo 85 = .ok (.getfield 64, 3) := by decide +kernel
theorem dX1_drawTo_88 : decode cX1_drawTo 88 = .ok (.ifCond .ne 10, 3) := by decide +kernel
theorem dX1_drawTo_91 : decode cX1_drawTo 91 = .ok (.aload_n 0, 1) := by decide +kernel
theorem dX1_drawTo_92 : decode cX1_drawTo 92 = .ok (.getfield 37, 3) := by decide +kernel
theorem dX1_drawTo_95 : decode cX1_drawTo 95 = .ok (.goto 7, 3) := by decide +kernel
theorem dX1_drawTo_98 : decode cX1_drawTo 98 = .ok (.aload_n 0, 1) := by decide +kernel
theorem dX1_drawTo_99 : decode cX1_drawTo 99 = .ok (.getfield 64, 3) := by decide +kernel
theorem dX1_drawTo_102 : decode cX1_drawTo 102 = .ok (.putfield 64, 3) := by decide +kernel
theorem dX1_drawTo_105 : decode cX1_drawTo 105 = .ok (.aload_n 0, 1) := by decide +kernel
theorem dX1_drawTo_106 : decode cX1_drawTo 106 = .ok (.iload_n 1, 1) := by decide +kernel
theorem dX1_drawTo_107 : decode cX1_drawTo 107 = .ok (.invokevirtual 70, 3) := by decide +kernel
theorem dX1_drawTo_110 : decode cX1_drawTo 110 = .ok (.aload_n 0, 1) := by decide +kernel
theorem dX1_drawTo_111 : decode cX1_drawTo 111 = .ok (.aload_n 0, 1) := by decide +kernel
theorem dX1_drawTo_112 : decode cX1_drawTo 112 = .ok (.getfield 61, 3) := by decide +kernel
theorem dX1_drawTo_115 : decode cX1_drawTo 115 = .ok (.aload_n 0, 1) := by decide +kernel
theorem dX1_drawTo_116 : decode cX1_drawTo 116 = .ok (.getfield 57, 3) := by decide +kernel
theorem dX1_drawTo_119 : decode cX1_drawTo 119 = .ok (.iconst 1, 1) := by decide +kernel
theorem dX1_drawTo_120 : decode cX1_drawTo 120 = .ok (.isub, 1) := by decide +kernel
theorem dX1_drawTo_121 : decode cX1_drawTo 121 = .ok (.invokestatic 77, 3) := by decide +kernel
theorem dX1_drawTo_124 : decode cX1_drawTo 124 = .ok (.putfield 61, 3) := by decide +kernel
theorem dX1_drawTo_127 : decode cX1_drawTo 127 = .ok (.aload_n 0, 1) := by decide +kernel
theorem dX1_drawTo_128 : decode cX1_drawTo 128 = .ok (.getfield 57, 3) := by decide +kernel
theorem dX1_drawTo_131 : decode cX1_drawTo 131 = .ok (.iconst 1, 1) := by decide +kernel
theorem dX1_drawTo_132 : decode cX1_drawTo 132 = .ok (.isub, 1) := by decide +kernel
theorem dX1_drawTo_133 : decode cX1_drawTo 133 = .ok (.iload_n 2, 1) := by decide +kernel
theorem dX1_drawTo_134 : decode cX1_drawTo 134 = .ok (.if_icmp .le 18, 3) := by decide +kernel
theorem dX1_drawTo_137 : decode cX1_drawTo 137 = .ok (.aload_n 0, 1) := by decide +kernel
theorem dX1_drawTo_138 : decode cX1_drawTo 138 = .ok (.getfield 67, 3) := by decide +kernel
theorem dX1_drawTo_141 : decode cX1_drawTo 141 = .ok (.ifCond .ne 11, 3) := by decide +kernel
theorem dX1_drawTo_144 : decode cX1_drawTo 144 = .ok (.aload_n 0, 1) := by decide +kernel
theorem dX1_drawTo_145 : decode cX1_drawTo 145 = .ok (.aload_n 0, 1) := by decide +kernel
theorem dX1_drawTo_146 : decode cX1_drawTo 146 = .ok (.getfield 37, 3) := by decide +kernel
theorem dX1_drawTo_149 : decode cX1_drawTo 149 = .ok (.putfield 67, 3) := by decide +kernel
theorem dX1_drawTo_152 : decode cX1_drawTo 152 = .ok (.return_, 1) := by decide +kernel
theorem dX1_bits_0 : decode cX1_bits 0 = .ok (.lconst 0, 1) := by decide +kernel
theorem dX1_bits_1 : decode cX1_bits 1 = .ok (.lstore_n 1, 1) := by decide +kernel
theorem dX1_bits_2 : decode cX1_bits 2 = .ok (.iconst 0, 1) := by decide +kernel
theorem dX1_bits_3 : decode cX1_bits 3 = .ok (.istore_n 3, 1) := by decide +kernel
theorem dX1_bits_4 : decode cX1_bits 4 = .ok (.iload_n 3, 1) := by decide +kernel
theorem dX1_bits_5 : decode cX1_bits 5 = .ok (.bipush 36, 2) := by decide +kernel
theorem dX1_bits_7 : decode cX1_bits 7 = .ok (.if_icmp .ge 24, 3) := by decide +kernel
theorem dX1_bits_10 : decode cX1_bits 10 = .ok (.aload_n 0, 1) := by decide +kernel
theorem dX1_bits_11 : decode cX1_bits 11 = .ok (.getfield 15, 3) := by decide +kernel
theorem dX1_bits_14 : decode cX1_bits 14 = .ok (.iload_n 3, 1) := by decide +kernel
theorem dX1_bits_15 : decode cX1_bits 15 = .ok (.iaload, 1) := by decide +kernel
theorem dX1_bits_16 : decode cX1_bits 16 = .ok (.ifCond .le 9, 3) := by decide +kernel
theorem dX1_bits_19 : decode cX1_bits 19 = .ok (.lload_n 1, 1) := by decide +kernel
theorem dX1_bits_20 : decode cX1_bits 20 = .ok (.lconst 1, 1) := by decide +kernel
theorem dX1_bits_21 : decode cX1_bits 21 = .ok (.iload_n 3, 1) := by decide +kernel
theorem dX1_bits_22 : decode cX1_bits 22 = .ok (.lshl, 1) := by decide +kernel
theorem dX1_bits_23 : decode cX1_bits 23 = .ok (.lor, 1) := by decide +kernel
theorem dX1_bits_24 : decode cX1_bits 24 = .ok (.lstore_n 1, 1) := by decide +kernel
theorem dX1_bits_25 : decode cX1_bits 25 = .ok (.iinc 3 1, 3) := by decide +kernel
theorem dX1_bits_28 : decode cX1_bits 28 = .ok (.goto (-24), 3) := by decide +kernel
theorem dX1_bits_31 : decode cX1_bits 31 = .ok (.lload_n 1, 1) := by decide +kernel
theorem dX1_bits_32 : decode cX1_bits 32 = .ok (.lreturn, 1) := by decide +kernel
theorem dX2_init_0 : decode cX2_init 0 = .ok (.aload_n 0, 1) := by decide +kernel
theorem dX2_init_1 : decode cX2_init 1 = .ok (.invokespecial 3, 3) := by decide +kernel
theorem dX2_init_4 : decode cX2_init 4 = .ok (.aload_n 0, 1) := by decide +kernel
theorem dX2_init_5 : decode cX2_init 5 = .ok (.bipush 36, 2) := by decide +kernel
theorem dX2_init_7 : decode cX2_init 7 = .ok (.newarray .int, 2) := by decide +kernel
theorem dX2_init_9 : decode cX2_init 9 = .ok (.putfield 9, 3) := by decide +kernel
theorem dX2_init_12 : decode cX2_init 12 = .ok (.aload_n 0, 1) := by decide +kernel
theorem dX2_init_13 : decode cX2_init 13 = .ok (.bipush 36, 2) := by decide +kernel
theorem dX2_init_15 : decode cX2_init 15 = .ok (.newarray .int, 2) := by decide +kernel
theorem dX2_init_17 : decode cX2_init 17 = .ok (.putfield 15, 3) := by decide +kernel
theorem dX2_init_20 : decode cX2_init 20 = .ok (.return_, 1) := by decide +kernel
theorem dX2_measure_0 : decode cX2_measure 0 = .ok (.aload_n 0, 1) := by decide +kernel
theorem dX2_measure_1 : decode cX2_measure 1 = .ok (.getfield 9, 3) := by decide +kernel
theorem dX2_measure_4 : decode cX2_measure 4 = .ok (.bipush (-4), 2) := by decide +kernel
theorem dX2_measure_6 : decode cX2_measure 6 = .ok (.invokestatic 18, 3) := by decide +kernel
theorem dX2_measure_9 : decode cX2_measure 9 = .ok (.aload_n 1, 1) := by decide +kernel
theorem dX2_measure_10 : decode cX2_measure 10 = .ok (.iload_n 2, 1) := by decide +kernel
theorem dX2_measure_11 : decode cX2_measure 11 = .ok (.invokevirtual 24, 3) := by decide +kernel
theorem dX2_measure_14 : decode cX2_measure 14 = .ok (.ifCond .ne 4, 3) := by decide +kernel
theorem dX2_measure_17 : decode cX2_measure 17 = .ok (.return_, 1) := by decide +kernel
theorem dX2_measure_18 : decode cX2_measure 18 = .ok (.aload_n 0, 1) := by decide +kernel
theorem dX2_measure_19 : decode cX2_measure 19 = .ok (.getfield 9, 3) := by decide +kernel
theorem dX2_measure_22 : decode cX2_measure 22 = .ok (.iload_n 2, 1) := by decide +kernel
theorem dX2_measure_23 : decode cX2_measure 23 = .ok (.iconst 0, 1) := by decide +kernel
theorem dX2_measure_24 : decode cX2_measure 24 = .ok (.iastore, 1) := by decide +kernel
theorem dX2_measure_25 : decode cX2_measure 25 = .ok (.aload_n 0, 1) := by decide +kernel
theorem dX2_measure_26 : decode cX2_measure 26 = .ok (.getfield 15, 3) := by decide +kernel
theorem dX2_measure_29 : decode cX2_measure 29 = .ok (.iconst 0, 1) := by decide +kernel
theorem dX2_measure_30 : decode cX2_measure 30 = .ok (.iload_n 2, 1) := by decide +kernel
theorem dX2_measure_31 : decode cX2_measure 31 = .ok (.iastore, 1) := by decide +kernel
theorem dX2_measure_32 : decode cX2_measure 32 = .ok (.iconst 1, 1) := by decide +kernel
theorem dX2_measure_33 : decode cX2_measure 33 = .ok (.istore_n 3, 1) := by decide +kernel
theorem dX2_measure_34 : decode cX2_measure 34 = .ok (.iconst 0, 1) := by decide +kernel
theorem dX2_measure_35 : decode cX2_measure 35 = .ok (.istore 4, 2) := by decide +kernel
theorem dX2_measure_37 : decode cX2_measure 37 = .ok (.iload 4, 2) := by decide +kernel
theorem dX2_measure_39 : decode cX2_measure 39 = .ok (.iload_n 3, 1) := by decide +kernel
theorem dX2_measure_40 : decode cX2_measure 40 = .ok (.if_icmp .ge 99, 3) := by decide +kernel
theorem dX2_measure_43 : decode cX2_measure 43 = .ok (.iload 4, 2) := by decide +kernel
theorem dX2_measure_45 : decode cX2_measure 45 = .ok (.bipush 36, 2) := by decide +kernel
theorem dX2_measure_47 : decode cX2_measure 47 = .ok (.if_icmp .ge 92, 3) := by decide +kernel
theorem dX2_measure_50 : decode cX2_measure 50 = .ok (.iconst 0, 1) := by decide +kernel
theorem dX2_measure_51 : decode cX2_measure 51 = .ok (.istore 5, 2) := by decide +kernel
theorem dX2_measure_53 : decode cX2_measure 53 = .ok (.iload 5, 2) := by decide +kernel
theorem dX2_measure_55 : decode cX2_measure 55 = .ok (.iconst 4, 1) := by decide +kernel
theorem dX2_measure_56 : decode cX2_measure 56 = .ok (.if_icmp .ge 77, 3) := by decide +kernel
theorem dX2_measure_59 : decode cX2_measure 59 = .ok (.aload_n 1, 1) := by decide +kernel
theorem dX2_measure_60 : decode cX2_measure 60 = .ok (.aload_n 0, 1) := by decide +kernel
theorem dX2_measure_61 : decode cX2_measure 61 = .ok (.getfield 15, 3) := by decide +kernel
theorem dX2_measure_64 : decode cX2_measure 64 = .ok (.iload 4, 2) := by decide +kernel
theorem dX2_measure_66 : decode cX2_measure 66 = .ok (.iaload, 1) := by decide +kernel
theorem dX2_measure_67 : decode cX2_measure 67 = .ok (.iload 5, 2) := by decide +kernel
theorem dX2_measure_69 : decode cX2_measure 69 = .ok (.invokevirtual 30, 3) := by decide +kernel
theorem dX2_measure_72 : decode cX2_measure 72 = .ok (.istore 6, 2) := by decide +kernel
theorem dX2_measure_74 : decode cX2_measure 74 = .ok (.iload 6, 2) := by decide +kernel
theorem dX2_measure_76 : decode cX2_measure 76 = .ok (.ifCond .lt 51, 3) := by decide +kernel
theorem dX2_measure_79 : decode cX2_measure 79 = .ok (.aload_n 0, 1) := by decide +kernel
theorem dX2_measure_80 : decode cX2_measure 80 = .ok (.getfield 9, 3) := by decide +kernel
theorem dX2_measure_83 : decode cX2_measure 83 = .ok (.iload 6, 2) := by decide +kernel
theorem dX2_measure_85 : decode cX2_measure 85 = .ok (.iaload, 1) := by decide +kernel
theorem dX2_measure_86 : decode cX2_measure 86 = .ok (.ifCond .ge 41, 3) := by decide +kernel
theorem dX2_measure_89 : decode cX2_measure 89 = .ok (.iload_n 3, 1) := by decide +kernel
theorem dX2_measure_90 : decode cX2_measure 90 = .ok (.bipush 36, 2) := by decide +kernel
theorem dX2_measure_92 : decode cX2_measure 92 = .ok (.if_icmp .ge 35, 3) := by decide +kernel
theorem dX2_measure_95 : decode cX2_measure 95 = .ok (.aload_n 0, 1) := by decide +kernel
theorem dX2_measure_96 : decode cX2_measure 96 = .ok (.getfield 9, 3) := by decide +kernel
theorem dX2_measure_99 : decode cX2_measure 99 = .ok (.iload 6, 2) := by decide +kernel
theorem dX2_measure_101 : decode cX2_measure 101 = .ok (.aload_n 0, 1) := by decide +kernel
theorem dX2_measure_102 : decode cX2_measure 102 = .ok (.getfield 9, 3) := by decide +kernel
theorem dX2_measure_105 : decode cX2_measure 105 = .ok (.aload_n 0, 1) := by decide +kernel
theorem dX2_measure_106 : decode cX2_measure 106 = .ok (.getfield 15, 3) := by decide +kernel
theorem dX2_measure_109 : decode cX2_measure 109 = .ok (.iload 4, 2) := by decide +kernel
theorem dX2_measure_111 : decode cX2_measure 111 = .ok (.iaload, 1) := by decide +kernel
theorem dX2_measure_112 : decode cX2_measure 112 = .ok (.iaload, 1) := by decide +kernel
theorem dX2_measure_113 : decode cX2_measure 113 = .ok (.iconst 1, 1) := by decide +kernel
theorem dX2_measure_114 : decode cX2_measure 114 = .ok (.iadd, 1) := by decide +kernel
theorem dX2_measure_115 : decode cX2_measure 115 = .ok (.iastore, 1) := by decide +kernel
theorem dX2_measure_116 : decode cX2_measure 116 = .ok (.aload_n 0, 1) := by decide +kernel
theorem dX2_measure_117 : decode cX2_measure 117 = .ok (.getfield 15, 3) := by decide +kernel
theorem dX2_measure_120 : decode cX2_measure 120 = .ok (.iload_n 3, 1) := by decide +kernel
theorem dX2_measure_121 : decode cX2_measure 121 = .ok (.iload 6, 2) := by decide +kernel
theorem dX2_measure_123 : decode cX2_measure 123 = .ok (.iastore, 1) := by decide +kernel
theorem dX2_measure_124 : decode cX2_measure 124 = .ok (.iinc 3 1, 3) := by decide +kernel
theorem dX2_measure_127 : decode cX2_measure 127 = .ok (.iinc 5 1, 3) := by decide +kernel
theorem dX2_measure_130 : decode cX2_measure 130 = .ok (.goto (-77), 3) := by decide +kernel
theorem dX2_measure_133 : decode cX2_measure 133 = .ok (.iinc 4 1, 3) := by decide +kernel
theorem dX2_measure_136 : decode cX2_measure 136 = .ok (.goto (-99), 3) := by decide +kernel
theorem dX2_measure_139 : decode cX2_measure 139 = .ok (.return_, 1) := by decide +kernel
theorem dX2_toFarthestGrass_0 : decode cX2_toFarthestGrass 0 = .ok (.aload_n 0, 1) := by decide +kernel
theorem dX2_toFarthestGrass_1 : decode cX2_toFarthestGrass 1 = .ok (.aload_n 1, 1) := by decide +kernel
theorem dX2_toFarthestGrass_2 : decode cX2_toFarthestGrass 2 = .ok (.iload_n 2, 1) := by decide +kernel
theorem dX2_toFarthestGrass_3 : decode cX2_toFarthestGrass 3 = .ok (.invokevirtual 34, 3) := by decide +kernel
theorem dX2_toFarthestGrass_6 : decode cX2_toFarthestGrass 6 = .ok (.bipush (-4), 2) := by decide +kernel
theorem dX2_toFarthestGrass_8 : decode cX2_toFarthestGrass 8 = .ok (.istore_n 3, 1) := by decide +kernel
theorem dX2_toFarthestGrass_9 : decode cX2_toFarthestGrass 9 = .ok (.iconst 0, 1) := by decide +kernel
theorem dX2_toFarthestGrass_10 : decode cX2_toFarthestGrass 10 = .ok (.istore 4, 2) := by decide +kernel
theorem dX2_toFarthestGrass_12 : decode cX2_toFarthestGrass 12 = .ok (.iload 4, 2) := by decide +kernel
theorem dX2_toFarthestGrass_14 : decode cX2_toFarthestGrass 14 = .ok (.bipush 36, 2) := by decide +kernel
theorem dX2_toFarthestGrass_16 : decode cX2_toFarthestGrass 16 = .ok (.if_icmp .ge 43, 3) := by decide +kernel
theorem dX2_toFarthestGrass_19 : decode cX2_toFarthestGrass 19 = .ok (.aload_n 1, 1) := by decide +kernel
theorem dX2_toFarthestGrass_20 : decode cX2_toFarthestGrass 20 = .ok (.iload 4, 2) := by decide +kernel
theorem dX2_toFarthestGrass_22 : decode cX2_toFarthestGrass 22 = .ok (.invokevirtual 38, 3) := by decide +kernel
theorem dX2_toFarthestGrass_25 : decode cX2_toFarthestGrass 25 = .ok (.ifCond .eq 28, 3) := by decide +kernel
theorem dX2_toFarthestGrass_28 : decode cX2_toFarthestGrass 28 = .ok (.aload_n 0, 1) := by decide +kernel
theorem dX2_toFarthestGrass_29 : decode cX2_toFarthestGrass 29 = .ok (.getfield 9, 3) := by decide +kernel
theorem dX2_toFarthestGrass_32 : decode cX2_toFarthestGrass 32 = .ok (.iload 4, 2) := by decide +kernel
theorem dX2_toFarthestGrass_34 : decode cX2_toFarthestGrass 34 = .ok (.iaload, 1) := by decide +kernel
theorem dX2_toFarthestGrass_35 : decode cX2_toFarthestGrass 35 = .ok (.ifCond .ge 6, 3) := by decide +kernel
theorem dX2_toFarthestGrass_38 : decode cX2_toFarthestGrass 38 = .ok (.bipush (-4), 2) := by decide +kernel
theorem dX2_toFarthestGrass_40 : decode cX2_toFarthestGrass 40 = .ok (.ireturn, 1) := by decide +kernel
theorem dX2_toFarthestGrass_41 : decode cX2_toFarthestGrass 41 = .ok (.iload_n 3, 1) := by decide +kernel
theorem dX2_toFarthestGrass_42 : decode cX2_toFarthestGrass 42 = .ok (.aload_n 0, 1) := by decide +kernel
theorem dX2_toFarthestGrass_43 : decode cX2_toFarthestGrass 43 = .ok (.getfield 9, 3) := by decide +kernel
theorem dX2_toFarthestGrass_46 : decode cX2_toFarthestGrass 46 = .ok (.iload 4, 2) := by decide +kernel
theorem dX2_toFarthestGrass_48 : decode cX2_toFarthestGrass 48 = .ok (.iaload, 1) := by decide +kernel
theorem dX2_toFarthestGrass_49 : decode cX2_toFarthestGrass 49 = .ok (.invokestatic 41, 3) := by decide +kernel
theorem dX2_toFarthestGrass_52 : decode cX2_toFarthestGrass 52 = .ok (.istore_n 3, 1) := by decide +kernel
theorem dX2_toFarthestGrass_53 : decode cX2_toFarthestGrass 53 = .ok (.iinc 4 1, 3) := by decide +kernel
theorem dX2_toFarthestGrass_56 : decode cX2_toFarthestGrass 56 = .ok (.goto (-44), 3) := by decide +kernel
theorem dX2_toFarthestGrass_59 : decode cX2_toFarthestGrass 59 = .ok (.iload_n 3, 1) := by decide +kernel
theorem dX2_toFarthestGrass_60 : decode cX2_toFarthestGrass 60 = .ok (.ireturn, 1) := by decide +kernel
theorem dX3_init_0 : decode cX3_init 0 = .ok (.aload_n 0, 1) := by decide +kernel
theorem dX3_init_1 : decode cX3_init 1 = .ok (.invokespecial 3, 3) := by decide +kernel
theorem dX3_init_4 : decode cX3_init 4 = .ok (.aload_n 0, 1) := by decide +kernel
theorem dX3_init_5 : decode cX3_init 5 = .ok (.bipush 36, 2) := by decide +kernel
theorem dX3_init_7 : decode cX3_init 7 = .ok (.newarray .int, 2) := by decide +kernel
theorem dX3_init_9 : decode cX3_init 9 = .ok (.putfield 9, 3) := by decide +kernel
theorem dX3_init_12 : decode cX3_init 12 = .ok (.aload_n 0, 1) := by decide +kernel
theorem dX3_init_13 : decode cX3_init 13 = .ok (.bipush 36, 2) := by decide +kernel
theorem dX3_init_15 : decode cX3_init 15 = .ok (.newarray .int, 2) := by decide +kernel
theorem dX3_init_17 : decode cX3_init 17 = .ok (.putfield 15, 3) := by decide +kernel
theorem dX3_init_20 : decode cX3_init 20 = .ok (.aload_n 0, 1) := by decide +kernel
theorem dX3_init_21 : decode cX3_init 21 = .ok (.bipush 36, 2) := by decide +kernel
theorem dX3_init_23 : decode cX3_init 23 = .ok (.newarray .int, 2) := by decide +kernel
theorem dX3_init_25 : decode cX3_init 25 = .ok (.putfield 18, 3) := by decide +kernel
theorem dX3_init_28 : decode cX3_init 28 = .ok (.aload_n 0, 1) := by decide +kernel
theorem dX3_init_29 : decode cX3_init 29 = .ok (.bipush 36, 2) := by decide +kernel
theorem dX3_init_31 : decode cX3_init 31 = .ok (.newarray .int, 2) := by decide +kernel
theorem dX3_init_33 : decode cX3_init 33 = .ok (.putfield 21, 3) := by decide +kernel
theorem dX3_init_36 : decode cX3_init 36 = .ok (.aload_n 0, 1) := by decide +kernel
theorem dX3_init_37 : decode cX3_init 37 = .ok (.bipush 8, 2) := by decide +kernel
theorem dX3_init_39 : decode cX3_init 39 = .ok (.newarray .int, 2) := by decide +kernel
theorem dX3_init_41 : decode cX3_init 41 = .ok (.putfield 24, 3) := by decide +kernel
theorem dX3_init_44 : decode cX3_init 44 = .ok (.aload_n 0, 1) := by decide +kernel
theorem dX3_init_45 : decode cX3_init 45 = .ok (.invokevirtual 27, 3) := by decide +kernel
theorem dX3_init_48 : decode cX3_init 48 = .ok (.return_, 1) := by decide +kernel
theorem dX3_startAnew_0 : decode cX3_startAnew 0 = .ok (.aload_n 0, 1) := by decide +kernel
theorem dX3_startAnew_1 : decode cX3_startAnew 1 = .ok (.getfield 9, 3) := by decide +kernel
theorem dX3_startAnew_4 : decode cX3_startAnew 4 = .ok (.iconst 0, 1) := by decide +kernel
theorem dX3_startAnew_5 : decode cX3_startAnew 5 = .ok (.invokestatic 30, 3) := by decide +kernel
theorem dX3_startAnew_8 : decode cX3_startAnew 8 = .ok (.aload_n 0, 1) := by decide +kernel
theorem dX3_startAnew_9 : decode cX3_startAnew 9 = .ok (.getfield 18, 3) := by decide +kernel
theorem dX3_startAnew_12 : decode cX3_startAnew 12 = .ok (.iconst 3, 1) := by decide +kernel
theorem dX3_startAnew_13 : decode cX3_startAnew 13 = .ok (.invokestatic 30, 3) := by decide +kernel
theorem dX3_startAnew_16 : decode cX3_startAnew 16 = .ok (.aload_n 0, 1) := by decide +kernel
theorem dX3_startAnew_17 : decode cX3_startAnew 17 = .ok (.getfield 21, 3) := by decide +kernel
theorem dX3_startAnew_20 : decode cX3_startAnew 20 = .ok (.bipush (-4), 2) := by decide +kernel
theorem dX3_startAnew_22 : decode cX3_startAnew 22 = .ok (.invokestatic 30, 3) := by decide +kernel
theorem dX3_startAnew_25 : decode cX3_startAnew 25 = .ok (.getstatic 36, 3) := by decide +kernel
theorem dX3_startAnew_28 : decode cX3_startAnew 28 = .ok (.iconst 0, 1) := by decide +kernel
theorem dX3_startAnew_29 : decode cX3_startAnew 29 = .ok (.aload_n 0, 1) := by decide +kernel
theorem dX3_startAnew_30 : decode cX3_startAnew 30 = .ok (.getfield 24, 3) := by decide +kernel
theorem dX3_startAnew_33 : decode cX3_startAnew 33 = .ok (.iconst 0, 1) := by decide +kernel
theorem dX3_startAnew_34 : decode cX3_startAnew 34 = .ok (.bipush 8, 2) := by decide +kernel
theorem dX3_startAnew_36 : decode cX3_startAnew 36 = .ok (.invokestatic 39, 3) := by decide +kernel
theorem dX3_startAnew_39 : decode cX3_startAnew 39 = .ok (.aload_n 0, 1) := by decide +kernel
theorem dX3_startAnew_40 : decode cX3_startAnew 40 = .ok (.invokevirtual 45, 3) := by decide +kernel
theorem dX3_startAnew_43 : decode cX3_startAnew 43 = .ok (.return_, 1) := by decide +kernel
theorem dX3_growToTold_0 : decode cX3_growToTold 0 = .ok (.iconst 0, 1) := by decide +kernel
theorem dX3_growToTold_1 : decode cX3_growToTold 1 = .ok (.istore_n 1, 1) := by decide +kernel
theorem dX3_growToTold_2 : decode cX3_growToTold 2 = .ok (.iload_n 1, 1) := by decide +kernel
theorem dX3_growToTold_3 : decode cX3_growToTold 3 = .ok (.bipush 36, 2) := by decide +kernel
theorem dX3_growToTold_5 : decode cX3_growToTold 5 = .ok (.if_icmp .ge 34, 3) := by decide +kernel
theorem dX3_growToTold_8 : decode cX3_growToTold 8 = .ok (.aload_n 0, 1) := by decide +kernel
theorem dX3_growToTold_9 : decode cX3_growToTold 9 = .ok (.getfield 15, 3) := by decide +kernel
theorem dX3_growToTold_12 : decode cX3_growToTold 12 = .ok (.iload_n 1, 1) := by decide +kernel
theorem dX3_growToTold_13 : decode cX3_growToTold 13 = .ok (.aload_n 0, 1) := by decide +kernel
theorem dX3_growToTold_14 : decode cX3_growToTold 14 = .ok (.iload_n 1, 1) := by decide +kernel
theorem dX3_growToTold_15 : decode cX3_growToTold 15 = .ok (.invokevirtual 48, 3) := by decide +kernel
theorem dX3_growToTold_18 : decode cX3_growToTold 18 = .ok (.ifCond .eq 13, 3) := by decide +kernel
theorem dX3_growToTold_21 : decode cX3_growToTold 21 = .ok (.aload_n 0, 1) := by decide +kernel
theorem dX3_growToTold_22 : decode cX3_growToTold 22 = .ok (.getfield 24, 3) := by decide +kernel
theorem dX3_growToTold_25 : decode cX3_growToTold 25 = .ok (.bipush 7, 2) := by decide +kernel
theorem dX3_growToTold_27 : decode cX3_growToTold 27 = .ok (.iaload, 1) := by decide +kernel
theorem dX3_growToTold_28 : decode cX3_growToTold 28 = .ok (.goto 4, 3) := by decide +kernel
theorem dX3_growToTold_31 : decode cX3_growToTold 31 = .ok (.iconst 0, 1) := by decide +kernel
theorem dX3_growToTold_32 : decode cX3_growToTold 32 = .ok (.iastore, 1) := by decide +kernel
theorem dX3_growToTold_33 : decode cX3_growToTold 33 = .ok (.iinc 1 1, 3) := by decide +kernel
theorem dX3_growToTold_36 : decode cX3_growToTold 36 = .ok (.goto (-34), 3) := by decide +kernel
theorem dX3_growToTold_39 : decode cX3_growToTold 39 = .ok (.return_, 1) := by decide +kernel
theorem dX3_takeCells_0 : decode cX3_takeCells 0 = .ok (.aload_n 1, 1) := by decide +kernel
theorem dX3_takeCells_1 : decode cX3_takeCells 1 = .ok (.getfield 9, 3) := by decide +kernel
theorem dX3_takeCells_4 : decode cX3_takeCells 4 = .ok (.iconst 0, 1) := by decide +kernel
theorem dX3_takeCells_5 : decode cX3_takeCells 5 = .ok (.aload_n 0, 1) := by decide +kernel
theorem dX3_takeCells_6 : decode cX3_takeCells 6 = .ok (.getfield 9, 3) := by decide +kernel
theorem dX3_takeCells_9 : decode cX3_takeCells 9 = .ok (.iconst 0, 1) := by decide +kernel
theorem dX3_takeCells_10 : decode cX3_takeCells 10 = .ok (.bipush 36, 2) := by decide +kernel
theorem dX3_takeCells_12 : decode cX3_takeCells 12 = .ok (.invokestatic 39, 3) := by decide +kernel
theorem dX3_takeCells_15 : decode cX3_takeCells 15 = .ok (.aload_n 1, 1) := by decide +kernel
theorem dX3_takeCells_16 : decode cX3_takeCells 16 = .ok (.getfield 15, 3) := by decide +kernel
theorem dX3_takeCells_19 : decode cX3_takeCells 19 = .ok (.iconst 0, 1) := by decide +kernel
theorem dX3_takeCells_20 : decode cX3_takeCells 20 = .ok (.aload_n 0, 1) := by decide +kernel
theorem dX3_takeCells_21 : decode cX3_takeCells 21 = .ok (.getfield 15, 3) := by decide +kernel
theorem dX3_takeCells_24 : decode cX3_takeCells 24 = .ok (.iconst 0, 1) := by decide +kernel
theorem dX3_takeCells_25 : decode cX3_takeCells 25 = .ok (.bipush 36, 2) := by decide +kernel
theorem dX3_takeCells_27 : decode cX3_takeCells 27 = .ok (.invokestatic 39, 3) := by decide +kernel
theorem dX3_takeCells_30 : decode cX3_takeCells 30 = .ok (.aload_n 1, 1) := by decide +kernel
theorem dX3_takeCells_31 : decode cX3_takeCells 31 = .ok (.getfield 21, 3) := by decide +kernel
theorem dX3_takeCells_34 : decode cX3_takeCells 34 = .ok (.iconst 0, 1) := by decide +kernel
theorem dX3_takeCells_35 : decode cX3_takeCells 35 = .ok (.aload_n 0, 1) := by decide +kernel
theorem dX3_takeCells_36 : decode cX3_takeCells 36 = .ok (.getfield 21, 3) := by decide +kernel
theorem dX3_takeCells_39 : decode cX3_takeCells 39 = .ok (.iconst 0, 1) := by decide +kernel
theorem dX3_takeCells_40 : decode cX3_takeCells 40 = .ok (.bipush 36, 2) := by decide +kernel
theorem dX3_takeCells_42 : decode cX3_takeCells 42 = .ok (.invokestatic 39, 3) := by decide +kernel
theorem dX3_takeCells_45 : decode cX3_takeCells 45 = .ok (.return_, 1) := by decide +kernel
theorem dX3_takeAll_0 : decode cX3_takeAll 0 = .ok (.aload_n 0, 1) := by decide +kernel
theorem dX3_takeAll_1 : decode cX3_takeAll 1 = .ok (.aload_n 1, 1) := by decide +kernel
theorem dX3_takeAll_2 : decode cX3_takeAll 2 = .ok (.invokevirtual 52, 3) := by decide +kernel
theorem dX3_takeAll_5 : decode cX3_takeAll 5 = .ok (.aload_n 1, 1) := by decide +kernel
theorem dX3_takeAll_6 : decode cX3_takeAll 6 = .ok (.getfield 18, 3) := by decide +kernel
theorem dX3_takeAll_9 : decode cX3_takeAll 9 = .ok (.iconst 0, 1) := by decide +kernel
theorem dX3_takeAll_10 : decode cX3_takeAll 10 = .ok (.aload_n 0, 1) := by decide +kernel
theorem dX3_takeAll_11 : decode cX3_takeAll 11 = .ok (.getfield 18, 3) := by decide +kernel
theorem dX3_takeAll_14 : decode cX3_takeAll 14 = .ok (.iconst 0, 1) := by decide +kernel
theorem dX3_takeAll_15 : decode cX3_takeAll 15 = .ok (.bipush 36, 2) := by decide +kernel
theorem dX3_takeAll_17 : decode cX3_takeAll 17 = .ok (.invokestatic 39, 3) := by decide +kernel
theorem dX3_takeAll_20 : decode cX3_takeAll 20 = .ok (.aload_n 1, 1) := by decide +kernel
theorem dX3_takeAll_21 : decode cX3_takeAll 21 = .ok (.getfield 24, 3) := by decide +kernel
theorem dX3_takeAll_24 : decode cX3_takeAll 24 = .ok (.iconst 0, 1) := by decide +kernel
theorem dX3_takeAll_25 : decode cX3_takeAll 25 = .ok (.aload_n 0, 1) := by decide +kernel
theorem dX3_takeAll_26 : decode cX3_takeAll 26 = .ok (.getfield 24, 3) := by decide +kernel
theorem dX3_takeAll_29 : decode cX3_takeAll 29 = .ok (.iconst 0, 1) := by decide +kernel
theorem dX3_takeAll_30 : decode cX3_takeAll 30 = .ok (.bipush 8, 2) := by decide +kernel
theorem dX3_takeAll_32 : decode cX3_takeAll 32 = .ok (.invokestatic 39, 3) := by decide +kernel
theorem dX3_takeAll_35 : decode cX3_takeAll 35 = .ok (.return_, 1) := by decide +kernel
theorem dX3_told_0 : decode cX3_told 0 = .ok (.iload_n 1, 1) := by decide +kernel
theorem dX3_told_1 : decode cX3_told 1 = .ok (.iconst 0, 1) := by decide +kernel
theorem dX3_told_2 : decode cX3_told 2 = .ok (.bipush 7, 2) := by decide +kernel
theorem dX3_told_4 : decode cX3_told 4 = .ok (.invokestatic 56, 3) := by decide +kernel
theorem dX3_told_7 : decode cX3_told 7 = .ok (.ifCond .eq 12, 3) := by decide +kernel
theorem dX3_told_10 : decode cX3_told 10 = .ok (.aload_n 0, 1) := by decide +kernel
theorem dX3_told_11 : decode cX3_told 11 = .ok (.getfield 24, 3) := by decide +kernel
theorem dX3_told_14 : decode cX3_told 14 = .ok (.iload_n 1, 1) := by decide +kernel
theorem dX3_told_15 : decode cX3_told 15 = .ok (.iaload, 1) := by decide +kernel
theorem dX3_told_16 : decode cX3_told 16 = .ok (.goto 4, 3) := by decide +kernel
theorem dX3_told_19 : decode cX3_told 19 = .ok (.iconst 0, 1) := by decide +kernel
theorem dX3_told_20 : decode cX3_told 20 = .ok (.ireturn, 1) := by decide +kernel
theorem dX3_isOpen_0 : decode cX3_isOpen 0 = .ok (.iload_n 1, 1) := by decide +kernel
theorem dX3_isOpen_1 : decode cX3_isOpen 1 = .ok (.ifCond .lt 23, 3) := by decide +kernel
theorem dX3_isOpen_4 : decode cX3_isOpen 4 = .ok (.iload_n 1, 1) := by decide +kernel
theorem dX3_isOpen_5 : decode cX3_isOpen 5 = .ok (.bipush 36, 2) := by decide +kernel
theorem dX3_isOpen_7 : decode cX3_isOpen 7 = .ok (.if_icmp .ge 17, 3) := by decide +kernel
theorem dX3_isOpen_10 : decode cX3_isOpen 10 = .ok (.aload_n 0, 1) := by decide +kernel
theorem dX3_isOpen_11 : decode cX3_isOpen 11 = .ok (.getfield 9, 3) := by decide +kernel
theorem dX3_isOpen_14 : decode cX3_isOpen 14 = .ok (.iload_n 1, 1) := by decide +kernel
theorem dX3_isOpen_15 : decode cX3_isOpen 15 = .ok (.iaload, 1) := by decide +kernel
theorem dX3_isOpen_16 : decode cX3_isOpen 16 = .ok (.iconst 2, 1) := by decide +kernel
theorem dX3_isOpen_17 : decode cX3_isOpen 17 = .ok (.if_icmp .eq 7, 3) := by decide +kernel
theorem dX3_isOpen_20 : decode cX3_isOpen 20 = .ok (.iconst 1, 1) := by decide +kernel
theorem dX3_isOpen_21 : decode cX3_isOpen 21 = .ok (.goto 4, 3) := by decide +kernel
theorem dX3_isOpen_24 : decode cX3_isOpen 24 = .ok (.iconst 0, 1) := by decide +kernel
theorem dX3_isOpen_25 : decode cX3_isOpen 25 = .ok (.ireturn, 1) := by decide +kernel
theorem dX3_isGrass_0 : decode cX3_isGrass 0 = .ok (.iload_n 1, 1) := by decide +kernel
theorem dX3_isGrass_1 : decode cX3_isGrass 1 = .ok (.invokestatic 60, 3) := by decide +kernel
theorem dX3_isGrass_4 : decode cX3_isGrass 4 = .ok (.ifCond .eq 26, 3) := by decide +kernel
theorem dX3_isGrass_7 : decode cX3_isGrass 7 = .ok (.aload_n 0, 1) := by decide +kernel
theorem dX3_isGrass_8 : decode cX3_isGrass 8 = .ok (.getfield 9, 3) := by decide +kernel
theorem dX3_isGrass_11 : decode cX3_isGrass 11 = .ok (.iload_n 1, 1) := by decide +kernel
theorem dX3_isGrass_12 : decode cX3_isGrass 12 = .ok (.iaload, 1) := by decide +kernel
theorem dX3_isGrass_13 : decode cX3_isGrass 13 = .ok (.ifCond .eq 13, 3) := by decide +kernel
theorem dX3_isGrass_16 : decode cX3_isGrass 16 = .ok (.aload_n 0, 1) := by decide +kernel
theorem dX3_isGrass_17 : decode cX3_isGrass 17 = .ok (.getfield 9, 3) := by decide +kernel
theorem dX3_isGrass_20 : decode cX3_isGrass 20 = .ok (.iload_n 1, 1) := by decide +kernel
theorem dX3_isGrass_21 : decode cX3_isGrass 21 = .ok (.iaload, 1) := by decide +kernel
theorem dX3_isGrass_22 : decode cX3_isGrass 22 = .ok (.iconst 1, 1) := by decide +kernel
theorem dX3_isGrass_23 : decode cX3_isGrass 23 = .ok (.if_icmp .ne 7, 3) := by decide +kernel
theorem dX3_isGrass_26 : decode cX3_isGrass 26 = .ok (.iconst 1, 1) := by decide +kernel
theorem dX3_isGrass_27 : decode cX3_isGrass 27 = .ok (.goto 4, 3) := by decide +kernel
theorem dX3_isGrass_30 : decode cX3_isGrass 30 = .ok (.iconst 0, 1) := by decide +kernel
theorem dX3_isGrass_31 : decode cX3_isGrass 31 = .ok (.ireturn, 1) := by decide +kernel
theorem dX3_ahead_0 : decode cX3_ahead 0 = .ok (.iload_n 1, 1) := by decide +kernel
theorem dX3_ahead_1 : decode cX3_ahead 1 = .ok (.bipush 6, 2) := by decide +kernel
theorem dX3_ahead_3 : decode cX3_ahead 3 = .ok (.irem, 1) := by decide +kernel
theorem dX3_ahead_4 : decode cX3_ahead 4 = .ok (.istore_n 3, 1) := by decide +kernel
theorem dX3_ahead_5 : decode cX3_ahead 5 = .ok (.iload_n 1, 1) := by decide +kernel
theorem dX3_ahead_6 : decode cX3_ahead 6 = .ok (.iconst 1, 1) := by decide +kernel
theorem dX3_ahead_7 : decode cX3_ahead 7 = .ok (.isub, 1) := by decide +kernel
theorem dX3_ahead_8 : decode cX3_ahead 8 = .ok (.istore 4, 2) := by decide +kernel
theorem dX3_ahead_10 : decode cX3_ahead 10 = .ok (.iload_n 2, 1) := by decide +kernel
theorem dX3_ahead_11 : decode cX3_ahead 11 = .ok (.ifCond .ne 12, 3) := by decide +kernel
theorem dX3_ahead_14 : decode cX3_ahead 14 = .ok (.iload_n 1, 1) := by decide +kernel
theorem dX3_ahead_15 : decode cX3_ahead 15 = .ok (.bipush 6, 2) := by decide +kernel
theorem dX3_ahead_17 : decode cX3_ahead 17 = .ok (.isub, 1) := by decide +kernel
theorem dX3_ahead_18 : decode cX3_ahead 18 = .ok (.istore 4, 2) := by decide +kernel
theorem dX3_ahead_20 : decode cX3_ahead 20 = .ok (.goto 48, 3) := by decide +kernel
theorem dX3_ahead_23 : decode cX3_ahead 23 = .ok (.iload_n 2, 1) := by decide +kernel
theorem dX3_ahead_24 : decode cX3_ahead 24 = .ok (.iconst 2, 1) := by decide +kernel
theorem dX3_ahead_25 : decode cX3_ahead 25 = .ok (.if_icmp .ne 12, 3) := by decide +kernel
theorem dX3_ahead_28 : decode cX3_ahead 28 = .ok (.iload_n 1, 1) := by decide +kernel
theorem dX3_ahead_29 : decode cX3_ahead 29 = .ok (.bipush 6, 2) := by decide +kernel
theorem dX3_ahead_31 : decode cX3_ahead 31 = .ok (.iadd, 1) := by decide +kernel
theorem dX3_ahead_32 : decode cX3_ahead 32 = .ok (.istore 4, 2) := by decide +kernel
theorem dX3_ahead_34 : decode cX3_ahead 34 = .ok (.goto 34, 3) := by decide +kernel
theorem dX3_ahead_37 : decode cX3_ahead 37 = .ok (.iload_n 2, 1) := by decide +kernel
theorem dX3_ahead_38 : decode cX3_ahead 38 = .ok (.iconst 1, 1) := by decide +kernel
theorem dX3_ahead_39 : decode cX3_ahead 39 = .ok (.if_icmp .ne 21, 3) := by decide +kernel
theorem dX3_ahead_42 : decode cX3_ahead 42 = .ok (.iload_n 3, 1) := by decide +kernel
theorem dX3_ahead_43 : decode cX3_ahead 43 = .ok (.iconst 5, 1) := by decide +kernel
theorem dX3_ahead_44 : decode cX3_ahead 44 = .ok (.if_icmp .ge 9, 3) := by decide +kernel
theorem dX3_ahead_47 : decode cX3_ahead 47 = .ok (.iload_n 1, 1) := by decide +kernel
theorem dX3_ahead_48 : decode cX3_ahead 48 = .ok (.iconst 1, 1) := by decide +kernel
theorem dX3_ahead_49 : decode cX3_ahead 49 = .ok (.iadd, 1) := by decide +kernel
theorem dX3_ahead_50 : decode cX3_ahead 50 = .ok (.goto 5, 3) := by decide +kernel
theorem dX3_ahead_53 : decode cX3_ahead 53 = .ok (.bipush (-4), 2) := by decide +kernel
theorem dX3_ahead_55 : decode cX3_ahead 55 = .ok (.istore 4, 2) := by decide +kernel
theorem dX3_ahead_57 : decode cX3_ahead 57 = .ok (.goto 11, 3) := by decide +kernel
theorem dX3_ahead_60 : decode cX3_ahead 60 = .ok (.iload_n 3, 1) := by decide +kernel
theorem dX3_ahead_61 : decode cX3_ahead 61 = .ok (.ifCond .ne 7, 3) := by decide +kernel
theorem dX3_ahead_64 : decode cX3_ahead 64 = .ok (.bipush (-4), 2) := by decide +kernel
theorem dX3_ahead_66 : decode cX3_ahead 66 = .ok (.istore 4, 2) := by decide +kernel
theorem dX3_ahead_68 : decode cX3_ahead 68 = .ok (.aload_n 0, 1) := by decide +kernel
theorem dX3_ahead_69 : decode cX3_ahead 69 = .ok (.iload 4, 2) := by decide +kernel
theorem dX3_ahead_71 : decode cX3_ahead 71 = .ok (.invokevirtual 63, 3) := by decide +kernel
theorem dX3_ahead_74 : decode cX3_ahead 74 = .ok (.ifCond .eq 8, 3) := by decide +kernel
theorem dX3_ahead_77 : decode cX3_ahead 77 = .ok (.iload 4, 2) := by decide +kernel
theorem dX3_ahead_79 : decode cX3_ahead 79 = .ok (.goto 5, 3) := by decide +kernel
theorem dX3_ahead_82 : decode cX3_ahead 82 = .ok (.bipush (-4), 2) := by decide +kernel
theorem dX3_ahead_84 : decode cX3_ahead 84 = .ok (.ireturn, 1) := by decide +kernel
theorem dX3_minutesOfStep_0 : decode cX3_minutesOfStep 0 = .ok (.iload_n 1, 1) := by decide +kernel
theorem dX3_minutesOfStep_1 : decode cX3_minutesOfStep 1 = .ok (.ifCond .ne 29, 3) := by decide +kernel
theorem dX3_minutesOfStep_4 : decode cX3_minutesOfStep 4 = .ok (.iload_n 2, 1) := by decide +kernel
theorem dX3_minutesOfStep_5 : decode cX3_minutesOfStep 5 = .ok (.invokestatic 60, 3) := by decide +kernel
theorem dX3_minutesOfStep_8 : decode cX3_minutesOfStep 8 = .ok (.ifCond .eq 22, 3) := by decide +kernel
theorem dX3_minutesOfStep_11 : decode cX3_minutesOfStep 11 = .ok (.aload_n 0, 1) := by decide +kernel
theorem dX3_minutesOfStep_12 : decode cX3_minutesOfStep 12 = .ok (.getfield 9, 3) := by decide +kernel
theorem dX3_minutesOfStep_15 : decode cX3_minutesOfStep 15 = .ok (.iload_n 2, 1) := by decide +kernel
theorem dX3_minutesOfStep_16 : decode cX3_minutesOfStep 16 = .ok (.iaload, 1) := by decide +kernel
theorem dX3_minutesOfStep_17 : decode cX3_minutesOfStep 17 = .ok (.iconst 1, 1) := by decide +kernel
theorem dX3_minutesOfStep_18 : decode cX3_minutesOfStep 18 = .ok (.if_icmp .ne 12, 3) := by decide +kernel
theorem dX3_minutesOfStep_21 : decode cX3_minutesOfStep 21 = .ok (.aload_n 0, 1) := by decide +kernel
theorem dX3_minutesOfStep_22 : decode cX3_minutesOfStep 22 = .ok (.getfield 24, 3) := by decide +kernel
theorem dX3_minutesOfStep_25 : decode cX3_minutesOfStep 25 = .ok (.iconst 2, 1) := by decide +kernel
theorem dX3_minutesOfStep_26 : decode cX3_minutesOfStep 26 = .ok (.iaload, 1) := by decide +kernel
theorem dX3_minutesOfStep_27 : decode cX3_minutesOfStep 27 = .ok (.goto 4, 3) := by decide +kernel
theorem dX3_minutesOfStep_30 : decode cX3_minutesOfStep 30 = .ok (.iconst 1, 1) := by decide +kernel
theorem dX3_minutesOfStep_31 : decode cX3_minutesOfStep 31 = .ok (.ireturn, 1) := by decide +kernel
theorem dX3_grassBits_0 : decode cX3_grassBits 0 = .ok (.lconst 0, 1) := by decide +kernel
theorem dX3_grassBits_1 : decode cX3_grassBits 1 = .ok (.lstore_n 1, 1) := by decide +kernel
theorem dX3_grassBits_2 : decode cX3_grassBits 2 = .ok (.iconst 0, 1) := by decide +kernel
theorem dX3_grassBits_3 : decode cX3_grassBits 3 = .ok (.istore_n 3, 1) := by decide +kernel
theorem dX3_grassBits_4 : decode cX3_grassBits 4 = .ok (.iload_n 3, 1) := by decide +kernel
theorem dX3_grassBits_5 : decode cX3_grassBits 5 = .ok (.bipush 36, 2) := by decide +kernel
theorem dX3_grassBits_7 : decode cX3_grassBits 7 = .ok (.if_icmp .ge 23, 3) := by decide +kernel
theorem dX3_grassBits_10 : decode cX3_grassBits 10 = .ok (.aload_n 0, 1) := by decide +kernel
theorem dX3_grassBits_11 : decode cX3_grassBits 11 = .ok (.iload_n 3, 1) := by decide +kernel
theorem dX3_grassBits_12 : decode cX3_grassBits 12 = .ok (.invokevirtual 48, 3) := by decide +kernel
theorem dX3_grassBits_15 : decode cX3_grassBits 15 = .ok (.ifCond .eq 9, 3) := by decide +kernel
theorem dX3_grassBits_18 : decode cX3_grassBits 18 = .ok (.lload_n 1, 1) := by decide +kernel
theorem dX3_grassBits_19 : decode cX3_grassBits 19 = .ok (.lconst 1, 1) := by decide +kernel
theorem dX3_grassBits_20 : decode cX3_grassBits 20 = .ok (.iload_n 3, 1) := by decide +kernel
theorem dX3_grassBits_21 : decode cX3_grassBits 21 = .ok (.lshl, 1) := by decide +kernel
theorem dX3_grassBits_22 : decode cX3_grassBits 22 = .ok (.lor, 1) := by decide +kernel
theorem dX3_grassBits_23 : decode cX3_grassBits 23 = .ok (.lstore_n 1, 1) := by decide +kernel
theorem dX3_grassBits_24 : decode cX3_grassBits 24 = .ok (.iinc 3 1, 3) := by decide +kernel
theorem dX3_grassBits_27 : decode cX3_grassBits 27 = .ok (.goto (-23), 3) := by decide +kernel
theorem dX3_grassBits_30 : decode cX3_grassBits 30 = .ok (.lload_n 1, 1) := by decide +kernel
theorem dX3_grassBits_31 : decode cX3_grassBits 31 = .ok (.lreturn, 1) := by decide +kernel
theorem dX3_grassCells_0 : decode cX3_grassCells 0 = .ok (.aload_n 0, 1) := by decide +kernel
theorem dX3_grassCells_1 : decode cX3_grassCells 1 = .ok (.invokevirtual 66, 3) := by decide +kernel
theorem dX3_grassCells_4 : decode cX3_grassCells 4 = .ok (.invokestatic 70, 3) := by decide +kernel
theorem dX3_grassCells_7 : decode cX3_grassCells 7 = .ok (.ireturn, 1) := by decide +kernel
theorem dX3_barredCells_0 : decode cX3_barredCells 0 = .ok (.iconst 0, 1) := by decide +kernel
theorem dX3_barredCells_1 : decode cX3_barredCells 1 = .ok (.istore_n 1, 1) := by decide +kernel
theorem dX3_barredCells_2 : decode cX3_barredCells 2 = .ok (.iconst 0, 1) := by decide +kernel
theorem dX3_barredCells_3 : decode cX3_barredCells 3 = .ok (.istore_n 2, 1) := by decide +kernel
theorem dX3_barredCells_4 : decode cX3_barredCells 4 = .ok (.iload_n 2, 1) := by decide +kernel
theorem dX3_barredCells_5 : decode cX3_barredCells 5 = .ok (.bipush 36, 2) := by decide +kernel
theorem dX3_barredCells_7 : decode cX3_barredCells 7 = .ok (.if_icmp .ge 25, 3) := by decide +kernel
theorem dX3_barredCells_10 : decode cX3_barredCells 10 = .ok (.iload_n 1, 1) := by decide +kernel
theorem dX3_barredCells_11 : decode cX3_barredCells 11 = .ok (.aload_n 0, 1) := by decide +kernel
theorem dX3_barredCells_12 : decode cX3_barredCells 12 = .ok (.iload_n 2, 1) := by decide +kernel
theorem dX3_barredCells_13 : decode cX3_barredCells 13 = .ok (.invokevirtual 63, 3) := by decide +kernel
theorem dX3_barredCells_16 : decode cX3_barredCells 16 = .ok (.ifCond .eq 7, 3) := by decide +kernel
theorem dX3_barredCells_19 : decode cX3_barredCells 19 = .ok (.iconst 0, 1) := by decide +kernel
theorem dX3_barredCells_20 : decode cX3_barredCells 20 = .ok (.goto 4, 3) := by decide +kernel
theorem dX3_barredCells_23 : decode cX3_barredCells 23 = .ok (.iconst 1, 1) := by decide +kernel
theorem dX3_barredCells_24 : decode cX3_barredCells 24 = .ok (.iadd, 1) := by decide +kernel
theorem dX3_barredCells_25 : decode cX3_barredCells 25 = .ok (.istore_n 1, 1) := by decide +kernel
theorem dX3_barredCells_26 : decode cX3_barredCells 26 = .ok (.iinc 2 1, 3) := by decide +kernel
theorem dX3_barredCells_29 : decode cX3_barredCells 29 = .ok (.goto (-25), 3) := by decide +kernel
theorem dX3_barredCells_32 : decode cX3_barredCells 32 = .ok (.iload_n 1, 1) := by decide +kernel
theorem dX3_barredCells_33 : decode cX3_barredCells 33 = .ok (.ireturn, 1) := by decide +kernel
theorem dX3_heightsSummed_0 : decode cX3_heightsSummed 0 = .ok (.iconst 0, 1) := by decide +kernel
theorem dX3_heightsSummed_1 : decode cX3_heightsSummed 1 = .ok (.istore_n 1, 1) := by decide +kernel
theorem dX3_heightsSummed_2 : decode cX3_heightsSummed 2 = .ok (.iconst 0, 1) := by decide +kernel
theorem dX3_heightsSummed_3 : decode cX3_heightsSummed 3 = .ok (.istore_n 2, 1) := by decide +kernel
theorem dX3_heightsSummed_4 : decode cX3_heightsSummed 4 = .ok (.iload_n 2, 1) := by decide +kernel
theorem dX3_heightsSummed_5 : decode cX3_heightsSummed 5 = .ok (.bipush 36, 2) := by decide +kernel
theorem dX3_heightsSummed_7 : decode cX3_heightsSummed 7 = .ok (.if_icmp .ge 18, 3) := by decide +kernel
theorem dX3_heightsSummed_10 : decode cX3_heightsSummed 10 = .ok (.iload_n 1, 1) := by decide +kernel
theorem dX3_heightsSummed_11 : decode cX3_heightsSummed 11 = .ok (.aload_n 0, 1) := by decide +kernel
theorem dX3_heightsSummed_12 : decode cX3_heightsSummed 12 = .ok (.getfield 15, 3) := by decide +kernel
theorem dX3_heightsSummed_15 : decode cX3_heightsSummed 15 = .ok (.iload_n 2, 1) := by decide +kernel
theorem dX3_heightsSummed_16 : decode cX3_heightsSummed 16 = .ok (.iaload, 1) := by decide +kernel
theorem dX3_heightsSummed_17 : decode cX3_heightsSummed 17 = .ok (.iadd, 1) := by decide +kernel
theorem dX3_heightsSummed_18 : decode cX3_heightsSummed 18 = .ok (.istore_n 1, 1) := by decide +kernel
theorem dX3_heightsSummed_19 : decode cX3_heightsSummed 19 = .ok (.iinc 2 1, 3) := by decide +kernel
theorem dX3_heightsSummed_22 : decode cX3_heightsSummed 22 = .ok (.goto (-18), 3) := by decide +kernel
theorem dX3_heightsSummed_25 : decode cX3_heightsSummed 25 = .ok (.iload_n 1, 1) := by decide +kernel
theorem dX3_heightsSummed_26 : decode cX3_heightsSummed 26 = .ok (.ireturn, 1) := by decide +kernel
theorem dX3_heightIn_0 : decode cX3_heightIn 0 = .ok (.aload_n 0, 1) := by decide +kernel
theorem dX3_heightIn_1 : decode cX3_heightIn 1 = .ok (.iload_n 1, 1) := by decide +kernel
theorem dX3_heightIn_2 : decode cX3_heightIn 2 = .ok (.invokevirtual 48, 3) := by decide +kernel
theorem dX3_heightIn_5 : decode cX3_heightIn 5 = .ok (.ifCond .eq 26, 3) := by decide +kernel
theorem dX3_heightIn_8 : decode cX3_heightIn 8 = .ok (.bipush 60, 2) := by decide +kernel
theorem dX3_heightIn_10 : decode cX3_heightIn 10 = .ok (.aload_n 0, 1) := by decide +kernel
theorem dX3_heightIn_11 : decode cX3_heightIn 11 = .ok (.getfield 15, 3) := by decide +kernel
theorem dX3_heightIn_14 : decode cX3_heightIn 14 = .ok (.iload_n 1, 1) := by decide +kernel
theorem dX3_heightIn_15 : decode cX3_heightIn 15 = .ok (.iaload, 1) := by decide +kernel
theorem dX3_heightIn_16 : decode cX3_heightIn 16 = .ok (.iload_n 2, 1) := by decide +kernel
theorem dX3_heightIn_17 : decode cX3_heightIn 17 = .ok (.aload_n 0, 1) := by decide +kernel
theorem dX3_heightIn_18 : decode cX3_heightIn 18 = .ok (.getfield 18, 3) := by decide +kernel
theorem dX3_heightIn_21 : decode cX3_heightIn 21 = .ok (.iload_n 1, 1) := by decide +kernel
theorem dX3_heightIn_22 : decode cX3_heightIn 22 = .ok (.iaload, 1) := by decide +kernel
theorem dX3_heightIn_23 : decode cX3_heightIn 23 = .ok (.imul, 1) := by decide +kernel
theorem dX3_heightIn_24 : decode cX3_heightIn 24 = .ok (.iadd, 1) := by decide +kernel
theorem dX3_heightIn_25 : decode cX3_heightIn 25 = .ok (.invokestatic 76, 3) := by decide +kernel
theorem dX3_heightIn_28 : decode cX3_heightIn 28 = .ok (.goto 4, 3) := by decide +kernel
theorem dX3_heightIn_31 : decode cX3_heightIn 31 = .ok (.iconst 0, 1) := by decide +kernel
theorem dX3_heightIn_32 : decode cX3_heightIn 32 = .ok (.ireturn, 1) := by decide +kernel
theorem dX3_stripeOf_0 : decode cX3_stripeOf 0 = .ok (.iload_n 1, 1) := by decide +kernel
theorem dX3_stripeOf_1 : decode cX3_stripeOf 1 = .ok (.invokestatic 60, 3) := by decide +kernel
theorem dX3_stripeOf_4 : decode cX3_stripeOf 4 = .ok (.ifCond .eq 14, 3) := by decide +kernel
theorem dX3_stripeOf_7 : decode cX3_stripeOf 7 = .ok (.aload_n 0, 1) := by decide +kernel
theorem dX3_stripeOf_8 : decode cX3_stripeOf 8 = .ok (.getfield 21, 3) := by decide +kernel
theorem dX3_stripeOf_11 : decode cX3_stripeOf 11 = .ok (.iload_n 1, 1) := by decide +kernel
theorem dX3_stripeOf_12 : decode cX3_stripeOf 12 = .ok (.iaload, 1) := by decide +kernel
theorem dX3_stripeOf_13 : decode cX3_stripeOf 13 = .ok (.bipush (-4), 2) := by decide +kernel
theorem dX3_stripeOf_15 : decode cX3_stripeOf 15 = .ok (.if_icmp .ne 5, 3) := by decide +kernel
theorem dX3_stripeOf_18 : decode cX3_stripeOf 18 = .ok (.iconst 2, 1) := by decide +kernel
theorem dX3_stripeOf_19 : decode cX3_stripeOf 19 = .ok (.ireturn, 1) := by decide +kernel
theorem dX3_stripeOf_20 : decode cX3_stripeOf 20 = .ok (.iload_n 1, 1) := by decide +kernel
theorem dX3_stripeOf_21 : decode cX3_stripeOf 21 = .ok (.bipush 6, 2) := by decide +kernel
theorem dX3_stripeOf_23 : decode cX3_stripeOf 23 = .ok (.irem, 1) := by decide +kernel
theorem dX3_stripeOf_24 : decode cX3_stripeOf 24 = .ok (.iconst 2, 1) := by decide +kernel
theorem dX3_stripeOf_25 : decode cX3_stripeOf 25 = .ok (.irem, 1) := by decide +kernel
theorem dX3_stripeOf_26 : decode cX3_stripeOf 26 = .ok (.ifCond .ne 7, 3) := by decide +kernel
theorem dX3_stripeOf_29 : decode cX3_stripeOf 29 = .ok (.iconst 0, 1) := by decide +kernel
theorem dX3_stripeOf_30 : decode cX3_stripeOf 30 = .ok (.goto 4, 3) := by decide +kernel
theorem dX3_stripeOf_33 : decode cX3_stripeOf 33 = .ok (.iconst 2, 1) := by decide +kernel
theorem dX3_stripeOf_34 : decode cX3_stripeOf 34 = .ok (.istore_n 2, 1) := by decide +kernel
theorem dX3_stripeOf_35 : decode cX3_stripeOf 35 = .ok (.aload_n 0, 1) := by decide +kernel
theorem dX3_stripeOf_36 : decode cX3_stripeOf 36 = .ok (.getfield 21, 3) := by decide +kernel
theorem dX3_stripeOf_39 : decode cX3_stripeOf 39 = .ok (.iload_n 1, 1) := by decide +kernel
theorem dX3_stripeOf_40 : decode cX3_stripeOf 40 = .ok (.iaload, 1) := by decide +kernel
theorem dX3_stripeOf_41 : decode cX3_stripeOf 41 = .ok (.iload_n 2, 1) := by decide +kernel
theorem dX3_stripeOf_42 : decode cX3_stripeOf 42 = .ok (.if_icmp .ne 7, 3) := by decide +kernel
theorem dX3_stripeOf_45 : decode cX3_stripeOf 45 = .ok (.iconst 0, 1) := by decide +kernel
theorem dX3_stripeOf_46 : decode cX3_stripeOf 46 = .ok (.goto 4, 3) := by decide +kernel
theorem dX3_stripeOf_49 : decode cX3_stripeOf 49 = .ok (.iconst 1, 1) := by decide +kernel
theorem dX3_stripeOf_50 : decode cX3_stripeOf 50 = .ok (.ireturn, 1) := by decide +kernel
theorem dX4_init_0 : decode cX4_init 0 = .ok (.aload_n 0, 1) := by decide +kernel
theorem dX4_init_1 : decode cX4_init 1 = .ok (.invokespecial 3, 3) := by decide +kernel
theorem dX4_init_4 : decode cX4_init 4 = .ok (.aload_n 0, 1) := by decide +kernel
theorem dX4_init_5 : decode cX4_init 5 = .ok (.new 9, 3) := by decide +kernel
theorem dX4_init_8 : decode cX4_init 8 = .ok (.dup, 1) := by decide +kernel
theorem dX4_init_9 : decode cX4_init 9 = .ok (.invokespecial 11, 3) := by decide +kernel
theorem dX4_init_12 : decode cX4_init 12 = .ok (.putfield 12, 3) := by decide +kernel
theorem dX4_init_15 : decode cX4_init 15 = .ok (.aload_n 0, 1) := by decide +kernel
theorem dX4_init_16 : decode cX4_init 16 = .ok (.sipush 144, 3) := by decide +kernel
theorem dX4_init_19 : decode cX4_init 19 = .ok (.newarray .int, 2) := by decide +kernel
theorem dX4_init_21 : decode cX4_init 21 = .ok (.putfield 18, 3) := by decide +kernel
theorem dX4_init_24 : decode cX4_init 24 = .ok (.aload_n 0, 1) := by decide +kernel
theorem dX4_init_25 : decode cX4_init 25 = .ok (.sipush 144, 3) := by decide +kernel
theorem dX4_init_28 : decode cX4_init 28 = .ok (.newarray .int, 2) := by decide +kernel
theorem dX4_init_30 : decode cX4_init 30 = .ok (.putfield 22, 3) := by decide +kernel
theorem dX4_init_33 : decode cX4_init 33 = .ok (.aload_n 0, 1) := by decide +kernel
theorem dX4_init_34 : decode cX4_init 34 = .ok (.bipush 36, 2) := by decide +kernel
theorem dX4_init_36 : decode cX4_init 36 = .ok (.newarray .int, 2) := by decide +kernel
theorem dX4_init_38 : decode cX4_init 38 = .ok (.putfield 25, 3) := by decide +kernel
theorem dX4_init_41 : decode cX4_init 41 = .ok (.aload_n 0, 1) := by decide +kernel
theorem dX4_init_42 : decode cX4_init 42 = .ok (.bipush 7, 2) := by decide +kernel
theorem dX4_init_44 : decode cX4_init 44 = .ok (.newarray .int, 2) := by decide +kernel
theorem dX4_init_46 : decode cX4_init 46 = .ok (.putfield 28, 3) := by decide +kernel
theorem dX4_init_49 : decode cX4_init 49 = .ok (.aload_n 0, 1) := by decide +kernel
theorem dX4_init_50 : decode cX4_init 50 = .ok (.sipush 4032, 3) := by decide +kernel
theorem dX4_init_53 : decode cX4_init 53 = .ok (.newarray .int, 2) := by decide +kernel
theorem dX4_init_55 : decode cX4_init 55 = .ok (.putfield 31, 3) := by decide +kernel
theorem dX4_init_58 : decode cX4_init 58 = .ok (.aload_n 0, 1) := by decide +kernel
theorem dX4_init_59 : decode cX4_init 59 = .ok (.sipush 3584, 3) := by decide +kernel
theorem dX4_init_62 : decode cX4_init 62 = .ok (.newarray .int, 2) := by decide +kernel
theorem dX4_init_64 : decode cX4_init 64 = .ok (.putfield 34, 3) := by decide +kernel
theorem dX4_init_67 : decode cX4_init 67 = .ok (.aload_n 0, 1) := by decide +kernel
theorem dX4_init_68 : decode cX4_init 68 = .ok (.sipush 144, 3) := by decide +kernel
theorem dX4_init_71 : decode cX4_init 71 = .ok (.newarray .int, 2) := by decide +kernel
theorem dX4_init_73 : decode cX4_init 73 = .ok (.putfield 37, 3) := by decide +kernel
theorem dX4_init_76 : decode cX4_init 76 = .ok (.aload_n 0, 1) := by decide +kernel
theorem dX4_init_77 : decode cX4_init 77 = .ok (.sipush 144, 3) := by decide +kernel
theorem dX4_init_80 : decode cX4_init 80 = .ok (.newarray .boolean, 2) := by decide +kernel
theorem dX4_init_82 : decode cX4_init 82 = .ok (.putfield 40, 3) := by decide +kernel
theorem dX4_init_85 : decode cX4_init 85 = .ok (.aload_n 0, 1) := by decide +kernel
theorem dX4_init_86 : decode cX4_init 86 = .ok (.sipush 252, 3) := by decide +kernel
theorem dX4_init_89 : decode cX4_init 89 = .ok (.newarray .int, 2) := by decide +kernel
theorem dX4_init_91 : decode cX4_init 91 = .ok (.putfield 44, 3) := by decide +kernel
theorem dX4_init_94 : decode cX4_init 94 = .ok (.aload_n 0, 1) := by decide +kernel
theorem dX4_init_95 : decode cX4_init 95 = .ok (.iconst 0, 1) := by decide +kernel
theorem dX4_init_96 : decode cX4_init 96 = .ok (.putfield 47, 3) := by decide +kernel
theorem dX4_init_99 : decode cX4_init 99 = .ok (.aload_n 0, 1) := by decide +kernel
theorem dX4_init_100 : decode cX4_init 100 = .ok (.iconst 0, 1) := by decide +kernel
theorem dX4_init_101 : decode cX4_init 101 = .ok (.putfield 51, 3) := by decide +kernel
theorem dX4_init_104 : decode cX4_init 104 = .ok (.return_, 1) := by decide +kernel
theorem dX4_forget_0 : decode cX4_forget 0 = .ok (.aload_n 0, 1) := by decide +kernel
theorem dX4_forget_1 : decode cX4_forget 1 = .ok (.iconst 0, 1) := by decide +kernel
theorem dX4_forget_2 : decode cX4_forget 2 = .ok (.putfield 47, 3) := by decide +kernel
theorem dX4_forget_5 : decode cX4_forget 5 = .ok (.aload_n 0, 1) := by decide +kernel
theorem dX4_forget_6 : decode cX4_forget 6 = .ok (.iconst 0, 1) := by decide +kernel
theorem dX4_forget_7 : decode cX4_forget 7 = .ok (.putfield 51, 3) := by decide +kernel
theorem dX4_forget_10 : decode cX4_forget 10 = .ok (.return_, 1) := by decide +kernel
theorem dX4_isFound_0 : decode cX4_isFound 0 = .ok (.aload_n 0, 1) := by decide +kernel
theorem dX4_isFound_1 : decode cX4_isFound 1 = .ok (.getfield 54, 3) := by decide +kernel
theorem dX4_isFound_4 : decode cX4_isFound 4 = .ok (.ldc 58, 2) := by decide +kernel
theorem dX4_isFound_6 : decode cX4_isFound 6 = .ok (.if_icmp .ge 7, 3) := by decide +kernel
theorem dX4_isFound_9 : decode cX4_isFound 9 = .ok (.iconst 1, 1) := by decide +kernel
theorem dX4_isFound_10 : decode cX4_isFound 10 = .ok (.goto 4, 3) := by decide +kernel
theorem dX4_isFound_13 : decode cX4_isFound 13 = .ok (.iconst 0, 1) := by decide +kernel
theorem dX4_isFound_14 : decode cX4_isFound 14 = .ok (.ireturn, 1) := by decide +kernel
theorem dX4_wayOf_0 : decode cX4_wayOf 0 = .ok (.iload_n 1, 1) := by decide +kernel
theorem dX4_wayOf_1 : decode cX4_wayOf 1 = .ok (.iconst 0, 1) := by decide +kernel
theorem dX4_wayOf_2 : decode cX4_wayOf 2 = .ok (.aload_n 0, 1) := by decide +kernel
theorem dX4_wayOf_3 : decode cX4_wayOf 3 = .ok (.getfield 59, 3) := by decide +kernel
theorem dX4_wayOf_6 : decode cX4_wayOf 6 = .ok (.iconst 1, 1) := by decide +kernel
theorem dX4_wayOf_7 : decode cX4_wayOf 7 = .ok (.isub, 1) := by decide +kernel
theorem dX4_wayOf_8 : decode cX4_wayOf 8 = .ok (.invokestatic 62, 3) := by decide +kernel
theorem dX4_wayOf_11 : decode cX4_wayOf 11 = .ok (.ifCond .eq 12, 3) := by decide +kernel
theorem dX4_wayOf_14 : decode cX4_wayOf 14 = .ok (.aload_n 0, 1) := by decide +kernel
theorem dX4_wayOf_15 : decode cX4_wayOf 15 = .ok (.getfield 44, 3) := by decide +kernel
theorem dX4_wayOf_18 : decode cX4_wayOf 18 = .ok (.iload_n 1, 1) := by decide +kernel
theorem dX4_wayOf_19 : decode cX4_wayOf 19 = .ok (.iaload, 1) := by decide +kernel
theorem dX4_wayOf_20 : decode cX4_wayOf 20 = .ok (.goto 4, 3) := by decide +kernel
theorem dX4_wayOf_23 : decode cX4_wayOf 23 = .ok (.iconst (-1), 1) := by decide +kernel
theorem dX4_wayOf_24 : decode cX4_wayOf 24 = .ok (.ireturn, 1) := by decide +kernel
theorem dX4_seek_0 : decode cX4_seek 0 = .ok (.aload_n 0, 1) := by decide +kernel
theorem dX4_seek_1 : decode cX4_seek 1 = .ok (.getfield 47, 3) := by decide +kernel
theorem dX4_seek_4 : decode cX4_seek 4 = .ok (.ifCond .eq 4, 3) := by decide +kernel
theorem dX4_seek_7 : decode cX4_seek 7 = .ok (.return_, 1) := by decide +kernel
theorem dX4_seek_8 : decode cX4_seek 8 = .ok (.aload_n 0, 1) := by decide +kernel
theorem dX4_seek_9 : decode cX4_seek 9 = .ok (.aload_n 0, 1) := by decide +kernel
theorem dX4_seek_10 : decode cX4_seek 10 = .ok (.aload_n 1, 1) := by decide +kernel
theorem dX4_seek_11 : decode cX4_seek 11 = .ok (.bipush (-4), 2) := by decide +kernel
theorem dX4_seek_13 : decode cX4_seek 13 = .ok (.invokevirtual 66, 3) := by decide +kernel
theorem dX4_seek_16 : decode cX4_seek 16 = .ok (.putfield 54, 3) := by decide +kernel
theorem dX4_seek_19 : decode cX4_seek 19 = .ok (.aload_n 0, 1) := by decide +kernel
theorem dX4_seek_20 : decode cX4_seek 20 = .ok (.invokevirtual 70, 3) := by decide +kernel
theorem dX4_seek_23 : decode cX4_seek 23 = .ok (.aload_n 0, 1) := by decide +kernel
theorem dX4_seek_24 : decode cX4_seek 24 = .ok (.iconst 1, 1) := by decide +kernel
theorem dX4_seek_25 : decode cX4_seek 25 = .ok (.putfield 47, 3) := by decide +kernel
theorem dX4_seek_28 : decode cX4_seek 28 = .ok (.return_, 1) := by decide +kernel
theorem dX4_costOf_0 : decode cX4_costOf 0 = .ok (.iconst 0, 1) := by decide +kernel
theorem dX4_costOf_1 : decode cX4_costOf 1 = .ok (.istore_n 3, 1) := by decide +kernel
theorem dX4_costOf_2 : decode cX4_costOf 2 = .ok (.iconst 0, 1) := by decide +kernel
theorem dX4_costOf_3 : decode cX4_costOf 3 = .ok (.istore 4, 2) := by decide +kernel
theorem dX4_costOf_5 : decode cX4_costOf 5 = .ok (.iload 4, 2) := by decide +kernel
theorem dX4_costOf_7 : decode cX4_costOf 7 = .ok (.iconst 4, 1) := by decide +kernel
theorem dX4_costOf_8 : decode cX4_costOf 8 = .ok (.if_icmp .ge 27, 3) := by decide +kernel
theorem dX4_costOf_11 : decode cX4_costOf 11 = .ok (.iload_n 3, 1) := by decide +kernel
theorem dX4_costOf_12 : decode cX4_costOf 12 = .ok (.aload_n 1, 1) := by decide +kernel
theorem dX4_costOf_13 : decode cX4_costOf 13 = .ok (.iload_n 2, 1) := by decide +kernel
theorem dX4_costOf_14 : decode cX4_costOf 14 = .ok (.iload 4, 2) := by decide +kernel
theorem dX4_costOf_16 : decode cX4_costOf 16 = .ok (.invokevirtual 73, 3) := by decide +kernel
theorem dX4_costOf_19 : decode cX4_costOf 19 = .ok (.ifCond .lt 7, 3) := by decide +kernel
theorem dX4_costOf_22 : decode cX4_costOf 22 = .ok (.iconst 1, 1) := by decide +kernel
theorem dX4_costOf_23 : decode cX4_costOf 23 = .ok (.goto 4, 3) := by decide +kernel
theorem dX4_costOf_26 : decode cX4_costOf 26 = .ok (.iconst 0, 1) := by decide +kernel
theorem dX4_costOf_27 : decode cX4_costOf 27 = .ok (.iadd, 1) := by decide +kernel
theorem dX4_costOf_28 : decode cX4_costOf 28 = .ok (.istore_n 3, 1) := by decide +kernel
theorem dX4_costOf_29 : decode cX4_costOf 29 = .ok (.iinc 4 1, 3) := by decide +kernel
theorem dX4_costOf_32 : decode cX4_costOf 32 = .ok (.goto (-27), 3) := by decide +kernel
theorem dX4_costOf_35 : decode cX4_costOf 35 = .ok (.iload_n 3, 1) := by decide +kernel
theorem dX4_costOf_36 : decode cX4_costOf 36 = .ok (.iconst 2, 1) := by decide +kernel
theorem dX4_costOf_37 : decode cX4_costOf 37 = .ok (.if_icmp .ge 7, 3) := by decide +kernel
theorem dX4_costOf_40 : decode cX4_costOf 40 = .ok (.iconst 0, 1) := by decide +kernel
theorem dX4_costOf_41 : decode cX4_costOf 41 = .ok (.goto 14, 3) := by decide +kernel
theorem dX4_costOf_44 : decode cX4_costOf 44 = .ok (.aload_n 0, 1) := by decide +kernel
theorem dX4_costOf_45 : decode cX4_costOf 45 = .ok (.getfield 54, 3) := by decide +kernel
theorem dX4_costOf_48 : decode cX4_costOf 48 = .ok (.aload_n 0, 1) := by decide +kernel
theorem dX4_costOf_49 : decode cX4_costOf 49 = .ok (.aload_n 1, 1) := by decide +kernel
theorem dX4_costOf_50 : decode cX4_costOf 50 = .ok (.iload_n 2, 1) := by decide +kernel
theorem dX4_costOf_51 : decode cX4_costOf 51 = .ok (.invokevirtual 66, 3) := by decide +kernel
theorem dX4_costOf_54 : decode cX4_costOf 54 = .ok (.isub, 1) := by decide +kernel
theorem dX4_costOf_55 : decode cX4_costOf 55 = .ok (.ireturn, 1) := by decide +kernel
theorem dX4_seekDearest_0 : decode cX4_seekDearest 0 = .ok (.aload_n 0, 1) := by decide +kernel
theorem dX4_seekDearest_1 : decode cX4_seekDearest 1 = .ok (.getfield 51, 3) := by decide +kernel
theorem dX4_seekDearest_4 : decode cX4_seekDearest 4 = .ok (.ifCond .eq 4, 3) := by decide +kernel
theorem dX4_seekDearest_7 : decode cX4_seekDearest 7 = .ok (.return_, 1) := by decide +kernel
theorem dX4_seekDearest_8 : decode cX4_seekDearest 8 = .ok (.aload_n 0, 1) := by decide +kernel
theorem dX4_seekDearest_9 : decode cX4_seekDearest 9 = .ok (.bipush (-4), 2) := by decide +kernel
theorem dX4_seekDearest_11 : decode cX4_seekDearest 11 = .ok (.putfield 77, 3) := by decide +kernel
theorem dX4_seekDearest_14 : decode cX4_seekDearest 14 = .ok (.aload_n 0, 1) := by decide +kernel
theorem dX4_seekDearest_15 : decode cX4_seekDearest 15 = .ok (.iconst 0, 1) := by decide +kernel
theorem dX4_seekDearest_16 : decode cX4_seekDearest 16 = .ok (.putfield 80, 3) := by decide +kernel
theorem dX4_seekDearest_19 : decode cX4_seekDearest 19 = .ok (.iconst 0, 1) := by decide +kernel
theorem dX4_seekDearest_20 : decode cX4_seekDearest 20 = .ok (.istore_n 2, 1) := by decide +kernel
theorem dX4_seekDearest_21 : decode cX4_seekDearest 21 = .ok (.iload_n 2, 1) := by decide +kernel
theorem dX4_seekDearest_22 : decode cX4_seekDearest 22 = .ok (.bipush 36, 2) := by decide +kernel
theorem dX4_seekDearest_24 : decode cX4_seekDearest 24 = .ok (.if_icmp .ge 42, 3) := by decide +kernel
theorem dX4_seekDearest_27 : decode cX4_seekDearest 27 = .ok (.aload_n 1, 1) := by decide +kernel
theorem dX4_seekDearest_28 : decode cX4_seekDearest 28 = .ok (.iload_n 2, 1) := by decide +kernel
theorem dX4_seekDearest_29 : decode cX4_seekDearest 29 = .ok (.invokevirtual 83, 3) := by decide +kernel
theorem dX4_seekDearest_32 : decode cX4_seekDearest 32 = .ok (.ifCond .ne 28, 3) := by decide +kernel
theorem dX4_seekDearest_35 : decode cX4_seekDearest 35 = .ok (.aload_n 0, 1) := by decide +kernel
theorem dX4_seekDearest_36 : decode cX4_seekDearest 36 = .ok (.aload_n 1, 1) := by decide +kernel
theorem dX4_seekDearest_37 : decode cX4_seekDearest 37 = .ok (.iload_n 2, 1) := by decide +kernel
theorem dX4_seekDearest_38 : decode cX4_seekDearest 38 = .ok (.invokevirtual 87, 3) := by decide +kernel
theorem dX4_seekDearest_41 : decode cX4_seekDearest 41 = .ok (.istore_n 3, 1) := by decide +kernel
theorem dX4_seekDearest_42 : decode cX4_seekDearest 42 = .ok (.iload_n 3, 1) := by decide +kernel
theorem dX4_seekDearest_43 : decode cX4_seekDearest 43 = .ok (.aload_n 0, 1) := by decide +kernel
theorem dX4_seekDearest_44 : decode cX4_seekDearest 44 = .ok (.getfield 80, 3) := by decide +kernel
theorem dX4_seekDearest_47 : decode cX4_seekDearest 47 = .ok (.if_icmp .le 13, 3) := by decide +kernel
theorem dX4_seekDearest_50 : decode cX4_seekDearest 50 = .ok (.aload_n 0, 1) := by decide +kernel
theorem dX4_seekDearest_51 : decode cX4_seekDearest 51 = .ok (.iload_n 2, 1) := by decide +kernel
theorem dX4_seekDearest_52 : decode cX4_seekDearest 52 = .ok (.putfield 77, 3) := by decide +kernel
theorem dX4_seekDearest_55 : decode cX4_seekDearest 55 = .ok (.aload_n 0, 1) := by decide +kernel
theorem dX4_seekDearest_56 : decode cX4_seekDearest 56 = .ok (.iload_n 3, 1) := by decide +kernel
theorem dX4_seekDearest_57 : decode cX4_seekDearest 57 = .ok (.putfield 80, 3) := by decide +kernel
theorem dX4_seekDearest_60 : decode cX4_seekDearest 60 = .ok (.iinc 2 1, 3) := by decide +kernel
theorem dX4_seekDearest_63 : decode cX4_seekDearest 63 = .ok (.goto (-42), 3) := by decide +kernel
theorem dX4_seekDearest_66 : decode cX4_seekDearest 66 = .ok (.aload_n 0, 1) := by decide +kernel
theorem dX4_seekDearest_67 : decode cX4_seekDearest 67 = .ok (.iconst 1, 1) := by decide +kernel
theorem dX4_seekDearest_68 : decode cX4_seekDearest 68 = .ok (.putfield 51, 3) := by decide +kernel
theorem dX4_seekDearest_71 : decode cX4_seekDearest 71 = .ok (.return_, 1) := by decide +kernel
theorem dX4_minutesWith_0 : decode cX4_minutesWith 0 = .ok (.aload_n 0, 1) := by decide +kernel
theorem dX4_minutesWith_1 : decode cX4_minutesWith 1 = .ok (.getfield 12, 3) := by decide +kernel
theorem dX4_minutesWith_4 : decode cX4_minutesWith 4 = .ok (.aload_n 1, 1) := by decide +kernel
theorem dX4_minutesWith_5 : decode cX4_minutesWith 5 = .ok (.invokevirtual 90, 3) := by decide +kernel
theorem dX4_minutesWith_8 : decode cX4_minutesWith 8 = .ok (.iload_n 2, 1) := by decide +kernel
theorem dX4_minutesWith_9 : decode cX4_minutesWith 9 = .ok (.invokestatic 94, 3) := by decide +kernel
theorem dX4_minutesWith_12 : decode cX4_minutesWith 12 = .ok (.ifCond .eq 13, 3) := by decide +kernel
theorem dX4_minutesWith_15 : decode cX4_minutesWith 15 = .ok (.aload_n 0, 1) := by decide +kernel
theorem dX4_minutesWith_16 : decode cX4_minutesWith 16 = .ok (.getfield 12, 3) := by decide +kernel
theorem dX4_minutesWith_19 : decode cX4_minutesWith 19 = .ok (.getfield 97, 3) := by decide +kernel
theorem dX4_minutesWith_22 : decode cX4_minutesWith 22 = .ok (.iload_n 2, 1) := by decide +kernel
theorem dX4_minutesWith_23 : decode cX4_minutesWith 23 = .ok (.iconst 3, 1) := by decide +kernel
theorem dX4_minutesWith_24 : decode cX4_minutesWith 24 = .ok (.iastore, 1) := by decide +kernel
theorem dX4_minutesWith_25 : decode cX4_minutesWith 25 = .ok (.aload_n 0, 1) := by decide +kernel
theorem dX4_minutesWith_26 : decode cX4_minutesWith 26 = .ok (.invokevirtual 100, 3) := by decide +kernel
theorem dX4_minutesWith_29 : decode cX4_minutesWith 29 = .ok (.iconst 0, 1) := by decide +kernel
theorem dX4_minutesWith_30 : decode cX4_minutesWith 30 = .ok (.istore_n 3, 1) := by decide +kernel
theorem dX4_minutesWith_31 : decode cX4_minutesWith 31 = .ok (.iload_n 3, 1) := by decide +kernel
theorem dX4_minutesWith_32 : decode cX4_minutesWith 32 = .ok (.aload_n 0, 1) := by decide +kernel
theorem dX4_minutesWith_33 : decode cX4_minutesWith 33 = .ok (.getfield 103, 3) := by decide +kernel
theorem dX4_minutesWith_36 : decode cX4_minutesWith 36 = .ok (.if_icmp .ge 31, 3) := by decide +kernel
theorem dX4_minutesWith_39 : decode cX4_minutesWith 39 = .ok (.iconst 0, 1) := by decide +kernel
theorem dX4_minutesWith_40 : decode cX4_minutesWith 40 = .ok (.istore 4, 2) := by decide +kernel
theorem dX4_minutesWith_42 : decode cX4_minutesWith 42 = .ok (.iload 4, 2) := by decide +kernel
theorem dX4_minutesWith_44 : decode cX4_minutesWith 44 = .ok (.iconst 4, 1) := by decide +kernel
theorem dX4_minutesWith_45 : decode cX4_minutesWith 45 = .ok (.if_icmp .ge 16, 3) := by decide +kernel
theorem dX4_minutesWith_48 : decode cX4_minutesWith 48 = .ok (.aload_n 0, 1) := by decide +kernel
theorem dX4_minutesWith_49 : decode cX4_minutesWith 49 = .ok (.iload_n 3, 1) := by decide +kernel
theorem dX4_minutesWith_50 : decode cX4_minutesWith 50 = .ok (.iload 4, 2) := by decide +kernel
theorem dX4_minutesWith_52 : decode cX4_minutesWith 52 = .ok (.invokevirtual 106, 3) := by decide +kernel
theorem dX4_minutesWith_55 : decode cX4_minutesWith 55 = .ok (.iinc 4 1, 3) := by decide +kernel
theorem dX4_minutesWith_58 : decode cX4_minutesWith 58 = .ok (.goto (-16), 3) := by decide +kernel
theorem dX4_minutesWith_61 : decode cX4_minutesWith 61 = .ok (.iinc 3 1, 3) := by decide +kernel
theorem dX4_minutesWith_64 : decode cX4_minutesWith 64 = .ok (.goto (-33), 3) := by decide +kernel
theorem dX4_minutesWith_67 : decode cX4_minutesWith 67 = .ok (.aload_n 0, 1) := by decide +kernel
theorem dX4_minutesWith_68 : decode cX4_minutesWith 68 = .ok (.invokevirtual 110, 3) := by decide +kernel
theorem dX4_minutesWith_71 : decode cX4_minutesWith 71 = .ok (.istore_n 3, 1) := by decide +kernel
theorem dX4_minutesWith_72 : decode cX4_minutesWith 72 = .ok (.aload_n 0, 1) := by decide +kernel
theorem dX4_minutesWith_73 : decode cX4_minutesWith 73 = .ok (.getfield 114, 3) := by decide +kernel
theorem dX4_minutesWith_76 : decode cX4_minutesWith 76 = .ok (.istore 4, 2) := by decide +kernel
theorem dX4_minutesWith_78 : decode cX4_minutesWith 78 = .ok (.iload 4, 2) := by decide +kernel
theorem dX4_minutesWith_80 : decode cX4_minutesWith 80 = .ok (.ifCond .lt 23, 3) := by decide +kernel
theorem dX4_minutesWith_83 : decode cX4_minutesWith 83 = .ok (.iload 4, 2) := by decide +kernel
theorem dX4_minutesWith_85 : decode cX4_minutesWith 85 = .ok (.iload_n 3, 1) := by decide +kernel
theorem dX4_minutesWith_86 : decode cX4_minutesWith 86 = .ok (.iand, 1) := by decide +kernel
theorem dX4_minutesWith_87 : decode cX4_minutesWith 87 = .ok (.iload_n 3, 1) := by decide +kernel
theorem dX4_minutesWith_88 : decode cX4_minutesWith 88 = .ok (.if_icmp .ne 9, 3) := by decide +kernel
theorem dX4_minutesWith_91 : decode cX4_minutesWith 91 = .ok (.aload_n 0, 1) := by decide +kernel
theorem dX4_minutesWith_92 : decode cX4_minutesWith 92 = .ok (.iload 4, 2) := by decide +kernel
theorem dX4_minutesWith_94 : decode cX4_minutesWith 94 = .ok (.invokevirtual 117, 3) := by decide +kernel
theorem dX4_minutesWith_97 : decode cX4_minutesWith 97 = .ok (.iinc 4 (-1), 3) := by decide +kernel
theorem dX4_minutesWith_100 : decode cX4_minutesWith 100 = .ok (.goto (-22), 3) := by decide +kernel
theorem dX4_minutesWith_103 : decode cX4_minutesWith 103 = .ok (.aload_n 0, 1) := by decide +kernel
theorem dX4_minutesWith_104 : decode cX4_minutesWith 104 = .ok (.aload_n 0, 1) := by decide +kernel
theorem dX4_minutesWith_105 : decode cX4_minutesWith 105 = .ok (.getfield 12, 3) := by decide +kernel
theorem dX4_minutesWith_108 : decode cX4_minutesWith 108 = .ok (.iconst 0, 1) := by decide +kernel
theorem dX4_minutesWith_109 : decode cX4_minutesWith 109 = .ok (.invokevirtual 121, 3) := by decide +kernel
theorem dX4_minutesWith_112 : decode cX4_minutesWith 112 = .ok (.iconst 4, 1) := by decide +kernel
theorem dX4_minutesWith_113 : decode cX4_minutesWith 113 = .ok (.imul, 1) := by decide +kernel
theorem dX4_minutesWith_114 : decode cX4_minutesWith 114 = .ok (.iconst 0, 1) := by decide +kernel
theorem dX4_minutesWith_115 : decode cX4_minutesWith 115 = .ok (.iadd, 1) := by decide +kernel
theorem dX4_minutesWith_116 : decode cX4_minutesWith 116 = .ok (.iload_n 3, 1) := by decide +kernel
theorem dX4_minutesWith_117 : decode cX4_minutesWith 117 = .ok (.invokevirtual 125, 3) := by decide +kernel
theorem dX4_minutesWith_120 : decode cX4_minutesWith 120 = .ok (.ireturn, 1) := by decide +kernel
theorem dX4_seenAtFirst_0 : decode cX4_seenAtFirst 0 = .ok (.aload_n 0, 1) := by decide +kernel
theorem dX4_seenAtFirst_1 : decode cX4_seenAtFirst 1 = .ok (.getfield 12, 3) := by decide +kernel
theorem dX4_seenAtFirst_4 : decode cX4_seenAtFirst 4 = .ok (.iconst 0, 1) := by decide +kernel
theorem dX4_seenAtFirst_5 : decode cX4_seenAtFirst 5 = .ok (.invokevirtual 121, 3) := by decide +kernel
theorem dX4_seenAtFirst_8 : decode cX4_seenAtFirst 8 = .ok (.istore_n 1, 1) := by decide +kernel
theorem dX4_seenAtFirst_9 : decode cX4_seenAtFirst 9 = .ok (.iload_n 1, 1) := by decide +kernel
theorem dX4_seenAtFirst_10 : decode cX4_seenAtFirst 10 = .ok (.invokestatic 94, 3) := by decide +kernel
theorem dX4_seenAtFirst_13 : decode cX4_seenAtFirst 13 = .ok (.ifCond .eq 12, 3) := by decide +kernel
theorem dX4_seenAtFirst_16 : decode cX4_seenAtFirst 16 = .ok (.aload_n 0, 1) := by decide +kernel
theorem dX4_seenAtFirst_17 : decode cX4_seenAtFirst 17 = .ok (.getfield 25, 3) := by decide +kernel
theorem dX4_seenAtFirst_20 : decode cX4_seenAtFirst 20 = .ok (.iload_n 1, 1) := by decide +kernel
theorem dX4_seenAtFirst_21 : decode cX4_seenAtFirst 21 = .ok (.iaload, 1) := by decide +kernel
theorem dX4_seenAtFirst_22 : decode cX4_seenAtFirst 22 = .ok (.goto 4, 3) := by decide +kernel
theorem dX4_seenAtFirst_25 : decode cX4_seenAtFirst 25 = .ok (.iconst 0, 1) := by decide +kernel
theorem dX4_seenAtFirst_26 : decode cX4_seenAtFirst 26 = .ok (.ireturn, 1) := by decide +kernel
theorem dX4_chart_0 : decode cX4_chart 0 = .ok (.aload_n 0, 1) := by decide +kernel
theorem dX4_chart_1 : decode cX4_chart 1 = .ok (.aload_n 0, 1) := by decide +kernel
theorem dX4_chart_2 : decode cX4_chart 2 = .ok (.getfield 12, 3) := by decide +kernel
theorem dX4_chart_5 : decode cX4_chart 5 = .ok (.iconst 1, 1) := by decide +kernel
theorem dX4_chart_6 : decode cX4_chart 6 = .ok (.invokevirtual 121, 3) := by decide +kernel
theorem dX4_chart_9 : decode cX4_chart 9 = .ok (.putfield 128, 3) := by decide +kernel
theorem dX4_chart_12 : decode cX4_chart 12 = .ok (.aload_n 0, 1) := by decide +kernel
theorem dX4_chart_13 : decode cX4_chart 13 = .ok (.iconst 0, 1) := by decide +kernel
theorem dX4_chart_14 : decode cX4_chart 14 = .ok (.putfield 103, 3) := by decide +kernel
theorem dX4_chart_17 : decode cX4_chart 17 = .ok (.iconst 0, 1) := by decide +kernel
theorem dX4_chart_18 : decode cX4_chart 18 = .ok (.istore_n 1, 1) := by decide +kernel
theorem dX4_chart_19 : decode cX4_chart 19 = .ok (.iload_n 1, 1) := by decide +kernel
theorem dX4_chart_20 : decode cX4_chart 20 = .ok (.bipush 36, 2) := by decide +kernel
theorem dX4_chart_22 : decode cX4_chart 22 = .ok (.if_icmp .ge 121, 3) := by decide +kernel
theorem dX4_chart_25 : decode cX4_chart 25 = .ok (.aload_n 0, 1) := by decide +kernel
theorem dX4_chart_26 : decode cX4_chart 26 = .ok (.getfield 25, 3) := by decide +kernel
theorem dX4_chart_29 : decode cX4_chart 29 = .ok (.iload_n 1, 1) := by decide +kernel
theorem dX4_chart_30 : decode cX4_chart 30 = .ok (.iconst 0, 1) := by decide +kernel
theorem dX4_chart_31 : decode cX4_chart 31 = .ok (.iastore, 1) := by decide +kernel
theorem dX4_chart_32 : decode cX4_chart 32 = .ok (.aload_n 0, 1) := by decide +kernel
theorem dX4_chart_33 : decode cX4_chart 33 = .ok (.getfield 12, 3) := by decide +kernel
theorem dX4_chart_36 : decode cX4_chart 36 = .ok (.iload_n 1, 1) := by decide +kernel
theorem dX4_chart_37 : decode cX4_chart 37 = .ok (.invokevirtual 131, 3) := by decide +kernel
theorem dX4_chart_40 : decode cX4_chart 40 = .ok (.ifCond .eq 44, 3) := by decide +kernel
theorem dX4_chart_43 : decode cX4_chart 43 = .ok (.aload_n 0, 1) := by decide +kernel
theorem dX4_chart_44 : decode cX4_chart 44 = .ok (.getfield 103, 3) := by decide +kernel
theorem dX4_chart_47 : decode cX4_chart 47 = .ok (.bipush 7, 2) := by decide +kernel
theorem dX4_chart_49 : decode cX4_chart 49 = .ok (.if_icmp .ge 35, 3) := by decide +kernel
theorem dX4_chart_52 : decode cX4_chart 52 = .ok (.aload_n 0, 1) := by decide +kernel
theorem dX4_chart_53 : decode cX4_chart 53 = .ok (.getfield 25, 3) := by decide +kernel
theorem dX4_chart_56 : decode cX4_chart 56 = .ok (.iload_n 1, 1) := by decide +kernel
theorem dX4_chart_57 : decode cX4_chart 57 = .ok (.iconst 1, 1) := by decide +kernel
theorem dX4_chart_58 : decode cX4_chart 58 = .ok (.aload_n 0, 1) := by decide +kernel
theorem dX4_chart_59 : decode cX4_chart 59 = .ok (.getfield 103, 3) := by decide +kernel
theorem dX4_chart_62 : decode cX4_chart 62 = .ok (.ishl, 1) := by decide +kernel
theorem dX4_chart_63 : decode cX4_chart 63 = .ok (.iastore, 1) := by decide +kernel
theorem dX4_chart_64 : decode cX4_chart 64 = .ok (.aload_n 0, 1) := by decide +kernel
theorem dX4_chart_65 : decode cX4_chart 65 = .ok (.getfield 28, 3) := by decide +kernel
theorem dX4_chart_68 : decode cX4_chart 68 = .ok (.aload_n 0, 1) := by decide +kernel
theorem dX4_chart_69 : decode cX4_chart 69 = .ok (.getfield 103, 3) := by decide +kernel
theorem dX4_chart_72 : decode cX4_chart 72 = .ok (.iload_n 1, 1) := by decide +kernel
theorem dX4_chart_73 : decode cX4_chart 73 = .ok (.iastore, 1) := by decide +kernel
theorem dX4_chart_74 : decode cX4_chart 74 = .ok (.aload_n 0, 1) := by decide +kernel
theorem dX4_chart_75 : decode cX4_chart 75 = .ok (.dup, 1) := by decide +kernel
theorem dX4_chart_76 : decode cX4_chart 76 = .ok (.getfield 103, 3) := by decide +kernel
theorem dX4_chart_79 : decode cX4_chart 79 = .ok (.iconst 1, 1) := by decide +kernel
theorem dX4_chart_80 : decode cX4_chart 80 = .ok (.iadd, 1) := by decide +kernel
theorem dX4_chart_81 : decode cX4_chart 81 = .ok (.putfield 103, 3) := by decide +kernel
theorem dX4_chart_84 : decode cX4_chart 84 = .ok (.iconst 0, 1) := by decide +kernel
theorem dX4_chart_85 : decode cX4_chart 85 = .ok (.istore_n 2, 1) := by decide +kernel
theorem dX4_chart_86 : decode cX4_chart 86 = .ok (.iload_n 2, 1) := by decide +kernel
theorem dX4_chart_87 : decode cX4_chart 87 = .ok (.iconst 4, 1) := by decide +kernel
theorem dX4_chart_88 : decode cX4_chart 88 = .ok (.if_icmp .ge 49, 3) := by decide +kernel
theorem dX4_chart_91 : decode cX4_chart 91 = .ok (.aload_n 0, 1) := by decide +kernel
theorem dX4_chart_92 : decode cX4_chart 92 = .ok (.getfield 12, 3) := by decide +kernel
theorem dX4_chart_95 : decode cX4_chart 95 = .ok (.iload_n 1, 1) := by decide +kernel
theorem dX4_chart_96 : decode cX4_chart 96 = .ok (.iload_n 2, 1) := by decide +kernel
theorem dX4_chart_97 : decode cX4_chart 97 = .ok (.invokevirtual 73, 3) := by decide +kernel
theorem dX4_chart_100 : decode cX4_chart 100 = .ok (.istore_n 3, 1) := by decide +kernel
theorem dX4_chart_101 : decode cX4_chart 101 = .ok (.aload_n 0, 1) := by decide +kernel
theorem dX4_chart_102 : decode cX4_chart 102 = .ok (.getfield 18, 3) := by decide +kernel
theorem dX4_chart_105 : decode cX4_chart 105 = .ok (.iload_n 1, 1) := by decide +kernel
theorem dX4_chart_106 : decode cX4_chart 106 = .ok (.iconst 4, 1) := by decide +kernel
theorem dX4_chart_107 : decode cX4_chart 107 = .ok (.imul, 1) := by decide +kernel
theorem dX4_chart_108 : decode cX4_chart 108 = .ok (.iload_n 2, 1) := by decide +kernel
theorem dX4_chart_109 : decode cX4_chart 109 = .ok (.iadd, 1) := by decide +kernel
theorem dX4_chart_110 : decode cX4_chart 110 = .ok (.iload_n 3, 1) := by decide +kernel
theorem dX4_chart_111 : decode cX4_chart 111 = .ok (.iastore, 1) := by decide +kernel
theorem dX4_chart_112 : decode cX4_chart 112 = .ok (.aload_n 0, 1) := by decide +kernel
theorem dX4_chart_113 : decode cX4_chart 113 = .ok (.getfield 22, 3) := by decide +kernel
theorem dX4_chart_116 : decode cX4_chart 116 = .ok (.iload_n 1, 1) := by decide +kernel
theorem dX4_chart_117 : decode cX4_chart 117 = .ok (.iconst 4, 1) := by decide +kernel
theorem dX4_chart_118 : decode cX4_chart 118 = .ok (.imul, 1) := by decide +kernel
theorem dX4_chart_119 : decode cX4_chart 119 = .ok (.iload_n 2, 1) := by decide +kernel
theorem dX4_chart_120 : decode cX4_chart 120 = .ok (.iadd, 1) := by decide +kernel
theorem dX4_chart_121 : decode cX4_chart 121 = .ok (.aload_n 0, 1) := by decide +kernel
theorem dX4_chart_122 : decode cX4_chart 122 = .ok (.getfield 12, 3) := by decide +kernel
theorem dX4_chart_125 : decode cX4_chart 125 = .ok (.iload_n 2, 1) := by decide +kernel
theorem dX4_chart_126 : decode cX4_chart 126 = .ok (.iload_n 3, 1) := by decide +kernel
theorem dX4_chart_127 : decode cX4_chart 127 = .ok (.invokevirtual 134, 3) := by decide +kernel
theorem dX4_chart_130 : decode cX4_chart 130 = .ok (.iastore, 1) := by decide +kernel
theorem dX4_chart_131 : decode cX4_chart 131 = .ok (.iinc 2 1, 3) := by decide +kernel
theorem dX4_chart_134 : decode cX4_chart 134 = .ok (.goto (-48), 3) := by decide +kernel
theorem dX4_chart_137 : decode cX4_chart 137 = .ok (.iinc 1 1, 3) := by decide +kernel
theorem dX4_chart_140 : decode cX4_chart 140 = .ok (.goto (-121), 3) := by decide +kernel
theorem dX4_chart_143 : decode cX4_chart 143 = .ok (.aload_n 0, 1) := by decide +kernel
theorem dX4_chart_144 : decode cX4_chart 144 = .ok (.iconst 1, 1) := by decide +kernel
theorem dX4_chart_145 : decode cX4_chart 145 = .ok (.aload_n 0, 1) := by decide +kernel
theorem dX4_chart_146 : decode cX4_chart 146 = .ok (.getfield 103, 3) := by decide +kernel
theorem dX4_chart_149 : decode cX4_chart 149 = .ok (.ishl, 1) := by decide +kernel
theorem dX4_chart_150 : decode cX4_chart 150 = .ok (.iconst 1, 1) := by decide +kernel
theorem dX4_chart_151 : decode cX4_chart 151 = .ok (.isub, 1) := by decide +kernel
theorem dX4_chart_152 : decode cX4_chart 152 = .ok (.putfield 114, 3) := by decide +kernel
theorem dX4_chart_155 : decode cX4_chart 155 = .ok (.aload_n 0, 1) := by decide +kernel
theorem dX4_chart_156 : decode cX4_chart 156 = .ok (.getfield 31, 3) := by decide +kernel
theorem dX4_chart_159 : decode cX4_chart 159 = .ok (.ldc 58, 2) := by decide +kernel
theorem dX4_chart_161 : decode cX4_chart 161 = .ok (.invokestatic 137, 3) := by decide +kernel
theorem dX4_chart_164 : decode cX4_chart 164 = .ok (.return_, 1) := by decide +kernel
theorem dX4_measure_0 : decode cX4_measure 0 = .ok (.iload_n 1, 1) := by decide +kernel
theorem dX4_measure_1 : decode cX4_measure 1 = .ok (.iconst 4, 1) := by decide +kernel
theorem dX4_measure_2 : decode cX4_measure 2 = .ok (.imul, 1) := by decide +kernel
theorem dX4_measure_3 : decode cX4_measure 3 = .ok (.iload_n 2, 1) := by decide +kernel
theorem dX4_measure_4 : decode cX4_measure 4 = .ok (.iadd, 1) := by decide +kernel
theorem dX4_measure_5 : decode cX4_measure 5 = .ok (.sipush 144, 3) := by decide +kernel
theorem dX4_measure_8 : decode cX4_measure 8 = .ok (.imul, 1) := by decide +kernel
theorem dX4_measure_9 : decode cX4_measure 9 = .ok (.istore_n 3, 1) := by decide +kernel
theorem dX4_measure_10 : decode cX4_measure 10 = .ok (.aload_n 0, 1) := by decide +kernel
theorem dX4_measure_11 : decode cX4_measure 11 = .ok (.getfield 28, 3) := by decide +kernel
theorem dX4_measure_14 : decode cX4_measure 14 = .ok (.iload_n 1, 1) := by decide +kernel
theorem dX4_measure_15 : decode cX4_measure 15 = .ok (.iaload, 1) := by decide +kernel
theorem dX4_measure_16 : decode cX4_measure 16 = .ok (.iconst 4, 1) := by decide +kernel
theorem dX4_measure_17 : decode cX4_measure 17 = .ok (.imul, 1) := by decide +kernel
theorem dX4_measure_18 : decode cX4_measure 18 = .ok (.iload_n 2, 1) := by decide +kernel
theorem dX4_measure_19 : decode cX4_measure 19 = .ok (.iadd, 1) := by decide +kernel
theorem dX4_measure_20 : decode cX4_measure 20 = .ok (.istore 4, 2) := by decide +kernel
theorem dX4_measure_22 : decode cX4_measure 22 = .ok (.aload_n 0, 1) := by decide +kernel
theorem dX4_measure_23 : decode cX4_measure 23 = .ok (.getfield 31, 3) := by decide +kernel
theorem dX4_measure_26 : decode cX4_measure 26 = .ok (.iload_n 3, 1) := by decide +kernel
theorem dX4_measure_27 : decode cX4_measure 27 = .ok (.iload 4, 2) := by decide +kernel
theorem dX4_measure_29 : decode cX4_measure 29 = .ok (.iadd, 1) := by decide +kernel
theorem dX4_measure_30 : decode cX4_measure 30 = .ok (.iconst 0, 1) := by decide +kernel
theorem dX4_measure_31 : decode cX4_measure 31 = .ok (.iastore, 1) := by decide +kernel
theorem dX4_measure_32 : decode cX4_measure 32 = .ok (.aload_n 0, 1) := by decide +kernel
theorem dX4_measure_33 : decode cX4_measure 33 = .ok (.getfield 37, 3) := by decide +kernel
theorem dX4_measure_36 : decode cX4_measure 36 = .ok (.iconst 0, 1) := by decide +kernel
theorem dX4_measure_37 : decode cX4_measure 37 = .ok (.iload 4, 2) := by decide +kernel
theorem dX4_measure_39 : decode cX4_measure 39 = .ok (.iastore, 1) := by decide +kernel
theorem dX4_measure_40 : decode cX4_measure 40 = .ok (.iconst 0, 1) := by decide +kernel
theorem dX4_measure_41 : decode cX4_measure 41 = .ok (.istore 5, 2) := by decide +kernel
theorem dX4_measure_43 : decode cX4_measure 43 = .ok (.iconst 1, 1) := by decide +kernel
theorem dX4_measure_44 : decode cX4_measure 44 = .ok (.istore 6, 2) := by decide +kernel
theorem dX4_measure_46 : decode cX4_measure 46 = .ok (.iconst 0, 1) := by decide +kernel
theorem dX4_measure_47 : decode cX4_measure 47 = .ok (.istore 7, 2) := by decide +kernel
theorem dX4_measure_49 : decode cX4_measure 49 = .ok (.iload 7, 2) := by decide +kernel
theorem dX4_measure_51 : decode cX4_measure 51 = .ok (.ldc 58, 2) := by decide +kernel
theorem dX4_measure_53 : decode cX4_measure 53 = .ok (.if_icmp .ge 180, 3) := by decide +kernel
theorem dX4_measure_56 : decode cX4_measure 56 = .ok (.iload 6, 2) := by decide +kernel
theorem dX4_measure_58 : decode cX4_measure 58 = .ok (.ifCond .le 175, 3) := by decide +kernel
theorem dX4_measure_61 : decode cX4_measure 61 = .ok (.aload_n 0, 1) := by decide +kernel
theorem dX4_measure_62 : decode cX4_measure 62 = .ok (.getfield 37, 3) := by decide +kernel
theorem dX4_measure_65 : decode cX4_measure 65 = .ok (.iload 5, 2) := by decide +kernel
theorem dX4_measure_67 : decode cX4_measure 67 = .ok (.iaload, 1) := by decide +kernel
theorem dX4_measure_68 : decode cX4_measure 68 = .ok (.istore 8, 2) := by decide +kernel
theorem dX4_measure_70 : decode cX4_measure 70 = .ok (.iload 5, 2) := by decide +kernel
theorem dX4_measure_72 : decode cX4_measure 72 = .ok (.iconst 1, 1) := by decide +kernel
theorem dX4_measure_73 : decode cX4_measure 73 = .ok (.iadd, 1) := by decide +kernel
theorem dX4_measure_74 : decode cX4_measure 74 = .ok (.sipush 144, 3) := by decide +kernel
theorem dX4_measure_77 : decode cX4_measure 77 = .ok (.irem, 1) := by decide +kernel
theorem dX4_measure_78 : decode cX4_measure 78 = .ok (.istore 5, 2) := by decide +kernel
theorem dX4_measure_80 : decode cX4_measure 80 = .ok (.iinc 6 (-1), 3) := by decide +kernel
theorem dX4_measure_83 : decode cX4_measure 83 = .ok (.aload_n 0, 1) := by decide +kernel
theorem dX4_measure_84 : decode cX4_measure 84 = .ok (.getfield 40, 3) := by decide +kernel
theorem dX4_measure_87 : decode cX4_measure 87 = .ok (.iload 8, 2) := by decide +kernel
theorem dX4_measure_89 : decode cX4_measure 89 = .ok (.iconst 0, 1) := by decide +kernel
theorem dX4_measure_90 : decode cX4_measure 90 = .ok (.bastore, 1) := by decide +kernel
theorem dX4_measure_91 : decode cX4_measure 91 = .ok (.iload 8, 2) := by decide +kernel
theorem dX4_measure_93 : decode cX4_measure 93 = .ok (.iconst 4, 1) := by decide +kernel
theorem dX4_measure_94 : decode cX4_measure 94 = .ok (.irem, 1) := by decide +kernel
theorem dX4_measure_95 : decode cX4_measure 95 = .ok (.istore 9, 2) := by decide +kernel
theorem dX4_measure_97 : decode cX4_measure 97 = .ok (.aload_n 0, 1) := by decide +kernel
theorem dX4_measure_98 : decode cX4_measure 98 = .ok (.getfield 18, 3) := by decide +kernel
theorem dX4_measure_101 : decode cX4_measure 101 = .ok (.iload 8, 2) := by decide +kernel
theorem dX4_measure_103 : decode cX4_measure 103 = .ok (.iload 9, 2) := by decide +kernel
theorem dX4_measure_105 : decode cX4_measure 105 = .ok (.isub, 1) := by decide +kernel
theorem dX4_measure_106 : decode cX4_measure 106 = .ok (.iload 9, 2) := by decide +kernel
theorem dX4_measure_108 : decode cX4_measure 108 = .ok (.iconst 2, 1) := by decide +kernel
theorem dX4_measure_109 : decode cX4_measure 109 = .ok (.iadd, 1) := by decide +kernel
theorem dX4_measure_110 : decode cX4_measure 110 = .ok (.iconst 4, 1) := by decide +kernel
theorem dX4_measure_111 : decode cX4_measure 111 = .ok (.irem, 1) := by decide +kernel
theorem dX4_measure_112 : decode cX4_measure 112 = .ok (.iadd, 1) := by decide +kernel
theorem dX4_measure_113 : decode cX4_measure 113 = .ok (.iaload, 1) := by decide +kernel
theorem dX4_measure_114 : decode cX4_measure 114 = .ok (.istore 10, 2) := by decide +kernel
theorem dX4_measure_116 : decode cX4_measure 116 = .ok (.iconst 0, 1) := by decide +kernel
theorem dX4_measure_117 : decode cX4_measure 117 = .ok (.istore 11, 2) := by decide +kernel
theorem dX4_measure_119 : decode cX4_measure 119 = .ok (.iload 11, 2) := by decide +kernel
theorem dX4_measure_121 : decode cX4_measure 121 = .ok (.iconst 4, 1) := by decide +kernel
theorem dX4_measure_122 : decode cX4_measure 122 = .ok (.if_icmp .ge 105, 3) := by decide +kernel
theorem dX4_measure_125 : decode cX4_measure 125 = .ok (.iload 10, 2) := by decide +kernel
theorem dX4_measure_127 : decode cX4_measure 127 = .ok (.ifCond .lt 100, 3) := by decide +kernel
theorem dX4_measure_130 : decode cX4_measure 130 = .ok (.iload 10, 2) := by decide +kernel
theorem dX4_measure_132 : decode cX4_measure 132 = .ok (.iconst 4, 1) := by decide +kernel
theorem dX4_measure_133 : decode cX4_measure 133 = .ok (.imul, 1) := by decide +kernel
theorem dX4_measure_134 : decode cX4_measure 134 = .ok (.iload 11, 2) := by decide +kernel
theorem dX4_measure_136 : decode cX4_measure 136 = .ok (.iadd, 1) := by decide +kernel
theorem dX4_measure_137 : decode cX4_measure 137 = .ok (.istore 12, 2) := by decide +kernel
theorem dX4_measure_139 : decode cX4_measure 139 = .ok (.aload_n 0, 1) := by decide +kernel
theorem dX4_measure_140 : decode cX4_measure 140 = .ok (.getfield 31, 3) := by decide +kernel
theorem dX4_measure_143 : decode cX4_measure 143 = .ok (.iload_n 3, 1) := by decide +kernel
theorem dX4_measure_144 : decode cX4_measure 144 = .ok (.iload 8, 2) := by decide +kernel
theorem dX4_measure_146 : decode cX4_measure 146 = .ok (.iadd, 1) := by decide +kernel
theorem dX4_measure_147 : decode cX4_measure 147 = .ok (.iaload, 1) := by decide +kernel
theorem dX4_measure_148 : decode cX4_measure 148 = .ok (.aload_n 0, 1) := by decide +kernel
theorem dX4_measure_149 : decode cX4_measure 149 = .ok (.iload 12, 2) := by decide +kernel
theorem dX4_measure_151 : decode cX4_measure 151 = .ok (.iload 9, 2) := by decide +kernel
theorem dX4_measure_153 : decode cX4_measure 153 = .ok (.invokevirtual 143, 3) := by decide +kernel
theorem dX4_measure_156 : decode cX4_measure 156 = .ok (.iadd, 1) := by decide +kernel
theorem dX4_measure_157 : decode cX4_measure 157 = .ok (.istore 13, 2) := by decide +kernel
theorem dX4_measure_159 : decode cX4_measure 159 = .ok (.iload 13, 2) := by decide +kernel
theorem dX4_measure_161 : decode cX4_measure 161 = .ok (.aload_n 0, 1) := by decide +kernel
theorem dX4_measure_162 : decode cX4_measure 162 = .ok (.getfield 31, 3) := by decide +kernel
theorem dX4_measure_165 : decode cX4_measure 165 = .ok (.iload_n 3, 1) := by decide +kernel
theorem dX4_measure_166 : decode cX4_measure 166 = .ok (.iload 12, 2) := by decide +kernel
theorem dX4_measure_168 : decode cX4_measure 168 = .ok (.iadd, 1) := by decide +kernel
theorem dX4_measure_169 : decode cX4_measure 169 = .ok (.iaload, 1) := by decide +kernel
theorem dX4_measure_170 : decode cX4_measure 170 = .ok (.if_icmp .ge 51, 3) := by decide +kernel
theorem dX4_measure_173 : decode cX4_measure 173 = .ok (.aload_n 0, 1) := by decide +kernel
theorem dX4_measure_174 : decode cX4_measure 174 = .ok (.getfield 31, 3) := by decide +kernel
theorem dX4_measure_177 : decode cX4_measure 177 = .ok (.iload_n 3, 1) := by decide +kernel
theorem dX4_measure_178 : decode cX4_measure 178 = .ok (.iload 12, 2) := by decide +kernel
theorem dX4_measure_180 : decode cX4_measure 180 = .ok (.iadd, 1) := by decide +kernel
theorem dX4_measure_181 : decode cX4_measure 181 = .ok (.iload 13, 2) := by decide +kernel
theorem dX4_measure_183 : decode cX4_measure 183 = .ok (.iastore, 1) := by decide +kernel
theorem dX4_measure_184 : decode cX4_measure 184 = .ok (.aload_n 0, 1) := by decide +kernel
theorem dX4_measure_185 : decode cX4_measure 185 = .ok (.getfield 40, 3) := by decide +kernel
theorem dX4_measure_188 : decode cX4_measure 188 = .ok (.iload 12, 2) := by decide +kernel
theorem dX4_measure_190 : decode cX4_measure 190 = .ok (.baload, 1) := by decide +kernel
theorem dX4_measure_191 : decode cX4_measure 191 = .ok (.ifCond .ne 30, 3) := by decide +kernel
theorem dX4_measure_194 : decode cX4_measure 194 = .ok (.aload_n 0, 1) := by decide +kernel
theorem dX4_measure_195 : decode cX4_measure 195 = .ok (.getfield 40, 3) := by decide +kernel
theorem dX4_measure_198 : decode cX4_measure 198 = .ok (.iload 12, 2) := by decide +kernel
theorem dX4_measure_200 : decode cX4_measure 200 = .ok (.iconst 1, 1) := by decide +kernel
theorem dX4_measure_201 : decode cX4_measure 201 = .ok (.bastore, 1) := by decide +kernel
theorem dX4_measure_202 : decode cX4_measure 202 = .ok (.aload_n 0, 1) := by decide +kernel
theorem dX4_measure_203 : decode cX4_measure 203 = .ok (.getfield 37, 3) := by decide +kernel
theorem dX4_measure_206 : decode cX4_measure 206 = .ok (.iload 5, 2) := by decide +kernel
theorem dX4_measure_208 : decode cX4_measure 208 = .ok (.iload 6, 2) := by decide +kernel
theorem dX4_measure_210 : decode cX4_measure 210 = .ok (.iadd, 1) := by decide +kernel
theorem dX4_measure_211 : decode cX4_measure 211 = .ok (.sipush 144, 3) := by decide +kernel
theorem dX4_measure_214 : decode cX4_measure 214 = .ok (.irem, 1) := by decide +kernel
theorem dX4_measure_215 : decode cX4_measure 215 = .ok (.iload 12, 2) := by decide +kernel
theorem dX4_measure_217 : decode cX4_measure 217 = .ok (.iastore, 1) := by decide +kernel
theorem dX4_measure_218 : decode cX4_measure 218 = .ok (.iinc 6 1, 3) := by decide +kernel
theorem dX4_measure_221 : decode cX4_measure 221 = .ok (.iinc 11 1, 3) := by decide +kernel
theorem dX4_measure_224 : decode cX4_measure 224 = .ok (.goto (-105), 3) := by decide +kernel
theorem dX4_measure_227 : decode cX4_measure 227 = .ok (.iinc 7 1, 3) := by decide +kernel
theorem dX4_measure_230 : decode cX4_measure 230 = .ok (.goto (-181), 3) := by decide +kernel
theorem dX4_measure_233 : decode cX4_measure 233 = .ok (.return_, 1) := by decide +kernel
theorem dX4_minutesToGo_0 : decode cX4_minutesToGo 0 = .ok (.iload_n 1, 1) := by decide +kernel
theorem dX4_minutesToGo_1 : decode cX4_minutesToGo 1 = .ok (.iconst 4, 1) := by decide +kernel
theorem dX4_minutesToGo_2 : decode cX4_minutesToGo 2 = .ok (.irem, 1) := by decide +kernel
theorem dX4_minutesToGo_3 : decode cX4_minutesToGo 3 = .ok (.istore_n 3, 1) := by decide +kernel
theorem dX4_minutesToGo_4 : decode cX4_minutesToGo 4 = .ok (.aload_n 0, 1) := by decide +kernel
theorem dX4_minutesToGo_5 : decode cX4_minutesToGo 5 = .ok (.getfield 128, 3) := by decide +kernel
theorem dX4_minutesToGo_8 : decode cX4_minutesToGo 8 = .ok (.iload_n 3, 1) := by decide +kernel
theorem dX4_minutesToGo_9 : decode cX4_minutesToGo 9 = .ok (.iload_n 2, 1) := by decide +kernel
theorem dX4_minutesToGo_10 : decode cX4_minutesToGo 10 = .ok (.invokestatic 146, 3) := by decide +kernel
theorem dX4_minutesToGo_13 : decode cX4_minutesToGo 13 = .ok (.imul, 1) := by decide +kernel
theorem dX4_minutesToGo_14 : decode cX4_minutesToGo 14 = .ok (.aload_n 0, 1) := by decide +kernel
theorem dX4_minutesToGo_15 : decode cX4_minutesToGo 15 = .ok (.getfield 22, 3) := by decide +kernel
theorem dX4_minutesToGo_18 : decode cX4_minutesToGo 18 = .ok (.iload_n 1, 1) := by decide +kernel
theorem dX4_minutesToGo_19 : decode cX4_minutesToGo 19 = .ok (.iload_n 3, 1) := by decide +kernel
theorem dX4_minutesToGo_20 : decode cX4_minutesToGo 20 = .ok (.isub, 1) := by decide +kernel
theorem dX4_minutesToGo_21 : decode cX4_minutesToGo 21 = .ok (.iload_n 2, 1) := by decide +kernel
theorem dX4_minutesToGo_22 : decode cX4_minutesToGo 22 = .ok (.iadd, 1) := by decide +kernel
theorem dX4_minutesToGo_23 : decode cX4_minutesToGo 23 = .ok (.iaload, 1) := by decide +kernel
theorem dX4_minutesToGo_24 : decode cX4_minutesToGo 24 = .ok (.iadd, 1) := by decide +kernel
theorem dX4_minutesToGo_25 : decode cX4_minutesToGo 25 = .ok (.ireturn, 1) := by decide +kernel
theorem dX4_weigh_0 : decode cX4_weigh 0 = .ok (.iconst 0, 1) := by decide +kernel
theorem dX4_weigh_1 : decode cX4_weigh 1 = .ok (.istore_n 2, 1) := by decide +kernel
theorem dX4_weigh_2 : decode cX4_weigh 2 = .ok (.iload_n 2, 1) := by decide +kernel
theorem dX4_weigh_3 : decode cX4_weigh 3 = .ok (.aload_n 0, 1) := by decide +kernel
theorem dX4_weigh_4 : decode cX4_weigh 4 = .ok (.getfield 103, 3) := by decide +kernel
theorem dX4_weigh_7 : decode cX4_weigh 7 = .ok (.if_icmp .ge 65, 3) := by decide +kernel
theorem dX4_weigh_10 : decode cX4_weigh 10 = .ok (.iconst 0, 1) := by decide +kernel
theorem dX4_weigh_11 : decode cX4_weigh 11 = .ok (.istore_n 3, 1) := by decide +kernel
theorem dX4_weigh_12 : decode cX4_weigh 12 = .ok (.iload_n 3, 1) := by decide +kernel
theorem dX4_weigh_13 : decode cX4_weigh 13 = .ok (.iconst 4, 1) := by decide +kernel
theorem dX4_weigh_14 : decode cX4_weigh 14 = .ok (.if_icmp .ge 52, 3) := by decide +kernel
theorem dX4_weigh_17 : decode cX4_weigh 17 = .ok (.iload_n 1, 1) := by decide +kernel
theorem dX4_weigh_18 : decode cX4_weigh 18 = .ok (.iload_n 2, 1) := by decide +kernel
theorem dX4_weigh_19 : decode cX4_weigh 19 = .ok (.ishr, 1) := by decide +kernel
theorem dX4_weigh_20 : decode cX4_weigh 20 = .ok (.iconst 1, 1) := by decide +kernel
theorem dX4_weigh_21 : decode cX4_weigh 21 = .ok (.iand, 1) := by decide +kernel
theorem dX4_weigh_22 : decode cX4_weigh 22 = .ok (.iconst 1, 1) := by decide +kernel
theorem dX4_weigh_23 : decode cX4_weigh 23 = .ok (.if_icmp .ne 43, 3) := by decide +kernel
theorem dX4_weigh_26 : decode cX4_weigh 26 = .ok (.aload_n 0, 1) := by decide +kernel
theorem dX4_weigh_27 : decode cX4_weigh 27 = .ok (.getfield 28, 3) := by decide +kernel
theorem dX4_weigh_30 : decode cX4_weigh 30 = .ok (.iload_n 2, 1) := by decide +kernel
theorem dX4_weigh_31 : decode cX4_weigh 31 = .ok (.iaload, 1) := by decide +kernel
theorem dX4_weigh_32 : decode cX4_weigh 32 = .ok (.iconst 4, 1) := by decide +kernel
theorem dX4_weigh_33 : decode cX4_weigh 33 = .ok (.imul, 1) := by decide +kernel
theorem dX4_weigh_34 : decode cX4_weigh 34 = .ok (.iload_n 3, 1) := by decide +kernel
theorem dX4_weigh_35 : decode cX4_weigh 35 = .ok (.iadd, 1) := by decide +kernel
theorem dX4_weigh_36 : decode cX4_weigh 36 = .ok (.istore 4, 2) := by decide +kernel
theorem dX4_weigh_38 : decode cX4_weigh 38 = .ok (.aload_n 0, 1) := by decide +kernel
theorem dX4_weigh_39 : decode cX4_weigh 39 = .ok (.getfield 34, 3) := by decide +kernel
theorem dX4_weigh_42 : decode cX4_weigh 42 = .ok (.iload_n 1, 1) := by decide +kernel
theorem dX4_weigh_43 : decode cX4_weigh 43 = .ok (.bipush 28, 2) := by decide +kernel
theorem dX4_weigh_45 : decode cX4_weigh 45 = .ok (.imul, 1) := by decide +kernel
theorem dX4_weigh_46 : decode cX4_weigh 46 = .ok (.iload_n 2, 1) := by decide +kernel
theorem dX4_weigh_47 : decode cX4_weigh 47 = .ok (.iconst 4, 1) := by decide +kernel
theorem dX4_weigh_48 : decode cX4_weigh 48 = .ok (.imul, 1) := by decide +kernel
theorem dX4_weigh_49 : decode cX4_weigh 49 = .ok (.iadd, 1) := by decide +kernel
theorem dX4_weigh_50 : decode cX4_weigh 50 = .ok (.iload_n 3, 1) := by decide +kernel
theorem dX4_weigh_51 : decode cX4_weigh 51 = .ok (.iadd, 1) := by decide +kernel
theorem dX4_weigh_52 : decode cX4_weigh 52 = .ok (.aload_n 0, 1) := by decide +kernel
theorem dX4_weigh_53 : decode cX4_weigh 53 = .ok (.iload 4, 2) := by decide +kernel
theorem dX4_weigh_55 : decode cX4_weigh 55 = .ok (.iload_n 1, 1) := by decide +kernel
theorem dX4_weigh_56 : decode cX4_weigh 56 = .ok (.invokevirtual 125, 3) := by decide +kernel
theorem dX4_weigh_59 : decode cX4_weigh 59 = .ok (.iastore, 1) := by decide +kernel
theorem dX4_weigh_60 : decode cX4_weigh 60 = .ok (.iinc 3 1, 3) := by decide +kernel
theorem dX4_weigh_63 : decode cX4_weigh 63 = .ok (.goto (-51), 3) := by decide +kernel
theorem dX4_weigh_66 : decode cX4_weigh 66 = .ok (.iinc 2 1, 3) := by decide +kernel
theorem dX4_weigh_69 : decode cX4_weigh 69 = .ok (.goto (-67), 3) := by decide +kernel
theorem dX4_weigh_72 : decode cX4_weigh 72 = .ok (.return_, 1) := by decide +kernel
theorem dX4_minutesFrom_0 : decode cX4_minutesFrom 0 = .ok (.iload_n 2, 1) := by decide +kernel
theorem dX4_minutesFrom_1 : decode cX4_minutesFrom 1 = .ok (.aload_n 0, 1) := by decide +kernel
theorem dX4_minutesFrom_2 : decode cX4_minutesFrom 2 = .ok (.getfield 114, 3) := by decide +kernel
theorem dX4_minutesFrom_5 : decode cX4_minutesFrom 5 = .ok (.if_icmp .ne 5, 3) := by decide +kernel
theorem dX4_minutesFrom_8 : decode cX4_minutesFrom 8 = .ok (.iconst 0, 1) := by decide +kernel
theorem dX4_minutesFrom_9 : decode cX4_minutesFrom 9 = .ok (.ireturn, 1) := by decide +kernel
theorem dX4_minutesFrom_10 : decode cX4_minutesFrom 10 = .ok (.ldc 58, 2) := by decide +kernel
theorem dX4_minutesFrom_12 : decode cX4_minutesFrom 12 = .ok (.istore_n 3, 1) := by decide +kernel
theorem dX4_minutesFrom_13 : decode cX4_minutesFrom 13 = .ok (.iconst 0, 1) := by decide +kernel
theorem dX4_minutesFrom_14 : decode cX4_minutesFrom 14 = .ok (.istore 4, 2) := by decide +kernel
theorem dX4_minutesFrom_16 : decode cX4_minutesFrom 16 = .ok (.iload 4, 2) := by decide +kernel
theorem dX4_minutesFrom_18 : decode cX4_minutesFrom 18 = .ok (.aload_n 0, 1) := by decide +kernel
theorem dX4_minutesFrom_19 : decode cX4_minutesFrom 19 = .ok (.getfield 103, 3) := by decide +kernel
theorem dX4_minutesFrom_22 : decode cX4_minutesFrom 22 = .ok (.if_icmp .ge 79, 3) := by decide +kernel
theorem dX4_minutesFrom_25 : decode cX4_minutesFrom 25 = .ok (.iload_n 2, 1) := by decide +kernel
theorem dX4_minutesFrom_26 : decode cX4_minutesFrom 26 = .ok (.iconst 1, 1) := by decide +kernel
theorem dX4_minutesFrom_27 : decode cX4_minutesFrom 27 = .ok (.iload 4, 2) := by decide +kernel
theorem dX4_minutesFrom_29 : decode cX4_minutesFrom 29 = .ok (.ishl, 1) := by decide +kernel
theorem dX4_minutesFrom_30 : decode cX4_minutesFrom 30 = .ok (.ior, 1) := by decide +kernel
theorem dX4_minutesFrom_31 : decode cX4_minutesFrom 31 = .ok (.istore 5, 2) := by decide +kernel
theorem dX4_minutesFrom_33 : decode cX4_minutesFrom 33 = .ok (.iconst 0, 1) := by decide +kernel
theorem dX4_minutesFrom_34 : decode cX4_minutesFrom 34 = .ok (.istore 6, 2) := by decide +kernel
theorem dX4_minutesFrom_36 : decode cX4_minutesFrom 36 = .ok (.iload 6, 2) := by decide +kernel
theorem dX4_minutesFrom_38 : decode cX4_minutesFrom 38 = .ok (.iconst 4, 1) := by decide +kernel
theorem dX4_minutesFrom_39 : decode cX4_minutesFrom 39 = .ok (.if_icmp .ge 56, 3) := by decide +kernel
theorem dX4_minutesFrom_42 : decode cX4_minutesFrom 42 = .ok (.iload 5, 2) := by decide +kernel
theorem dX4_minutesFrom_44 : decode cX4_minutesFrom 44 = .ok (.iload_n 2, 1) := by decide +kernel
theorem dX4_minutesFrom_45 : decode cX4_minutesFrom 45 = .ok (.if_icmp .eq 50, 3) := by decide +kernel
theorem dX4_minutesFrom_48 : decode cX4_minutesFrom 48 = .ok (.iload 4, 2) := by decide +kernel
theorem dX4_minutesFrom_50 : decode cX4_minutesFrom 50 = .ok (.iconst 4, 1) := by decide +kernel
theorem dX4_minutesFrom_51 : decode cX4_minutesFrom 51 = .ok (.imul, 1) := by decide +kernel
theorem dX4_minutesFrom_52 : decode cX4_minutesFrom 52 = .ok (.iload 6, 2) := by decide +kernel
theorem dX4_minutesFrom_54 : decode cX4_minutesFrom 54 = .ok (.iadd, 1) := by decide +kernel
theorem dX4_minutesFrom_55 : decode cX4_minutesFrom 55 = .ok (.istore 7, 2) := by decide +kernel
theorem dX4_minutesFrom_57 : decode cX4_minutesFrom 57 = .ok (.iload_n 3, 1) := by decide +kernel
theorem dX4_minutesFrom_58 : decode cX4_minutesFrom 58 = .ok (.aload_n 0, 1) := by decide +kernel
theorem dX4_minutesFrom_59 : decode cX4_minutesFrom 59 = .ok (.getfield 31, 3) := by decide +kernel
theorem dX4_minutesFrom_62 : decode cX4_minutesFrom 62 = .ok (.iload 7, 2) := by decide +kernel
theorem dX4_minutesFrom_64 : decode cX4_minutesFrom 64 = .ok (.sipush 144, 3) := by decide +kernel
theorem dX4_minutesFrom_67 : decode cX4_minutesFrom 67 = .ok (.imul, 1) := by decide +kernel
theorem dX4_minutesFrom_68 : decode cX4_minutesFrom 68 = .ok (.iload_n 1, 1) := by decide +kernel
theorem dX4_minutesFrom_69 : decode cX4_minutesFrom 69 = .ok (.iadd, 1) := by decide +kernel
theorem dX4_minutesFrom_70 : decode cX4_minutesFrom 70 = .ok (.iaload, 1) := by decide +kernel
theorem dX4_minutesFrom_71 : decode cX4_minutesFrom 71 = .ok (.aload_n 0, 1) := by decide +kernel
theorem dX4_minutesFrom_72 : decode cX4_minutesFrom 72 = .ok (.getfield 34, 3) := by decide +kernel
theorem dX4_minutesFrom_75 : decode cX4_minutesFrom 75 = .ok (.iload 5, 2) := by decide +kernel
theorem dX4_minutesFrom_77 : decode cX4_minutesFrom 77 = .ok (.bipush 28, 2) := by decide +kernel
theorem dX4_minutesFrom_79 : decode cX4_minutesFrom 79 = .ok (.imul, 1) := by decide +kernel
theorem dX4_minutesFrom_80 : decode cX4_minutesFrom 80 = .ok (.iload 7, 2) := by decide +kernel
theorem dX4_minutesFrom_82 : decode cX4_minutesFrom 82 = .ok (.iadd, 1) := by decide +kernel
theorem dX4_minutesFrom_83 : decode cX4_minutesFrom 83 = .ok (.iaload, 1) := by decide +kernel
theorem dX4_minutesFrom_84 : decode cX4_minutesFrom 84 = .ok (.iadd, 1) := by decide +kernel
theorem dX4_minutesFrom_85 : decode cX4_minutesFrom 85 = .ok (.invokestatic 149, 3) := by decide +kernel
theorem dX4_minutesFrom_88 : decode cX4_minutesFrom 88 = .ok (.istore_n 3, 1) := by decide +kernel
theorem dX4_minutesFrom_89 : decode cX4_minutesFrom 89 = .ok (.iinc 6 1, 3) := by decide +kernel
theorem dX4_minutesFrom_92 : decode cX4_minutesFrom 92 = .ok (.goto (-56), 3) := by decide +kernel
theorem dX4_minutesFrom_95 : decode cX4_minutesFrom 95 = .ok (.iinc 4 1, 3) := by decide +kernel
theorem dX4_minutesFrom_98 : decode cX4_minutesFrom 98 = .ok (.goto (-82), 3) := by decide +kernel
theorem dX4_minutesFrom_101 : decode cX4_minutesFrom 101 = .ok (.iload_n 3, 1) := by decide +kernel
theorem dX4_minutesFrom_102 : decode cX4_minutesFrom 102 = .ok (.ireturn, 1) := by decide +kernel
theorem dX4_follow_0 : decode cX4_follow 0 = .ok (.aload_n 0, 1) := by decide +kernel
theorem dX4_follow_1 : decode cX4_follow 1 = .ok (.getfield 12, 3) := by decide +kernel
theorem dX4_follow_4 : decode cX4_follow 4 = .ok (.iconst 0, 1) := by decide +kernel
theorem dX4_follow_5 : decode cX4_follow 5 = .ok (.invokevirtual 121, 3) := by decide +kernel
theorem dX4_follow_8 : decode cX4_follow 8 = .ok (.iconst 4, 1) := by decide +kernel
theorem dX4_follow_9 : decode cX4_follow 9 = .ok (.imul, 1) := by decide +kernel
theorem dX4_follow_10 : decode cX4_follow 10 = .ok (.iconst 0, 1) := by decide +kernel
theorem dX4_follow_11 : decode cX4_follow 11 = .ok (.iadd, 1) := by decide +kernel
theorem dX4_follow_12 : decode cX4_follow 12 = .ok (.istore_n 1, 1) := by decide +kernel
theorem dX4_follow_13 : decode cX4_follow 13 = .ok (.aload_n 0, 1) := by decide +kernel
theorem dX4_follow_14 : decode cX4_follow 14 = .ok (.invokevirtual 110, 3) := by decide +kernel
theorem dX4_follow_17 : decode cX4_follow 17 = .ok (.istore_n 2, 1) := by decide +kernel
theorem dX4_follow_18 : decode cX4_follow 18 = .ok (.aload_n 0, 1) := by decide +kernel
theorem dX4_follow_19 : decode cX4_follow 19 = .ok (.iconst 0, 1) := by decide +kernel
theorem dX4_follow_20 : decode cX4_follow 20 = .ok (.putfield 59, 3) := by decide +kernel
theorem dX4_follow_23 : decode cX4_follow 23 = .ok (.aload_n 0, 1) := by decide +kernel
theorem dX4_follow_24 : decode cX4_follow 24 = .ok (.iconst 0, 1) := by decide +kernel
theorem dX4_follow_25 : decode cX4_follow 25 = .ok (.putfield 154, 3) := by decide +kernel
theorem dX4_follow_28 : decode cX4_follow 28 = .ok (.aload_n 0, 1) := by decide +kernel
theorem dX4_follow_29 : decode cX4_follow 29 = .ok (.invokevirtual 157, 3) := by decide +kernel
theorem dX4_follow_32 : decode cX4_follow 32 = .ok (.ifCond .eq 11, 3) := by decide +kernel
theorem dX4_follow_35 : decode cX4_follow 35 = .ok (.aload_n 0, 1) := by decide +kernel
theorem dX4_follow_36 : decode cX4_follow 36 = .ok (.getfield 44, 3) := by decide +kernel
theorem dX4_follow_39 : decode cX4_follow 39 = .ok (.arraylength, 1) := by decide +kernel
theorem dX4_follow_40 : decode cX4_follow 40 = .ok (.goto 4, 3) := by decide +kernel
theorem dX4_follow_43 : decode cX4_follow 43 = .ok (.iconst 0, 1) := by decide +kernel
theorem dX4_follow_44 : decode cX4_follow 44 = .ok (.istore_n 3, 1) := by decide +kernel
theorem dX4_follow_45 : decode cX4_follow 45 = .ok (.iconst 0, 1) := by decide +kernel
theorem dX4_follow_46 : decode cX4_follow 46 = .ok (.istore 4, 2) := by decide +kernel
theorem dX4_follow_48 : decode cX4_follow 48 = .ok (.iload 4, 2) := by decide +kernel
theorem dX4_follow_50 : decode cX4_follow 50 = .ok (.iload_n 3, 1) := by decide +kernel
theorem dX4_follow_51 : decode cX4_follow 51 = .ok (.if_icmp .ge 101, 3) := by decide +kernel
theorem dX4_follow_54 : decode cX4_follow 54 = .ok (.iload_n 2, 1) := by decide +kernel
theorem dX4_follow_55 : decode cX4_follow 55 = .ok (.aload_n 0, 1) := by decide +kernel
theorem dX4_follow_56 : decode cX4_follow 56 = .ok (.getfield 114, 3) := by decide +kernel
theorem dX4_follow_59 : decode cX4_follow 59 = .ok (.if_icmp .eq 93, 3) := by decide +kernel
theorem dX4_follow_62 : decode cX4_follow 62 = .ok (.aload_n 0, 1) := by decide +kernel
theorem dX4_follow_63 : decode cX4_follow 63 = .ok (.iload_n 1, 1) := by decide +kernel
theorem dX4_follow_64 : decode cX4_follow 64 = .ok (.iload_n 2, 1) := by decide +kernel
theorem dX4_follow_65 : decode cX4_follow 65 = .ok (.invokevirtual 161, 3) := by decide +kernel
theorem dX4_follow_68 : decode cX4_follow 68 = .ok (.istore 5, 2) := by decide +kernel
theorem dX4_follow_70 : decode cX4_follow 70 = .ok (.iload 5, 2) := by decide +kernel
theorem dX4_follow_72 : decode cX4_follow 72 = .ok (.ifCond .ge 4, 3) := by decide +kernel
theorem dX4_follow_75 : decode cX4_follow 75 = .ok (.return_, 1) := by decide +kernel
theorem dX4_follow_76 : decode cX4_follow 76 = .ok (.iload_n 1, 1) := by decide +kernel
theorem dX4_follow_77 : decode cX4_follow 77 = .ok (.iconst 4, 1) := by decide +kernel
theorem dX4_follow_78 : decode cX4_follow 78 = .ok (.irem, 1) := by decide +kernel
theorem dX4_follow_79 : decode cX4_follow 79 = .ok (.istore 6, 2) := by decide +kernel
theorem dX4_follow_81 : decode cX4_follow 81 = .ok (.aload_n 0, 1) := by decide +kernel
theorem dX4_follow_82 : decode cX4_follow 82 = .ok (.getfield 18, 3) := by decide +kernel
theorem dX4_follow_85 : decode cX4_follow 85 = .ok (.iload_n 1, 1) := by decide +kernel
theorem dX4_follow_86 : decode cX4_follow 86 = .ok (.iload 6, 2) := by decide +kernel
theorem dX4_follow_88 : decode cX4_follow 88 = .ok (.isub, 1) := by decide +kernel
theorem dX4_follow_89 : decode cX4_follow 89 = .ok (.iload 5, 2) := by decide +kernel
theorem dX4_follow_91 : decode cX4_follow 91 = .ok (.iadd, 1) := by decide +kernel
theorem dX4_follow_92 : decode cX4_follow 92 = .ok (.iaload, 1) := by decide +kernel
theorem dX4_follow_93 : decode cX4_follow 93 = .ok (.istore 7, 2) := by decide +kernel
theorem dX4_follow_95 : decode cX4_follow 95 = .ok (.aload_n 0, 1) := by decide +kernel
theorem dX4_follow_96 : decode cX4_follow 96 = .ok (.getfield 44, 3) := by decide +kernel
theorem dX4_follow_99 : decode cX4_follow 99 = .ok (.iload 4, 2) := by decide +kernel
theorem dX4_follow_101 : decode cX4_follow 101 = .ok (.iload 5, 2) := by decide +kernel
theorem dX4_follow_103 : decode cX4_follow 103 = .ok (.iastore, 1) := by decide +kernel
theorem dX4_follow_104 : decode cX4_follow 104 = .ok (.aload_n 0, 1) := by decide +kernel
theorem dX4_follow_105 : decode cX4_follow 105 = .ok (.iload 4, 2) := by decide +kernel
theorem dX4_follow_107 : decode cX4_follow 107 = .ok (.iconst 1, 1) := by decide +kernel
theorem dX4_follow_108 : decode cX4_follow 108 = .ok (.iadd, 1) := by decide +kernel
theorem dX4_follow_109 : decode cX4_follow 109 = .ok (.putfield 59, 3) := by decide +kernel
theorem dX4_follow_112 : decode cX4_follow 112 = .ok (.aload_n 0, 1) := by decide +kernel
theorem dX4_follow_113 : decode cX4_follow 113 = .ok (.dup, 1) := by decide +kernel
theorem dX4_follow_114 : decode cX4_follow 114 = .ok (.getfield 154, 3) := by decide +kernel
theorem dX4_follow_117 : decode cX4_follow 117 = .ok (.iload 6, 2) := by decide +kernel
theorem dX4_follow_119 : decode cX4_follow 119 = .ok (.iload 5, 2) := by decide +kernel
theorem dX4_follow_121 : decode cX4_follow 121 = .ok (.invokestatic 146, 3) := by decide +kernel
theorem dX4_follow_124 : decode cX4_follow 124 = .ok (.iadd, 1) := by decide +kernel
theorem dX4_follow_125 : decode cX4_follow 125 = .ok (.putfield 154, 3) := by decide +kernel
theorem dX4_follow_128 : decode cX4_follow 128 = .ok (.iload 7, 2) := by decide +kernel
theorem dX4_follow_130 : decode cX4_follow 130 = .ok (.iconst 4, 1) := by decide +kernel
theorem dX4_follow_131 : decode cX4_follow 131 = .ok (.imul, 1) := by decide +kernel
theorem dX4_follow_132 : decode cX4_follow 132 = .ok (.iload 5, 2) := by decide +kernel
theorem dX4_follow_134 : decode cX4_follow 134 = .ok (.iadd, 1) := by decide +kernel
theorem dX4_follow_135 : decode cX4_follow 135 = .ok (.istore_n 1, 1) := by decide +kernel
theorem dX4_follow_136 : decode cX4_follow 136 = .ok (.iload_n 2, 1) := by decide +kernel
theorem dX4_follow_137 : decode cX4_follow 137 = .ok (.aload_n 0, 1) := by decide +kernel
theorem dX4_follow_138 : decode cX4_follow 138 = .ok (.getfield 25, 3) := by decide +kernel
theorem dX4_follow_141 : decode cX4_follow 141 = .ok (.iload 7, 2) := by decide +kernel
theorem dX4_follow_143 : decode cX4_follow 143 = .ok (.iaload, 1) := by decide +kernel
theorem dX4_follow_144 : decode cX4_follow 144 = .ok (.ior, 1) := by decide +kernel
theorem dX4_follow_145 : decode cX4_follow 145 = .ok (.istore_n 2, 1) := by decide +kernel
theorem dX4_follow_146 : decode cX4_follow 146 = .ok (.iinc 4 1, 3) := by decide +kernel
theorem dX4_follow_149 : decode cX4_follow 149 = .ok (.goto (-101), 3) := by decide +kernel
theorem dX4_follow_152 : decode cX4_follow 152 = .ok (.return_, 1) := by decide +kernel
theorem dX4_firstWay_0 : decode cX4_firstWay 0 = .ok (.aload_n 0, 1) := by decide +kernel
theorem dX4_firstWay_1 : decode cX4_firstWay 1 = .ok (.iload_n 1, 1) := by decide +kernel
theorem dX4_firstWay_2 : decode cX4_firstWay 2 = .ok (.iload_n 2, 1) := by decide +kernel
theorem dX4_firstWay_3 : decode cX4_firstWay 3 = .ok (.invokevirtual 125, 3) := by decide +kernel
theorem dX4_firstWay_6 : decode cX4_firstWay 6 = .ok (.istore_n 3, 1) := by decide +kernel
theorem dX4_firstWay_7 : decode cX4_firstWay 7 = .ok (.iconst 0, 1) := by decide +kernel
theorem dX4_firstWay_8 : decode cX4_firstWay 8 = .ok (.istore 4, 2) := by decide +kernel
theorem dX4_firstWay_10 : decode cX4_firstWay 10 = .ok (.iload 4, 2) := by decide +kernel
theorem dX4_firstWay_12 : decode cX4_firstWay 12 = .ok (.iconst 4, 1) := by decide +kernel
theorem dX4_firstWay_13 : decode cX4_firstWay 13 = .ok (.if_icmp .ge 68, 3) := by decide +kernel
theorem dX4_firstWay_16 : decode cX4_firstWay 16 = .ok (.aload_n 0, 1) := by decide +kernel
theorem dX4_firstWay_17 : decode cX4_firstWay 17 = .ok (.getfield 18, 3) := by decide +kernel
theorem dX4_firstWay_20 : decode cX4_firstWay 20 = .ok (.iload_n 1, 1) := by decide +kernel
theorem dX4_firstWay_21 : decode cX4_firstWay 21 = .ok (.iload_n 1, 1) := by decide +kernel
theorem dX4_firstWay_22 : decode cX4_firstWay 22 = .ok (.iconst 4, 1) := by decide +kernel
theorem dX4_firstWay_23 : decode cX4_firstWay 23 = .ok (.irem, 1) := by decide +kernel
theorem dX4_firstWay_24 : decode cX4_firstWay 24 = .ok (.isub, 1) := by decide +kernel
theorem dX4_firstWay_25 : decode cX4_firstWay 25 = .ok (.iload 4, 2) := by decide +kernel
theorem dX4_firstWay_27 : decode cX4_firstWay 27 = .ok (.iadd, 1) := by decide +kernel
theorem dX4_firstWay_28 : decode cX4_firstWay 28 = .ok (.iaload, 1) := by decide +kernel
theorem dX4_firstWay_29 : decode cX4_firstWay 29 = .ok (.istore 5, 2) := by decide +kernel
theorem dX4_firstWay_31 : decode cX4_firstWay 31 = .ok (.iload 5, 2) := by decide +kernel
theorem dX4_firstWay_33 : decode cX4_firstWay 33 = .ok (.ifCond .lt 42, 3) := by decide +kernel
theorem dX4_firstWay_36 : decode cX4_firstWay 36 = .ok (.aload_n 0, 1) := by decide +kernel
theorem dX4_firstWay_37 : decode cX4_firstWay 37 = .ok (.iload 5, 2) := by decide +kernel
theorem dX4_firstWay_39 : decode cX4_firstWay 39 = .ok (.iconst 4, 1) := by decide +kernel
theorem dX4_firstWay_40 : decode cX4_firstWay 40 = .ok (.imul, 1) := by decide +kernel
theorem dX4_firstWay_41 : decode cX4_firstWay 41 = .ok (.iload 4, 2) := by decide +kernel
theorem dX4_firstWay_43 : decode cX4_firstWay 43 = .ok (.iadd, 1) := by decide +kernel
theorem dX4_firstWay_44 : decode cX4_firstWay 44 = .ok (.iload_n 2, 1) := by decide +kernel
theorem dX4_firstWay_45 : decode cX4_firstWay 45 = .ok (.aload_n 0, 1) := by decide +kernel
theorem dX4_firstWay_46 : decode cX4_firstWay 46 = .ok (.getfield 25, 3) := by decide +kernel
theorem dX4_firstWay_49 : decode cX4_firstWay 49 = .ok (.iload 5, 2) := by decide +kernel
theorem dX4_firstWay_51 : decode cX4_firstWay 51 = .ok (.iaload, 1) := by decide +kernel
theorem dX4_firstWay_52 : decode cX4_firstWay 52 = .ok (.ior, 1) := by decide +kernel
theorem dX4_firstWay_53 : decode cX4_firstWay 53 = .ok (.invokevirtual 125, 3) := by decide +kernel
theorem dX4_firstWay_56 : decode cX4_firstWay 56 = .ok (.istore 6, 2) := by decide +kernel
theorem dX4_firstWay_58 : decode cX4_firstWay 58 = .ok (.aload_n 0, 1) := by decide +kernel
theorem dX4_firstWay_59 : decode cX4_firstWay 59 = .ok (.iload_n 1, 1) := by decide +kernel
theorem dX4_firstWay_60 : decode cX4_firstWay 60 = .ok (.iload 4, 2) := by decide +kernel
theorem dX4_firstWay_62 : decode cX4_firstWay 62 = .ok (.invokevirtual 143, 3) := by decide +kernel
theorem dX4_firstWay_65 : decode cX4_firstWay 65 = .ok (.iload 6, 2) := by decide +kernel
theorem dX4_firstWay_67 : decode cX4_firstWay 67 = .ok (.iadd, 1) := by decide +kernel
theorem dX4_firstWay_68 : decode cX4_firstWay 68 = .ok (.iload_n 3, 1) := by decide +kernel
theorem dX4_firstWay_69 : decode cX4_firstWay 69 = .ok (.if_icmp .ne 6, 3) := by decide +kernel
theorem dX4_firstWay_72 : decode cX4_firstWay 72 = .ok (.iload 4, 2) := by decide +kernel
theorem dX4_firstWay_74 : decode cX4_firstWay 74 = .ok (.ireturn, 1) := by decide +kernel
theorem dX4_firstWay_75 : decode cX4_firstWay 75 = .ok (.iinc 4 1, 3) := by decide +kernel
theorem dX4_firstWay_78 : decode cX4_firstWay 78 = .ok (.goto (-68), 3) := by decide +kernel
theorem dX4_firstWay_81 : decode cX4_firstWay 81 = .ok (.bipush (-4), 2) := by decide +kernel
theorem dX4_firstWay_83 : decode cX4_firstWay 83 = .ok (.ireturn, 1) := by decide +kernel
theorem dX5_init_0 : decode cX5_init 0 = .ok (.aload_n 0, 1) := by decide +kernel
theorem dX5_init_1 : decode cX5_init 1 = .ok (.invokespecial 3, 3) := by decide +kernel
theorem dX5_init_4 : decode cX5_init 4 = .ok (.aload_n 0, 1) := by decide +kernel
theorem dX5_init_5 : decode cX5_init 5 = .ok (.bipush 24, 2) := by decide +kernel
theorem dX5_init_7 : decode cX5_init 7 = .ok (.newarray .int, 2) := by decide +kernel
theorem dX5_init_9 : decode cX5_init 9 = .ok (.putfield 9, 3) := by decide +kernel
theorem dX5_init_12 : decode cX5_init 12 = .ok (.aload_n 0, 1) := by decide +kernel
theorem dX5_init_13 : decode cX5_init 13 = .ok (.bipush 24, 2) := by decide +kernel
theorem dX5_init_15 : decode cX5_init 15 = .ok (.newarray .int, 2) := by decide +kernel
theorem dX5_init_17 : decode cX5_init 17 = .ok (.putfield 15, 3) := by decide +kernel
theorem dX5_init_20 : decode cX5_init 20 = .ok (.aload_n 0, 1) := by decide +kernel
theorem dX5_init_21 : decode cX5_init 21 = .ok (.iconst 0, 1) := by decide +kernel
theorem dX5_init_22 : decode cX5_init 22 = .ok (.putfield 18, 3) := by decide +kernel
theorem dX5_init_25 : decode cX5_init 25 = .ok (.return_, 1) := by decide +kernel
theorem dX5_append_0 : decode cX5_append 0 = .ok (.aload_n 0, 1) := by decide +kernel
theorem dX5_append_1 : decode cX5_append 1 = .ok (.getfield 18, 3) := by decide +kernel
theorem dX5_append_4 : decode cX5_append 4 = .ok (.bipush 24, 2) := by decide +kernel
theorem dX5_append_6 : decode cX5_append 6 = .ok (.if_icmp .lt 5, 3) := by decide +kernel
theorem dX5_append_9 : decode cX5_append 9 = .ok (.iconst 0, 1) := by decide +kernel
theorem dX5_append_10 : decode cX5_append 10 = .ok (.ireturn, 1) := by decide +kernel
theorem dX5_append_11 : decode cX5_append 11 = .ok (.aload_n 0, 1) := by decide +kernel
theorem dX5_append_12 : decode cX5_append 12 = .ok (.getfield 9, 3) := by decide +kernel
theorem dX5_append_15 : decode cX5_append 15 = .ok (.aload_n 0, 1) := by decide +kernel
theorem dX5_append_16 : decode cX5_append 16 = .ok (.getfield 18, 3) := by decide +kernel
theorem dX5_append_19 : decode cX5_append 19 = .ok (.iload_n 1, 1) := by decide +kernel
theorem dX5_append_20 : decode cX5_append 20 = .ok (.iastore, 1) := by decide +kernel
theorem dX5_append_21 : decode cX5_append 21 = .ok (.aload_n 0, 1) := by decide +kernel
theorem dX5_append_22 : decode cX5_append 22 = .ok (.getfield 15, 3) := by decide +kernel
theorem dX5_append_25 : decode cX5_append 25 = .ok (.aload_n 0, 1) := by decide +kernel
theorem dX5_append_26 : decode cX5_append 26 = .ok (.getfield 18, 3) := by decide +kernel
theorem dX5_append_29 : decode cX5_append 29 = .ok (.iload_n 2, 1) := by decide +kernel
theorem dX5_append_30 : decode cX5_append 30 = .ok (.iastore, 1) := by decide +kernel
theorem dX5_append_31 : decode cX5_append 31 = .ok (.aload_n 0, 1) := by decide +kernel
theorem dX5_append_32 : decode cX5_append 32 = .ok (.dup, 1) := by decide +kernel
theorem dX5_append_33 : decode cX5_append 33 = .ok (.getfield 18, 3) := by decide +kernel
theorem dX5_append_36 : decode cX5_append 36 = .ok (.iconst 1, 1) := by decide +kernel
theorem dX5_append_37 : decode cX5_append 37 = .ok (.iadd, 1) := by decide +kernel
theorem dX5_append_38 : decode cX5_append 38 = .ok (.putfield 18, 3) := by decide +kernel
theorem dX5_append_41 : decode cX5_append 41 = .ok (.iconst 1, 1) := by decide +kernel
theorem dX5_append_42 : decode cX5_append 42 = .ok (.ireturn, 1) := by decide +kernel
theorem dX5_appendStep_0 : decode cX5_appendStep 0 = .ok (.aload_n 0, 1) := by decide +kernel
theorem dX5_appendStep_1 : decode cX5_appendStep 1 = .ok (.getfield 18, 3) := by decide +kernel
theorem dX5_appendStep_4 : decode cX5_appendStep 4 = .ok (.iconst 1, 1) := by decide +kernel
theorem dX5_appendStep_5 : decode cX5_appendStep 5 = .ok (.isub, 1) := by decide +kernel
theorem dX5_appendStep_6 : decode cX5_appendStep 6 = .ok (.istore_n 2, 1) := by decide +kernel
theorem dX5_appendStep_7 : decode cX5_appendStep 7 = .ok (.aload_n 0, 1) := by decide +kernel
theorem dX5_appendStep_8 : decode cX5_appendStep 8 = .ok (.iload_n 2, 1) := by decide +kernel
theorem dX5_appendStep_9 : decode cX5_appendStep 9 = .ok (.invokevirtual 22, 3) := by decide +kernel
theorem dX5_appendStep_12 : decode cX5_appendStep 12 = .ok (.iload_n 1, 1) := by decide +kernel
theorem dX5_appendStep_13 : decode cX5_appendStep 13 = .ok (.if_icmp .ne 24, 3) := by decide +kernel
theorem dX5_appendStep_16 : decode cX5_appendStep 16 = .ok (.aload_n 0, 1) := by decide +kernel
theorem dX5_appendStep_17 : decode cX5_appendStep 17 = .ok (.iload_n 2, 1) := by decide +kernel
theorem dX5_appendStep_18 : decode cX5_appendStep 18 = .ok (.invokevirtual 26, 3) := by decide +kernel
theorem dX5_appendStep_21 : decode cX5_appendStep 21 = .ok (.iconst 5, 1) := by decide +kernel
theorem dX5_appendStep_22 : decode cX5_appendStep 22 = .ok (.if_icmp .ge 15, 3) := by decide +kernel
theorem dX5_appendStep_25 : decode cX5_appendStep 25 = .ok (.aload_n 0, 1) := by decide +kernel
theorem dX5_appendStep_26 : decode cX5_appendStep 26 = .ok (.getfield 15, 3) := by decide +kernel
theorem dX5_appendStep_29 : decode cX5_appendStep 29 = .ok (.iload_n 2, 1) := by decide +kernel
theorem dX5_appendStep_30 : decode cX5_appendStep 30 = .ok (.dup2, 1) := by decide +kernel
theorem dX5_appendStep_31 : decode cX5_appendStep 31 = .ok (.iaload, 1) := by decide +kernel
theorem dX5_appendStep_32 : decode cX5_appendStep 32 = .ok (.iconst 1, 1) := by decide +kernel
theorem dX5_appendStep_33 : decode cX5_appendStep 33 = .ok (.iadd, 1) := by decide +kernel
theorem dX5_appendStep_34 : decode cX5_appendStep 34 = .ok (.iastore, 1) := by decide +kernel
theorem dX5_appendStep_35 : decode cX5_appendStep 35 = .ok (.iconst 1, 1) := by decide +kernel
theorem dX5_appendStep_36 : decode cX5_appendStep 36 = .ok (.ireturn, 1) := by decide +kernel
theorem dX5_appendStep_37 : decode cX5_appendStep 37 = .ok (.aload_n 0, 1) := by decide +kernel
theorem dX5_appendStep_38 : decode cX5_appendStep 38 = .ok (.iload_n 1, 1) := by decide +kernel
theorem dX5_appendStep_39 : decode cX5_appendStep 39 = .ok (.iconst 1, 1) := by decide +kernel
theorem dX5_appendStep_40 : decode cX5_appendStep 40 = .ok (.invokevirtual 29, 3) := by decide +kernel
theorem dX5_appendStep_43 : decode cX5_appendStep 43 = .ok (.ireturn, 1) := by decide +kernel
theorem dX5_wayOf_0 : decode cX5_wayOf 0 = .ok (.iload_n 1, 1) := by decide +kernel
theorem dX5_wayOf_1 : decode cX5_wayOf 1 = .ok (.iconst 0, 1) := by decide +kernel
theorem dX5_wayOf_2 : decode cX5_wayOf 2 = .ok (.aload_n 0, 1) := by decide +kernel
theorem dX5_wayOf_3 : decode cX5_wayOf 3 = .ok (.getfield 18, 3) := by decide +kernel
theorem dX5_wayOf_6 : decode cX5_wayOf 6 = .ok (.iconst 1, 1) := by decide +kernel
theorem dX5_wayOf_7 : decode cX5_wayOf 7 = .ok (.isub, 1) := by decide +kernel
theorem dX5_wayOf_8 : decode cX5_wayOf 8 = .ok (.invokestatic 33, 3) := by decide +kernel
theorem dX5_wayOf_11 : decode cX5_wayOf 11 = .ok (.ifCond .eq 12, 3) := by decide +kernel
theorem dX5_wayOf_14 : decode cX5_wayOf 14 = .ok (.aload_n 0, 1) := by decide +kernel
theorem dX5_wayOf_15 : decode cX5_wayOf 15 = .ok (.getfield 9, 3) := by decide +kernel
theorem dX5_wayOf_18 : decode cX5_wayOf 18 = .ok (.iload_n 1, 1) := by decide +kernel
theorem dX5_wayOf_19 : decode cX5_wayOf 19 = .ok (.iaload, 1) := by decide +kernel
theorem dX5_wayOf_20 : decode cX5_wayOf 20 = .ok (.goto 4, 3) := by decide +kernel
theorem dX5_wayOf_23 : decode cX5_wayOf 23 = .ok (.iconst (-1), 1) := by decide +kernel
theorem dX5_wayOf_24 : decode cX5_wayOf 24 = .ok (.ireturn, 1) := by decide +kernel
theorem dX5_stepsOf_0 : decode cX5_stepsOf 0 = .ok (.iload_n 1, 1) := by decide +kernel
theorem dX5_stepsOf_1 : decode cX5_stepsOf 1 = .ok (.iconst 0, 1) := by decide +kernel
theorem dX5_stepsOf_2 : decode cX5_stepsOf 2 = .ok (.aload_n 0, 1) := by decide +kernel
theorem dX5_stepsOf_3 : decode cX5_stepsOf 3 = .ok (.getfield 18, 3) := by decide +kernel
theorem dX5_stepsOf_6 : decode cX5_stepsOf 6 = .ok (.iconst 1, 1) := by decide +kernel
theorem dX5_stepsOf_7 : decode cX5_stepsOf 7 = .ok (.isub, 1) := by decide +kernel
theorem dX5_stepsOf_8 : decode cX5_stepsOf 8 = .ok (.invokestatic 33, 3) := by decide +kernel
theorem dX5_stepsOf_11 : decode cX5_stepsOf 11 = .ok (.ifCond .eq 12, 3) := by decide +kernel
theorem dX5_stepsOf_14 : decode cX5_stepsOf 14 = .ok (.aload_n 0, 1) := by decide +kernel
theorem dX5_stepsOf_15 : decode cX5_stepsOf 15 = .ok (.getfield 15, 3) := by decide +kernel
theorem dX5_stepsOf_18 : decode cX5_stepsOf 18 = .ok (.iload_n 1, 1) := by decide +kernel
theorem dX5_stepsOf_19 : decode cX5_stepsOf 19 = .ok (.iaload, 1) := by decide +kernel
theorem dX5_stepsOf_20 : decode cX5_stepsOf 20 = .ok (.goto 4, 3) := by decide +kernel
theorem dX5_stepsOf_23 : decode cX5_stepsOf 23 = .ok (.iconst (-1), 1) := by decide +kernel
theorem dX5_stepsOf_24 : decode cX5_stepsOf 24 = .ok (.ireturn, 1) := by decide +kernel
theorem dX5_takeAll_0 : decode cX5_takeAll 0 = .ok (.aload_n 1, 1) := by decide +kernel
theorem dX5_takeAll_1 : decode cX5_takeAll 1 = .ok (.getfield 9, 3) := by decide +kernel
theorem dX5_takeAll_4 : decode cX5_takeAll 4 = .ok (.iconst 0, 1) := by decide +kernel
theorem dX5_takeAll_5 : decode cX5_takeAll 5 = .ok (.aload_n 0, 1) := by decide +kernel
theorem dX5_takeAll_6 : decode cX5_takeAll 6 = .ok (.getfield 9, 3) := by decide +kernel
theorem dX5_takeAll_9 : decode cX5_takeAll 9 = .ok (.iconst 0, 1) := by decide +kernel
theorem dX5_takeAll_10 : decode cX5_takeAll 10 = .ok (.bipush 24, 2) := by decide +kernel
theorem dX5_takeAll_12 : decode cX5_takeAll 12 = .ok (.invokestatic 37, 3) := by decide +kernel
theorem dX5_takeAll_15 : decode cX5_takeAll 15 = .ok (.aload_n 1, 1) := by decide +kernel
theorem dX5_takeAll_16 : decode cX5_takeAll 16 = .ok (.getfield 15, 3) := by decide +kernel
theorem dX5_takeAll_19 : decode cX5_takeAll 19 = .ok (.iconst 0, 1) := by decide +kernel
theorem dX5_takeAll_20 : decode cX5_takeAll 20 = .ok (.aload_n 0, 1) := by decide +kernel
theorem dX5_takeAll_21 : decode cX5_takeAll 21 = .ok (.getfield 15, 3) := by decide +kernel
theorem dX5_takeAll_24 : decode cX5_takeAll 24 = .ok (.iconst 0, 1) := by decide +kernel
theorem dX5_takeAll_25 : decode cX5_takeAll 25 = .ok (.bipush 24, 2) := by decide +kernel
theorem dX5_takeAll_27 : decode cX5_takeAll 27 = .ok (.invokestatic 37, 3) := by decide +kernel
theorem dX5_takeAll_30 : decode cX5_takeAll 30 = .ok (.aload_n 0, 1) := by decide +kernel
theorem dX5_takeAll_31 : decode cX5_takeAll 31 = .ok (.aload_n 1, 1) := by decide +kernel
theorem dX5_takeAll_32 : decode cX5_takeAll 32 = .ok (.getfield 18, 3) := by decide +kernel
theorem dX5_takeAll_35 : decode cX5_takeAll 35 = .ok (.putfield 18, 3) := by decide +kernel
theorem dX5_takeAll_38 : decode cX5_takeAll 38 = .ok (.return_, 1) := by decide +kernel
theorem dX6_init_0 : decode cX6_init 0 = .ok (.aload_n 0, 1) := by decide +kernel
theorem dX6_init_1 : decode cX6_init 1 = .ok (.invokespecial 3, 3) := by decide +kernel
theorem dX6_init_4 : decode cX6_init 4 = .ok (.return_, 1) := by decide +kernel
theorem dX6_standAt_0 : decode cX6_standAt 0 = .ok (.aload_n 0, 1) := by decide +kernel
theorem dX6_standAt_1 : decode cX6_standAt 1 = .ok (.iload_n 1, 1) := by decide +kernel
theorem dX6_standAt_2 : decode cX6_standAt 2 = .ok (.putfield 9, 3) := by decide +kernel
theorem dX6_standAt_5 : decode cX6_standAt 5 = .ok (.aload_n 0, 1) := by decide +kernel
theorem dX6_standAt_6 : decode cX6_standAt 6 = .ok (.iload_n 2, 1) := by decide +kernel
theorem dX6_standAt_7 : decode cX6_standAt 7 = .ok (.putfield 15, 3) := by decide +kernel
theorem dX6_standAt_10 : decode cX6_standAt 10 = .ok (.aload_n 0, 1) := by decide +kernel
theorem dX6_standAt_11 : decode cX6_standAt 11 = .ok (.iload_n 3, 1) := by decide +kernel
theorem dX6_standAt_12 : decode cX6_standAt 12 = .ok (.putfield 18, 3) := by decide +kernel
theorem dX6_standAt_15 : decode cX6_standAt 15 = .ok (.aload_n 0, 1) := by decide +kernel
theorem dX6_standAt_16 : decode cX6_standAt 16 = .ok (.iconst 0, 1) := by decide +kernel
theorem dX6_standAt_17 : decode cX6_standAt 17 = .ok (.putfield 21, 3) := by decide +kernel
theorem dX6_standAt_20 : decode cX6_standAt 20 = .ok (.aload_n 0, 1) := by decide +kernel
theorem dX6_standAt_21 : decode cX6_standAt 21 = .ok (.lconst 1, 1) := by decide +kernel
theorem dX6_standAt_22 : decode cX6_standAt 22 = .ok (.iload_n 1, 1) := by decide +kernel
theorem dX6_standAt_23 : decode cX6_standAt 23 = .ok (.lshl, 1) := by decide +kernel
theorem dX6_standAt_24 : decode cX6_standAt 24 = .ok (.putfield 24, 3) := by decide +kernel
theorem dX6_standAt_27 : decode cX6_standAt 27 = .ok (.return_, 1) := by decide +kernel
theorem dX6_goSteps_0 : decode cX6_goSteps 0 = .ok (.iconst 0, 1) := by decide +kernel
theorem dX6_goSteps_1 : decode cX6_goSteps 1 = .ok (.istore 4, 2) := by decide +kernel
theorem dX6_goSteps_3 : decode cX6_goSteps 3 = .ok (.iload 4, 2) := by decide +kernel
theorem dX6_goSteps_5 : decode cX6_goSteps 5 = .ok (.iload_n 3, 1) := by decide +kernel
theorem dX6_goSteps_6 : decode cX6_goSteps 6 = .ok (.if_icmp .ge 15, 3) := by decide +kernel
theorem dX6_goSteps_9 : decode cX6_goSteps 9 = .ok (.aload_n 0, 1) := by decide +kernel
theorem dX6_goSteps_10 : decode cX6_goSteps 10 = .ok (.aload_n 1, 1) := by decide +kernel
theorem dX6_goSteps_11 : decode cX6_goSteps 11 = .ok (.iload_n 2, 1) := by decide +kernel
theorem dX6_goSteps_12 : decode cX6_goSteps 12 = .ok (.invokevirtual 28, 3) := by decide +kernel
theorem dX6_goSteps_15 : decode cX6_goSteps 15 = .ok (.iinc 4 1, 3) := by decide +kernel
theorem dX6_goSteps_18 : decode cX6_goSteps 18 = .ok (.goto (-15), 3) := by decide +kernel
theorem dX6_goSteps_21 : decode cX6_goSteps 21 = .ok (.return_, 1) := by decide +kernel
theorem dX6_goStep_0 : decode cX6_goStep 0 = .ok (.aload_n 1, 1) := by decide +kernel
theorem dX6_goStep_1 : decode cX6_goStep 1 = .ok (.aload_n 0, 1) := by decide +kernel
theorem dX6_goStep_2 : decode cX6_goStep 2 = .ok (.getfield 9, 3) := by decide +kernel
theorem dX6_goStep_5 : decode cX6_goStep 5 = .ok (.aload_n 0, 1) := by decide +kernel
theorem dX6_goStep_6 : decode cX6_goStep 6 = .ok (.getfield 15, 3) := by decide +kernel
theorem dX6_goStep_9 : decode cX6_goStep 9 = .ok (.invokevirtual 32, 3) := by decide +kernel
theorem dX6_goStep_12 : decode cX6_goStep 12 = .ok (.istore_n 3, 1) := by decide +kernel
theorem dX6_goStep_13 : decode cX6_goStep 13 = .ok (.iload_n 3, 1) := by decide +kernel
theorem dX6_goStep_14 : decode cX6_goStep 14 = .ok (.ifCond .lt 21, 3) := by decide +kernel
theorem dX6_goStep_17 : decode cX6_goStep 17 = .ok (.aload_n 0, 1) := by decide +kernel
theorem dX6_goStep_18 : decode cX6_goStep 18 = .ok (.iload_n 3, 1) := by decide +kernel
theorem dX6_goStep_19 : decode cX6_goStep 19 = .ok (.putfield 9, 3) := by decide +kernel
theorem dX6_goStep_22 : decode cX6_goStep 22 = .ok (.aload_n 0, 1) := by decide +kernel
theorem dX6_goStep_23 : decode cX6_goStep 23 = .ok (.dup, 1) := by decide +kernel
theorem dX6_goStep_24 : decode cX6_goStep 24 = .ok (.getfield 24, 3) := by decide +kernel
theorem dX6_goStep_27 : decode cX6_goStep 27 = .ok (.lconst 1, 1) := by decide +kernel
theorem dX6_goStep_28 : decode cX6_goStep 28 = .ok (.iload_n 3, 1) := by decide +kernel
theorem dX6_goStep_29 : decode cX6_goStep 29 = .ok (.lshl, 1) := by decide +kernel
theorem dX6_goStep_30 : decode cX6_goStep 30 = .ok (.lor, 1) := by decide +kernel
theorem dX6_goStep_31 : decode cX6_goStep 31 = .ok (.putfield 24, 3) := by decide +kernel
theorem dX6_goStep_34 : decode cX6_goStep 34 = .ok (.return_, 1) := by decide +kernel
theorem dX6_goStep_35 : decode cX6_goStep 35 = .ok (.aload_n 0, 1) := by decide +kernel
theorem dX6_goStep_36 : decode cX6_goStep 36 = .ok (.dup, 1) := by decide +kernel
theorem dX6_goStep_37 : decode cX6_goStep 37 = .ok (.getfield 21, 3) := by decide +kernel
theorem dX6_goStep_40 : decode cX6_goStep 40 = .ok (.iconst 1, 1) := by decide +kernel
theorem dX6_goStep_41 : decode cX6_goStep 41 = .ok (.iadd, 1) := by decide +kernel
theorem dX6_goStep_42 : decode cX6_goStep 42 = .ok (.putfield 21, 3) := by decide +kernel
theorem dX6_goStep_45 : decode cX6_goStep 45 = .ok (.iload_n 2, 1) := by decide +kernel
theorem dX6_goStep_46 : decode cX6_goStep 46 = .ok (.iconst 3, 1) := by decide +kernel
theorem dX6_goStep_47 : decode cX6_goStep 47 = .ok (.if_icmp .ne 34, 3) := by decide +kernel
theorem dX6_goStep_50 : decode cX6_goStep 50 = .ok (.aload_n 0, 1) := by decide +kernel
theorem dX6_goStep_51 : decode cX6_goStep 51 = .ok (.aload_n 0, 1) := by decide +kernel
theorem dX6_goStep_52 : decode cX6_goStep 52 = .ok (.getfield 18, 3) := by decide +kernel
theorem dX6_goStep_55 : decode cX6_goStep 55 = .ok (.ldc 38, 2) := by decide +kernel
theorem dX6_goStep_57 : decode cX6_goStep 57 = .ok (.imul, 1) := by decide +kernel
theorem dX6_goStep_58 : decode cX6_goStep 58 = .ok (.sipush 12345, 3) := by decide +kernel
theorem dX6_goStep_61 : decode cX6_goStep 61 = .ok (.iadd, 1) := by decide +kernel
theorem dX6_goStep_62 : decode cX6_goStep 62 = .ok (.putfield 18, 3) := by decide +kernel
theorem dX6_goStep_65 : decode cX6_goStep 65 = .ok (.aload_n 0, 1) := by decide +kernel
theorem dX6_goStep_66 : decode cX6_goStep 66 = .ok (.aload_n 0, 1) := by decide +kernel
theorem dX6_goStep_67 : decode cX6_goStep 67 = .ok (.getfield 18, 3) := by decide +kernel
theorem dX6_goStep_70 : decode cX6_goStep 70 = .ok (.bipush 16, 2) := by decide +kernel
theorem dX6_goStep_72 : decode cX6_goStep 72 = .ok (.ishr, 1) := by decide +kernel
theorem dX6_goStep_73 : decode cX6_goStep 73 = .ok (.iconst 3, 1) := by decide +kernel
theorem dX6_goStep_74 : decode cX6_goStep 74 = .ok (.iand, 1) := by decide +kernel
theorem dX6_goStep_75 : decode cX6_goStep 75 = .ok (.putfield 15, 3) := by decide +kernel
theorem dX6_goStep_78 : decode cX6_goStep 78 = .ok (.goto 18, 3) := by decide +kernel
theorem dX6_goStep_81 : decode cX6_goStep 81 = .ok (.aload_n 0, 1) := by decide +kernel
theorem dX6_goStep_82 : decode cX6_goStep 82 = .ok (.aload_n 0, 1) := by decide +kernel
theorem dX6_goStep_83 : decode cX6_goStep 83 = .ok (.getfield 15, 3) := by decide +kernel
theorem dX6_goStep_86 : decode cX6_goStep 86 = .ok (.iload_n 2, 1) := by decide +kernel
theorem dX6_goStep_87 : decode cX6_goStep 87 = .ok (.invokestatic 39, 3) := by decide +kernel
theorem dX6_goStep_90 : decode cX6_goStep 90 = .ok (.iadd, 1) := by decide +kernel
theorem dX6_goStep_91 : decode cX6_goStep 91 = .ok (.iconst 4, 1) := by decide +kernel
theorem dX6_goStep_92 : decode cX6_goStep 92 = .ok (.irem, 1) := by decide +kernel
theorem dX6_goStep_93 : decode cX6_goStep 93 = .ok (.putfield 15, 3) := by decide +kernel
theorem dX6_goStep_96 : decode cX6_goStep 96 = .ok (.return_, 1) := by decide +kernel
theorem dX6_quartersOf_0 : decode cX6_quartersOf 0 = .ok (.iload_n 0, 1) := by decide +kernel
theorem dX6_quartersOf_1 : decode cX6_quartersOf 1 = .ok (.ifCond .ne 7, 3) := by decide +kernel
theorem dX6_quartersOf_4 : decode cX6_quartersOf 4 = .ok (.iconst 1, 1) := by decide +kernel
theorem dX6_quartersOf_5 : decode cX6_quartersOf 5 = .ok (.goto 13, 3) := by decide +kernel
theorem dX6_quartersOf_8 : decode cX6_quartersOf 8 = .ok (.iload_n 0, 1) := by decide +kernel
theorem dX6_quartersOf_9 : decode cX6_quartersOf 9 = .ok (.iconst 1, 1) := by decide +kernel
theorem dX6_quartersOf_10 : decode cX6_quartersOf 10 = .ok (.if_icmp .ne 7, 3) := by decide +kernel
theorem dX6_quartersOf_13 : decode cX6_quartersOf 13 = .ok (.iconst 3, 1) := by decide +kernel
theorem dX6_quartersOf_14 : decode cX6_quartersOf 14 = .ok (.goto 4, 3) := by decide +kernel
theorem dX6_quartersOf_17 : decode cX6_quartersOf 17 = .ok (.iconst 2, 1) := by decide +kernel
theorem dX6_quartersOf_18 : decode cX6_quartersOf 18 = .ok (.ireturn, 1) := by decide +kernel
theorem dX7_init_0 : decode cX7_init 0 = .ok (.aload_n 0, 1) := by decide +kernel
theorem dX7_init_1 : decode cX7_init 1 = .ok (.invokespecial 3, 3) := by decide +kernel
theorem dX7_init_4 : decode cX7_init 4 = .ok (.aload_n 0, 1) := by decide +kernel
theorem dX7_init_5 : decode cX7_init 5 = .ok (.bipush 48, 2) := by decide +kernel
theorem dX7_init_7 : decode cX7_init 7 = .ok (.newarray .int, 2) := by decide +kernel
theorem dX7_init_9 : decode cX7_init 9 = .ok (.putfield 9, 3) := by decide +kernel
theorem dX7_init_12 : decode cX7_init 12 = .ok (.aload_n 0, 1) := by decide +kernel
theorem dX7_init_13 : decode cX7_init 13 = .ok (.iconst (-1), 1) := by decide +kernel
theorem dX7_init_14 : decode cX7_init 14 = .ok (.putfield 15, 3) := by decide +kernel
theorem dX7_init_17 : decode cX7_init 17 = .ok (.aload_n 0, 1) := by decide +kernel
theorem dX7_init_18 : decode cX7_init 18 = .ok (.iconst 0, 1) := by decide +kernel
theorem dX7_init_19 : decode cX7_init 19 = .ok (.putfield 19, 3) := by decide +kernel
theorem dX7_init_22 : decode cX7_init 22 = .ok (.return_, 1) := by decide +kernel
theorem dX7_startAnew_0 : decode cX7_startAnew 0 = .ok (.aload_n 0, 1) := by decide +kernel
theorem dX7_startAnew_1 : decode cX7_startAnew 1 = .ok (.getfield 9, 3) := by decide +kernel
theorem dX7_startAnew_4 : decode cX7_startAnew 4 = .ok (.iconst 0, 1) := by decide +kernel
theorem dX7_startAnew_5 : decode cX7_startAnew 5 = .ok (.invokestatic 22, 3) := by decide +kernel
theorem dX7_startAnew_8 : decode cX7_startAnew 8 = .ok (.aload_n 0, 1) := by decide +kernel
theorem dX7_startAnew_9 : decode cX7_startAnew 9 = .ok (.iload_n 1, 1) := by decide +kernel
theorem dX7_startAnew_10 : decode cX7_startAnew 10 = .ok (.putfield 15, 3) := by decide +kernel
theorem dX7_startAnew_13 : decode cX7_startAnew 13 = .ok (.aload_n 0, 1) := by decide +kernel
theorem dX7_startAnew_14 : decode cX7_startAnew 14 = .ok (.iload_n 2, 1) := by decide +kernel
theorem dX7_startAnew_15 : decode cX7_startAnew 15 = .ok (.putfield 19, 3) := by decide +kernel
theorem dX7_startAnew_18 : decode cX7_startAnew 18 = .ok (.return_, 1) := by decide +kernel
theorem dX7_isNothing_0 : decode cX7_isNothing 0 = .ok (.aload_n 0, 1) := by decide +kernel
theorem dX7_isNothing_1 : decode cX7_isNothing 1 = .ok (.getfield 15, 3) := by decide +kernel
theorem dX7_isNothing_4 : decode cX7_isNothing 4 = .ok (.iconst (-1), 1) := by decide +kernel
theorem dX7_isNothing_5 : decode cX7_isNothing 5 = .ok (.if_icmp .ne 7, 3) := by decide +kernel
theorem dX7_isNothing_8 : decode cX7_isNothing 8 = .ok (.iconst 1, 1) := by decide +kernel
theorem dX7_isNothing_9 : decode cX7_isNothing 9 = .ok (.goto 4, 3) := by decide +kernel
theorem dX7_isNothing_12 : decode cX7_isNothing 12 = .ok (.iconst 0, 1) := by decide +kernel
theorem dX7_isNothing_13 : decode cX7_isNothing 13 = .ok (.ireturn, 1) := by decide +kernel
theorem dX7_faultOf_0 : decode cX7_faultOf 0 = .ok (.aload_n 0, 1) := by decide +kernel
theorem dX7_faultOf_1 : decode cX7_faultOf 1 = .ok (.invokevirtual 28, 3) := by decide +kernel
theorem dX7_faultOf_4 : decode cX7_faultOf 4 = .ok (.ifCond .eq 5, 3) := by decide +kernel
theorem dX7_faultOf_7 : decode cX7_faultOf 7 = .ok (.iconst 1, 1) := by decide +kernel
theorem dX7_faultOf_8 : decode cX7_faultOf 8 = .ok (.ireturn, 1) := by decide +kernel
theorem dX7_faultOf_9 : decode cX7_faultOf 9 = .ok (.iload_n 1, 1) := by decide +kernel
theorem dX7_faultOf_10 : decode cX7_faultOf 10 = .ok (.aload_n 0, 1) := by decide +kernel
theorem dX7_faultOf_11 : decode cX7_faultOf 11 = .ok (.getfield 15, 3) := by decide +kernel
theorem dX7_faultOf_14 : decode cX7_faultOf 14 = .ok (.if_icmp .eq 5, 3) := by decide +kernel
theorem dX7_faultOf_17 : decode cX7_faultOf 17 = .ok (.iconst 3, 1) := by decide +kernel
theorem dX7_faultOf_18 : decode cX7_faultOf 18 = .ok (.ireturn, 1) := by decide +kernel
theorem dX7_faultOf_19 : decode cX7_faultOf 19 = .ok (.lload_n 2, 1) := by decide +kernel
theorem dX7_faultOf_20 : decode cX7_faultOf 20 = .ok (.lconst 0, 1) := by decide +kernel
theorem dX7_faultOf_21 : decode cX7_faultOf 21 = .ok (.lcmp, 1) := by decide +kernel
theorem dX7_faultOf_22 : decode cX7_faultOf 22 = .ok (.ifCond .lt 17, 3) := by decide +kernel
theorem dX7_faultOf_25 : decode cX7_faultOf 25 = .ok (.lload_n 2, 1) := by decide +kernel
theorem dX7_faultOf_26 : decode cX7_faultOf 26 = .ok (.aload_n 0, 1) := by decide +kernel
theorem dX7_faultOf_27 : decode cX7_faultOf 27 = .ok (.getfield 19, 3) := by decide +kernel
theorem dX7_faultOf_30 : decode cX7_faultOf 30 = .ok (.i2l, 1) := by decide +kernel
theorem dX7_faultOf_31 : decode cX7_faultOf 31 = .ok (.lcmp, 1) := by decide +kernel
theorem dX7_faultOf_32 : decode cX7_faultOf 32 = .ok (.ifCond .ge 7, 3) := by decide +kernel
theorem dX7_faultOf_35 : decode cX7_faultOf 35 = .ok (.iconst 0, 1) := by decide +kernel
theorem dX7_faultOf_36 : decode cX7_faultOf 36 = .ok (.goto 4, 3) := by decide +kernel
theorem dX7_faultOf_39 : decode cX7_faultOf 39 = .ok (.iconst 2, 1) := by decide +kernel
theorem dX7_faultOf_40 : decode cX7_faultOf 40 = .ok (.ireturn, 1) := by decide +kernel
theorem dX7_write_0 : decode cX7_write 0 = .ok (.iload_n 1, 1) := by decide +kernel
theorem dX7_write_1 : decode cX7_write 1 = .ok (.iconst 0, 1) := by decide +kernel
theorem dX7_write_2 : decode cX7_write 2 = .ok (.aload_n 0, 1) := by decide +kernel
theorem dX7_write_3 : decode cX7_write 3 = .ok (.getfield 19, 3) := by decide +kernel
theorem dX7_write_6 : decode cX7_write 6 = .ok (.iconst 1, 1) := by decide +kernel
theorem dX7_write_7 : decode cX7_write 7 = .ok (.isub, 1) := by decide +kernel
theorem dX7_write_8 : decode cX7_write 8 = .ok (.invokestatic 32, 3) := by decide +kernel
theorem dX7_write_11 : decode cX7_write 11 = .ok (.ifCond .eq 35, 3) := by decide +kernel
theorem dX7_write_14 : decode cX7_write 14 = .ok (.aload_n 0, 1) := by decide +kernel
theorem dX7_write_15 : decode cX7_write 15 = .ok (.getfield 9, 3) := by decide +kernel
theorem dX7_write_18 : decode cX7_write 18 = .ok (.iload_n 1, 1) := by decide +kernel
theorem dX7_write_19 : decode cX7_write 19 = .ok (.aload_n 0, 1) := by decide +kernel
theorem dX7_write_20 : decode cX7_write 20 = .ok (.getfield 15, 3) := by decide +kernel
theorem dX7_write_23 : decode cX7_write 23 = .ok (.ifCond .ne 8, 3) := by decide +kernel
theorem dX7_write_26 : decode cX7_write 26 = .ok (.iload_n 2, 1) := by decide +kernel
theorem dX7_write_27 : decode cX7_write 27 = .ok (.i2b, 1) := by decide +kernel
theorem dX7_write_28 : decode cX7_write 28 = .ok (.goto 17, 3) := by decide +kernel
theorem dX7_write_31 : decode cX7_write 31 = .ok (.aload_n 0, 1) := by decide +kernel
theorem dX7_write_32 : decode cX7_write 32 = .ok (.getfield 15, 3) := by decide +kernel
theorem dX7_write_35 : decode cX7_write 35 = .ok (.iconst 1, 1) := by decide +kernel
theorem dX7_write_36 : decode cX7_write 36 = .ok (.if_icmp .ne 8, 3) := by decide +kernel
theorem dX7_write_39 : decode cX7_write 39 = .ok (.iload_n 2, 1) := by decide +kernel
theorem dX7_write_40 : decode cX7_write 40 = .ok (.i2s, 1) := by decide +kernel
theorem dX7_write_41 : decode cX7_write 41 = .ok (.goto 4, 3) := by decide +kernel
theorem dX7_write_44 : decode cX7_write 44 = .ok (.iload_n 2, 1) := by decide +kernel
theorem dX7_write_45 : decode cX7_write 45 = .ok (.iastore, 1) := by decide +kernel
theorem dX7_write_46 : decode cX7_write 46 = .ok (.return_, 1) := by decide +kernel
theorem dX7_valueAt_0 : decode cX7_valueAt 0 = .ok (.iload_n 1, 1) := by decide +kernel
theorem dX7_valueAt_1 : decode cX7_valueAt 1 = .ok (.iconst 0, 1) := by decide +kernel
theorem dX7_valueAt_2 : decode cX7_valueAt 2 = .ok (.aload_n 0, 1) := by decide +kernel
theorem dX7_valueAt_3 : decode cX7_valueAt 3 = .ok (.getfield 19, 3) := by decide +kernel
theorem dX7_valueAt_6 : decode cX7_valueAt 6 = .ok (.iconst 1, 1) := by decide +kernel
theorem dX7_valueAt_7 : decode cX7_valueAt 7 = .ok (.isub, 1) := by decide +kernel
theorem dX7_valueAt_8 : decode cX7_valueAt 8 = .ok (.invokestatic 32, 3) := by decide +kernel
theorem dX7_valueAt_11 : decode cX7_valueAt 11 = .ok (.ifCond .eq 12, 3) := by decide +kernel
theorem dX7_valueAt_14 : decode cX7_valueAt 14 = .ok (.aload_n 0, 1) := by decide +kernel
theorem dX7_valueAt_15 : decode cX7_valueAt 15 = .ok (.getfield 9, 3) := by decide +kernel
theorem dX7_valueAt_18 : decode cX7_valueAt 18 = .ok (.iload_n 1, 1) := by decide +kernel
theorem dX7_valueAt_19 : decode cX7_valueAt 19 = .ok (.iaload, 1) := by decide +kernel
theorem dX7_valueAt_20 : decode cX7_valueAt 20 = .ok (.goto 4, 3) := by decide +kernel
theorem dX7_valueAt_23 : decode cX7_valueAt 23 = .ok (.iconst 0, 1) := by decide +kernel
theorem dX7_valueAt_24 : decode cX7_valueAt 24 = .ok (.ireturn, 1) := by decide +kernel
theorem dX8_init_0 : decode cX8_init 0 = .ok (.aload_n 0, 1) := by decide +kernel
theorem dX8_init_1 : decode cX8_init 1 = .ok (.invokespecial 3, 3) := by decide +kernel
theorem dX8_init_4 : decode cX8_init 4 = .ok (.aload_n 0, 1) := by decide +kernel
theorem dX8_init_5 : decode cX8_init 5 = .ok (.sipush 320, 3) := by decide +kernel
theorem dX8_init_8 : decode cX8_init 8 = .ok (.newarray .byte, 2) := by decide +kernel
theorem dX8_init_10 : decode cX8_init 10 = .ok (.putfield 9, 3) := by decide +kernel
theorem dX8_init_13 : decode cX8_init 13 = .ok (.aload_n 0, 1) := by decide +kernel
theorem dX8_init_14 : decode cX8_init 14 = .ok (.iconst 0, 1) := by decide +kernel
theorem dX8_init_15 : decode cX8_init 15 = .ok (.putfield 15, 3) := by decide +kernel
theorem dX8_init_18 : decode cX8_init 18 = .ok (.aload_n 0, 1) := by decide +kernel
theorem dX8_init_19 : decode cX8_init 19 = .ok (.iconst 5, 1) := by decide +kernel
theorem dX8_init_20 : decode cX8_init 20 = .ok (.putfield 19, 3) := by decide +kernel
theorem dX8_init_23 : decode cX8_init 23 = .ok (.aload_n 0, 1) := by decide +kernel
theorem dX8_init_24 : decode cX8_init 24 = .ok (.iconst 0, 1) := by decide +kernel
theorem dX8_init_25 : decode cX8_init 25 = .ok (.putfield 22, 3) := by decide +kernel
theorem dX8_init_28 : decode cX8_init 28 = .ok (.aload_n 0, 1) := by decide +kernel
theorem dX8_init_29 : decode cX8_init 29 = .ok (.iconst 0, 1) := by decide +kernel
theorem dX8_init_30 : decode cX8_init 30 = .ok (.putfield 25, 3) := by decide +kernel
theorem dX8_init_33 : decode cX8_init 33 = .ok (.aload_n 0, 1) := by decide +kernel
theorem dX8_init_34 : decode cX8_init 34 = .ok (.iconst 0, 1) := by decide +kernel
theorem dX8_init_35 : decode cX8_init 35 = .ok (.putfield 28, 3) := by decide +kernel
theorem dX8_init_38 : decode cX8_init 38 = .ok (.return_, 1) := by decide +kernel
theorem dX8_append_0 : decode cX8_append 0 = .ok (.aload_n 0, 1) := by decide +kernel
theorem dX8_append_1 : decode cX8_append 1 = .ok (.getfield 15, 3) := by decide +kernel
theorem dX8_append_4 : decode cX8_append 4 = .ok (.bipush 8, 2) := by decide +kernel
theorem dX8_append_6 : decode cX8_append 6 = .ok (.iadd, 1) := by decide +kernel
theorem dX8_append_7 : decode cX8_append 7 = .ok (.sipush 320, 3) := by decide +kernel
theorem dX8_append_10 : decode cX8_append 10 = .ok (.if_icmp .le 5, 3) := by decide +kernel
theorem dX8_append_13 : decode cX8_append 13 = .ok (.iconst 0, 1) := by decide +kernel
theorem dX8_append_14 : decode cX8_append 14 = .ok (.ireturn, 1) := by decide +kernel
theorem dX8_append_15 : decode cX8_append 15 = .ok (.iconst 0, 1) := by decide +kernel
theorem dX8_append_16 : decode cX8_append 16 = .ok (.istore_n 3, 1) := by decide +kernel
theorem dX8_append_17 : decode cX8_append 17 = .ok (.iload_n 3, 1) := by decide +kernel
theorem dX8_append_18 : decode cX8_append 18 = .ok (.bipush 8, 2) := by decide +kernel
theorem dX8_append_20 : decode cX8_append 20 = .ok (.if_icmp .ge 31, 3) := by decide +kernel
theorem dX8_append_23 : decode cX8_append 23 = .ok (.aload_n 0, 1) := by decide +kernel
theorem dX8_append_24 : decode cX8_append 24 = .ok (.getfield 9, 3) := by decide +kernel
theorem dX8_append_27 : decode cX8_append 27 = .ok (.aload_n 0, 1) := by decide +kernel
theorem dX8_append_28 : decode cX8_append 28 = .ok (.getfield 15, 3) := by decide +kernel
theorem dX8_append_31 : decode cX8_append 31 = .ok (.iload_n 3, 1) := by decide +kernel
theorem dX8_append_32 : decode cX8_append 32 = .ok (.iadd, 1) := by decide +kernel
theorem dX8_append_33 : decode cX8_append 33 = .ok (.lload_n 1, 1) := by decide +kernel
theorem dX8_append_34 : decode cX8_append 34 = .ok (.bipush 8, 2) := by decide +kernel
theorem dX8_append_36 : decode cX8_append 36 = .ok (.bipush 7, 2) := by decide +kernel
theorem dX8_append_38 : decode cX8_append 38 = .ok (.iload_n 3, 1) := by decide +kernel
theorem dX8_append_39 : decode cX8_append 39 = .ok (.isub, 1) := by decide +kernel
theorem dX8_append_40 : decode cX8_append 40 = .ok (.imul, 1) := by decide +kernel
theorem dX8_append_41 : decode cX8_append 41 = .ok (.lushr, 1) := by decide +kernel
theorem dX8_append_42 : decode cX8_append 42 = .ok (.l2i, 1) := by decide +kernel
theorem dX8_append_43 : decode cX8_append 43 = .ok (.i2b, 1) := by decide +kernel
theorem dX8_append_44 : decode cX8_append 44 = .ok (.bastore, 1) := by decide +kernel
theorem dX8_append_45 : decode cX8_append 45 = .ok (.iinc 3 1, 3) := by decide +kernel
theorem dX8_append_48 : decode cX8_append 48 = .ok (.goto (-31), 3) := by decide +kernel
theorem dX8_append_51 : decode cX8_append 51 = .ok (.aload_n 0, 1) := by decide +kernel
theorem dX8_append_52 : decode cX8_append 52 = .ok (.dup, 1) := by decide +kernel
theorem dX8_append_53 : decode cX8_append 53 = .ok (.getfield 15, 3) := by decide +kernel
theorem dX8_append_56 : decode cX8_append 56 = .ok (.bipush 8, 2) := by decide +kernel
theorem dX8_append_58 : decode cX8_append 58 = .ok (.iadd, 1) := by decide +kernel
theorem dX8_append_59 : decode cX8_append 59 = .ok (.putfield 15, 3) := by decide +kernel
theorem dX8_append_62 : decode cX8_append 62 = .ok (.iconst 1, 1) := by decide +kernel
theorem dX8_append_63 : decode cX8_append 63 = .ok (.ireturn, 1) := by decide +kernel
theorem dX8_rewind_0 : decode cX8_rewind 0 = .ok (.aload_n 0, 1) := by decide +kernel
theorem dX8_rewind_1 : decode cX8_rewind 1 = .ok (.iconst 0, 1) := by decide +kernel
theorem dX8_rewind_2 : decode cX8_rewind 2 = .ok (.putfield 25, 3) := by decide +kernel
theorem dX8_rewind_5 : decode cX8_rewind 5 = .ok (.return_, 1) := by decide +kernel
theorem dX8_tokenAt_0 : decode cX8_tokenAt 0 = .ok (.iload_n 1, 1) := by decide +kernel
theorem dX8_tokenAt_1 : decode cX8_tokenAt 1 = .ok (.ifCond .lt 18, 3) := by decide +kernel
theorem dX8_tokenAt_4 : decode cX8_tokenAt 4 = .ok (.iload_n 1, 1) := by decide +kernel
theorem dX8_tokenAt_5 : decode cX8_tokenAt 5 = .ok (.aload_n 0, 1) := by decide +kernel
theorem dX8_tokenAt_6 : decode cX8_tokenAt 6 = .ok (.getfield 15, 3) := by decide +kernel
theorem dX8_tokenAt_9 : decode cX8_tokenAt 9 = .ok (.if_icmp .ge 10, 3) := by decide +kernel
theorem dX8_tokenAt_12 : decode cX8_tokenAt 12 = .ok (.iload_n 1, 1) := by decide +kernel
theorem dX8_tokenAt_13 : decode cX8_tokenAt 13 = .ok (.sipush 320, 3) := by decide +kernel
theorem dX8_tokenAt_16 : decode cX8_tokenAt 16 = .ok (.if_icmp .lt 5, 3) := by decide +kernel
theorem dX8_tokenAt_19 : decode cX8_tokenAt 19 = .ok (.iconst 5, 1) := by decide +kernel
theorem dX8_tokenAt_20 : decode cX8_tokenAt 20 = .ok (.ireturn, 1) := by decide +kernel
theorem dX8_tokenAt_21 : decode cX8_tokenAt 21 = .ok (.aload_n 0, 1) := by decide +kernel
theorem dX8_tokenAt_22 : decode cX8_tokenAt 22 = .ok (.getfield 9, 3) := by decide +kernel
theorem dX8_tokenAt_25 : decode cX8_tokenAt 25 = .ok (.iload_n 1, 1) := by decide +kernel
theorem dX8_tokenAt_26 : decode cX8_tokenAt 26 = .ok (.baload, 1) := by decide +kernel
theorem dX8_tokenAt_27 : decode cX8_tokenAt 27 = .ok (.istore_n 2, 1) := by decide +kernel
theorem dX8_tokenAt_28 : decode cX8_tokenAt 28 = .ok (.iload_n 2, 1) := by decide +kernel
theorem dX8_tokenAt_29 : decode cX8_tokenAt 29 = .ok (.bipush 97, 2) := by decide +kernel
theorem dX8_tokenAt_31 : decode cX8_tokenAt 31 = .ok (.if_icmp .lt 11, 3) := by decide +kernel
theorem dX8_tokenAt_34 : decode cX8_tokenAt 34 = .ok (.iload_n 2, 1) := by decide +kernel
theorem dX8_tokenAt_35 : decode cX8_tokenAt 35 = .ok (.bipush 122, 2) := by decide +kernel
theorem dX8_tokenAt_37 : decode cX8_tokenAt 37 = .ok (.if_icmp .gt 5, 3) := by decide +kernel
theorem dX8_tokenAt_40 : decode cX8_tokenAt 40 = .ok (.iconst 1, 1) := by decide +kernel
theorem dX8_tokenAt_41 : decode cX8_tokenAt 41 = .ok (.ireturn, 1) := by decide +kernel
theorem dX8_tokenAt_42 : decode cX8_tokenAt 42 = .ok (.iload_n 2, 1) := by decide +kernel
theorem dX8_tokenAt_43 : decode cX8_tokenAt 43 = .ok (.bipush 48, 2) := by decide +kernel
theorem dX8_tokenAt_45 : decode cX8_tokenAt 45 = .ok (.if_icmp .lt 11, 3) := by decide +kernel
theorem dX8_tokenAt_48 : decode cX8_tokenAt 48 = .ok (.iload_n 2, 1) := by decide +kernel
theorem dX8_tokenAt_49 : decode cX8_tokenAt 49 = .ok (.bipush 57, 2) := by decide +kernel
theorem dX8_tokenAt_51 : decode cX8_tokenAt 51 = .ok (.if_icmp .gt 5, 3) := by decide +kernel
theorem dX8_tokenAt_54 : decode cX8_tokenAt 54 = .ok (.iconst 2, 1) := by decide +kernel
theorem dX8_tokenAt_55 : decode cX8_tokenAt 55 = .ok (.ireturn, 1) := by decide +kernel
theorem dX8_tokenAt_56 : decode cX8_tokenAt 56 = .ok (.iload_n 2, 1) := by decide +kernel
theorem dX8_tokenAt_57 : decode cX8_tokenAt 57 = .ok (.bipush 59, 2) := by decide +kernel
theorem dX8_tokenAt_59 : decode cX8_tokenAt 59 = .ok (.if_icmp .ne 7, 3) := by decide +kernel
theorem dX8_tokenAt_62 : decode cX8_tokenAt 62 = .ok (.iconst 3, 1) := by decide +kernel
theorem dX8_tokenAt_63 : decode cX8_tokenAt 63 = .ok (.goto 14, 3) := by decide +kernel
theorem dX8_tokenAt_66 : decode cX8_tokenAt 66 = .ok (.iload_n 2, 1) := by decide +kernel
theorem dX8_tokenAt_67 : decode cX8_tokenAt 67 = .ok (.bipush 32, 2) := by decide +kernel
theorem dX8_tokenAt_69 : decode cX8_tokenAt 69 = .ok (.if_icmp .ne 7, 3) := by decide +kernel
theorem dX8_tokenAt_72 : decode cX8_tokenAt 72 = .ok (.iconst 4, 1) := by decide +kernel
theorem dX8_tokenAt_73 : decode cX8_tokenAt 73 = .ok (.goto 4, 3) := by decide +kernel
theorem dX8_tokenAt_76 : decode cX8_tokenAt 76 = .ok (.iconst 0, 1) := by decide +kernel
theorem dX8_tokenAt_77 : decode cX8_tokenAt 77 = .ok (.ireturn, 1) := by decide +kernel
theorem dX8_readToken_0 : decode cX8_readToken 0 = .ok (.aload_n 0, 1) := by decide +kernel
theorem dX8_readToken_1 : decode cX8_readToken 1 = .ok (.aload_n 0, 1) := by decide +kernel
theorem dX8_readToken_2 : decode cX8_readToken 2 = .ok (.getfield 25, 3) := by decide +kernel
theorem dX8_readToken_5 : decode cX8_readToken 5 = .ok (.putfield 22, 3) := by decide +kernel
theorem dX8_readToken_8 : decode cX8_readToken 8 = .ok (.aload_n 0, 1) := by decide +kernel
theorem dX8_readToken_9 : decode cX8_readToken 9 = .ok (.getfield 22, 3) := by decide +kernel
theorem dX8_readToken_12 : decode cX8_readToken 12 = .ok (.aload_n 0, 1) := by decide +kernel
theorem dX8_readToken_13 : decode cX8_readToken 13 = .ok (.getfield 15, 3) := by decide +kernel
theorem dX8_readToken_16 : decode cX8_readToken 16 = .ok (.if_icmp .ge 28, 3) := by decide +kernel
theorem dX8_readToken_19 : decode cX8_readToken 19 = .ok (.aload_n 0, 1) := by decide +kernel
theorem dX8_readToken_20 : decode cX8_readToken 20 = .ok (.aload_n 0, 1) := by decide +kernel
theorem dX8_readToken_21 : decode cX8_readToken 21 = .ok (.getfield 22, 3) := by decide +kernel
theorem dX8_readToken_24 : decode cX8_readToken 24 = .ok (.invokevirtual 31, 3) := by decide +kernel
theorem dX8_readToken_27 : decode cX8_readToken 27 = .ok (.iconst 4, 1) := by decide +kernel
theorem dX8_readToken_28 : decode cX8_readToken 28 = .ok (.if_icmp .ne 16, 3) := by decide +kernel
theorem dX8_readToken_31 : decode cX8_readToken 31 = .ok (.aload_n 0, 1) := by decide +kernel
theorem dX8_readToken_32 : decode cX8_readToken 32 = .ok (.dup, 1) := by decide +kernel
theorem dX8_readToken_33 : decode cX8_readToken 33 = .ok (.getfield 22, 3) := by decide +kernel
theorem dX8_readToken_36 : decode cX8_readToken 36 = .ok (.iconst 1, 1) := by decide +kernel
theorem dX8_readToken_37 : decode cX8_readToken 37 = .ok (.iadd, 1) := by decide +kernel
theorem dX8_readToken_38 : decode cX8_readToken 38 = .ok (.putfield 22, 3) := by decide +kernel
theorem dX8_readToken_41 : decode cX8_readToken 41 = .ok (.goto (-33), 3) := by decide +kernel
theorem dX8_readToken_44 : decode cX8_readToken 44 = .ok (.aload_n 0, 1) := by decide +kernel
theorem dX8_readToken_45 : decode cX8_readToken 45 = .ok (.aload_n 0, 1) := by decide +kernel
theorem dX8_readToken_46 : decode cX8_readToken 46 = .ok (.aload_n 0, 1) := by decide +kernel
theorem dX8_readToken_47 : decode cX8_readToken 47 = .ok (.getfield 22, 3) := by decide +kernel
theorem dX8_readToken_50 : decode cX8_readToken 50 = .ok (.invokevirtual 31, 3) := by decide +kernel
theorem dX8_readToken_53 : decode cX8_readToken 53 = .ok (.putfield 19, 3) := by decide +kernel
theorem dX8_readToken_56 : decode cX8_readToken 56 = .ok (.aload_n 0, 1) := by decide +kernel
theorem dX8_readToken_57 : decode cX8_readToken 57 = .ok (.aload_n 0, 1) := by decide +kernel
theorem dX8_readToken_58 : decode cX8_readToken 58 = .ok (.getfield 22, 3) := by decide +kernel
theorem dX8_readToken_61 : decode cX8_readToken 61 = .ok (.aload_n 0, 1) := by decide +kernel
theorem dX8_readToken_62 : decode cX8_readToken 62 = .ok (.getfield 15, 3) := by decide +kernel
theorem dX8_readToken_65 : decode cX8_readToken 65 = .ok (.if_icmp .ge 12, 3) := by decide +kernel
theorem dX8_readToken_68 : decode cX8_readToken 68 = .ok (.aload_n 0, 1) := by decide +kernel
theorem dX8_readToken_69 : decode cX8_readToken 69 = .ok (.getfield 22, 3) := by decide +kernel
theorem dX8_readToken_72 : decode cX8_readToken 72 = .ok (.iconst 1, 1) := by decide +kernel
theorem dX8_readToken_73 : decode cX8_readToken 73 = .ok (.iadd, 1) := by decide +kernel
theorem dX8_readToken_74 : decode cX8_readToken 74 = .ok (.goto 7, 3) := by decide +kernel
theorem dX8_readToken_77 : decode cX8_readToken 77 = .ok (.aload_n 0, 1) := by decide +kernel
theorem dX8_readToken_78 : decode cX8_readToken 78 = .ok (.getfield 22, 3) := by decide +kernel
theorem dX8_readToken_81 : decode cX8_readToken 81 = .ok (.putfield 25, 3) := by decide +kernel
theorem dX8_readToken_84 : decode cX8_readToken 84 = .ok (.aload_n 0, 1) := by decide +kernel
theorem dX8_readToken_85 : decode cX8_readToken 85 = .ok (.getfield 19, 3) := by decide +kernel
theorem dX8_readToken_88 : decode cX8_readToken 88 = .ok (.iconst 1, 1) := by decide +kernel
theorem dX8_readToken_89 : decode cX8_readToken 89 = .ok (.if_icmp .eq 11, 3) := by decide +kernel
theorem dX8_readToken_92 : decode cX8_readToken 92 = .ok (.aload_n 0, 1) := by decide +kernel
theorem dX8_readToken_93 : decode cX8_readToken 93 = .ok (.getfield 19, 3) := by decide +kernel
theorem dX8_readToken_96 : decode cX8_readToken 96 = .ok (.iconst 2, 1) := by decide +kernel
theorem dX8_readToken_97 : decode cX8_readToken 97 = .ok (.if_icmp .ne 7, 3) := by decide +kernel
theorem dX8_readToken_100 : decode cX8_readToken 100 = .ok (.iconst 1, 1) := by decide +kernel
theorem dX8_readToken_101 : decode cX8_readToken 101 = .ok (.goto 4, 3) := by decide +kernel
theorem dX8_readToken_104 : decode cX8_readToken 104 = .ok (.iconst 0, 1) := by decide +kernel
theorem dX8_readToken_105 : decode cX8_readToken 105 = .ok (.istore_n 1, 1) := by decide +kernel
theorem dX8_readToken_106 : decode cX8_readToken 106 = .ok (.iload_n 1, 1) := by decide +kernel
theorem dX8_readToken_107 : decode cX8_readToken 107 = .ok (.ifCond .eq 42, 3) := by decide +kernel
theorem dX8_readToken_110 : decode cX8_readToken 110 = .ok (.aload_n 0, 1) := by decide +kernel
theorem dX8_readToken_111 : decode cX8_readToken 111 = .ok (.getfield 25, 3) := by decide +kernel
theorem dX8_readToken_114 : decode cX8_readToken 114 = .ok (.aload_n 0, 1) := by decide +kernel
theorem dX8_readToken_115 : decode cX8_readToken 115 = .ok (.getfield 15, 3) := by decide +kernel
theorem dX8_readToken_118 : decode cX8_readToken 118 = .ok (.if_icmp .ge 31, 3) := by decide +kernel
theorem dX8_readToken_121 : decode cX8_readToken 121 = .ok (.aload_n 0, 1) := by decide +kernel
theorem dX8_readToken_122 : decode cX8_readToken 122 = .ok (.aload_n 0, 1) := by decide +kernel
theorem dX8_readToken_123 : decode cX8_readToken 123 = .ok (.getfield 25, 3) := by decide +kernel
theorem dX8_readToken_126 : decode cX8_readToken 126 = .ok (.invokevirtual 31, 3) := by decide +kernel
theorem dX8_readToken_129 : decode cX8_readToken 129 = .ok (.aload_n 0, 1) := by decide +kernel
theorem dX8_readToken_130 : decode cX8_readToken 130 = .ok (.getfield 19, 3) := by decide +kernel
theorem dX8_readToken_133 : decode cX8_readToken 133 = .ok (.if_icmp .ne 16, 3) := by decide +kernel
theorem dX8_readToken_136 : decode cX8_readToken 136 = .ok (.aload_n 0, 1) := by decide +kernel
theorem dX8_readToken_137 : decode cX8_readToken 137 = .ok (.dup, 1) := by decide +kernel
theorem dX8_readToken_138 : decode cX8_readToken 138 = .ok (.getfield 25, 3) := by decide +kernel
theorem dX8_readToken_141 : decode cX8_readToken 141 = .ok (.iconst 1, 1) := by decide +kernel
theorem dX8_readToken_142 : decode cX8_readToken 142 = .ok (.iadd, 1) := by decide +kernel
theorem dX8_readToken_143 : decode cX8_readToken 143 = .ok (.putfield 25, 3) := by decide +kernel
theorem dX8_readToken_146 : decode cX8_readToken 146 = .ok (.goto (-40), 3) := by decide +kernel
theorem dX8_readToken_149 : decode cX8_readToken 149 = .ok (.aload_n 0, 1) := by decide +kernel
theorem dX8_readToken_150 : decode cX8_readToken 150 = .ok (.getfield 19, 3) := by decide +kernel
theorem dX8_readToken_153 : decode cX8_readToken 153 = .ok (.iconst 2, 1) := by decide +kernel
theorem dX8_readToken_154 : decode cX8_readToken 154 = .ok (.if_icmp .ne 7, 3) := by decide +kernel
theorem dX8_readToken_157 : decode cX8_readToken 157 = .ok (.aload_n 0, 1) := by decide +kernel
theorem dX8_readToken_158 : decode cX8_readToken 158 = .ok (.invokevirtual 35, 3) := by decide +kernel
theorem dX8_readToken_161 : decode cX8_readToken 161 = .ok (.return_, 1) := by decide +kernel
theorem dX8_takeFigures_0 : decode cX8_takeFigures 0 = .ok (.aload_n 0, 1) := by decide +kernel
theorem dX8_takeFigures_1 : decode cX8_takeFigures 1 = .ok (.iconst 0, 1) := by decide +kernel
theorem dX8_takeFigures_2 : decode cX8_takeFigures 2 = .ok (.putfield 28, 3) := by decide +kernel
theorem dX8_takeFigures_5 : decode cX8_takeFigures 5 = .ok (.aload_n 0, 1) := by decide +kernel
theorem dX8_takeFigures_6 : decode cX8_takeFigures 6 = .ok (.getfield 25, 3) := by decide +kernel
theorem dX8_takeFigures_9 : decode cX8_takeFigures 9 = .ok (.aload_n 0, 1) := by decide +kernel
theorem dX8_takeFigures_10 : decode cX8_takeFigures 10 = .ok (.getfield 22, 3) := by decide +kernel
theorem dX8_takeFigures_13 : decode cX8_takeFigures 13 = .ok (.isub, 1) := by decide +kernel
theorem dX8_takeFigures_14 : decode cX8_takeFigures 14 = .ok (.iconst 3, 1) := by decide +kernel
theorem dX8_takeFigures_15 : decode cX8_takeFigures 15 = .ok (.if_icmp .le 9, 3) := by decide +kernel
theorem dX8_takeFigures_18 : decode cX8_takeFigures 18 = .ok (.aload_n 0, 1) := by decide +kernel
theorem dX8_takeFigures_19 : decode cX8_takeFigures 19 = .ok (.iconst 0, 1) := by decide +kernel
theorem dX8_takeFigures_20 : decode cX8_takeFigures 20 = .ok (.putfield 19, 3) := by decide +kernel
theorem dX8_takeFigures_23 : decode cX8_takeFigures 23 = .ok (.return_, 1) := by decide +kernel
theorem dX8_takeFigures_24 : decode cX8_takeFigures 24 = .ok (.aload_n 0, 1) := by decide +kernel
theorem dX8_takeFigures_25 : decode cX8_takeFigures 25 = .ok (.getfield 22, 3) := by decide +kernel
theorem dX8_takeFigures_28 : decode cX8_takeFigures 28 = .ok (.istore_n 1, 1) := by decide +kernel
theorem dX8_takeFigures_29 : decode cX8_takeFigures 29 = .ok (.iload_n 1, 1) := by decide +kernel
theorem dX8_takeFigures_30 : decode cX8_takeFigures 30 = .ok (.aload_n 0, 1) := by decide +kernel
theorem dX8_takeFigures_31 : decode cX8_takeFigures 31 = .ok (.getfield 25, 3) := by decide +kernel
theorem dX8_takeFigures_34 : decode cX8_takeFigures 34 = .ok (.if_icmp .ge 37, 3) := by decide +kernel
theorem dX8_takeFigures_37 : decode cX8_takeFigures 37 = .ok (.iload_n 1, 1) := by decide +kernel
theorem dX8_takeFigures_38 : decode cX8_takeFigures 38 = .ok (.sipush 320, 3) := by decide +kernel
theorem dX8_takeFigures_41 : decode cX8_takeFigures 41 = .ok (.if_icmp .ge 30, 3) := by decide +kernel
theorem dX8_takeFigures_44 : decode cX8_takeFigures 44 = .ok (.aload_n 0, 1) := by decide +kernel
theorem dX8_takeFigures_45 : decode cX8_takeFigures 45 = .ok (.aload_n 0, 1) := by decide +kernel
theorem dX8_takeFigures_46 : decode cX8_takeFigures 46 = .ok (.getfield 28, 3) := by decide +kernel
theorem dX8_takeFigures_49 : decode cX8_takeFigures 49 = .ok (.bipush 10, 2) := by decide +kernel
theorem dX8_takeFigures_51 : decode cX8_takeFigures 51 = .ok (.imul, 1) := by decide +kernel
theorem dX8_takeFigures_52 : decode cX8_takeFigures 52 = .ok (.aload_n 0, 1) := by decide +kernel
theorem dX8_takeFigures_53 : decode cX8_takeFigures 53 = .ok (.getfield 9, 3) := by decide +kernel
theorem dX8_takeFigures_56 : decode cX8_takeFigures 56 = .ok (.iload_n 1, 1) := by decide +kernel
theorem dX8_takeFigures_57 : decode cX8_takeFigures 57 = .ok (.baload, 1) := by decide +kernel
theorem dX8_takeFigures_58 : decode cX8_takeFigures 58 = .ok (.iadd, 1) := by decide +kernel
theorem dX8_takeFigures_59 : decode cX8_takeFigures 59 = .ok (.bipush 48, 2) := by decide +kernel
theorem dX8_takeFigures_61 : decode cX8_takeFigures 61 = .ok (.isub, 1) := by decide +kernel
theorem dX8_takeFigures_62 : decode cX8_takeFigures 62 = .ok (.putfield 28, 3) := by decide +kernel
theorem dX8_takeFigures_65 : decode cX8_takeFigures 65 = .ok (.iinc 1 1, 3) := by decide +kernel
theorem dX8_takeFigures_68 : decode cX8_takeFigures 68 = .ok (.goto (-39), 3) := by decide +kernel
theorem dX8_takeFigures_71 : decode cX8_takeFigures 71 = .ok (.return_, 1) := by decide +kernel
theorem dX8_letterOf_0 : decode cX8_letterOf 0 = .ok (.aload_n 0, 1) := by decide +kernel
theorem dX8_letterOf_1 : decode cX8_letterOf 1 = .ok (.getfield 22, 3) := by decide +kernel
theorem dX8_letterOf_4 : decode cX8_letterOf 4 = .ok (.iload_n 1, 1) := by decide +kernel
theorem dX8_letterOf_5 : decode cX8_letterOf 5 = .ok (.iadd, 1) := by decide +kernel
theorem dX8_letterOf_6 : decode cX8_letterOf 6 = .ok (.istore_n 2, 1) := by decide +kernel
theorem dX8_letterOf_7 : decode cX8_letterOf 7 = .ok (.iload_n 1, 1) := by decide +kernel
theorem dX8_letterOf_8 : decode cX8_letterOf 8 = .ok (.ifCond .lt 32, 3) := by decide +kernel
theorem dX8_letterOf_11 : decode cX8_letterOf 11 = .ok (.iload_n 2, 1) := by decide +kernel
theorem dX8_letterOf_12 : decode cX8_letterOf 12 = .ok (.aload_n 0, 1) := by decide +kernel
theorem dX8_letterOf_13 : decode cX8_letterOf 13 = .ok (.getfield 25, 3) := by decide +kernel
theorem dX8_letterOf_16 : decode cX8_letterOf 16 = .ok (.if_icmp .ge 24, 3) := by decide +kernel
theorem dX8_letterOf_19 : decode cX8_letterOf 19 = .ok (.iload_n 2, 1) := by decide +kernel
theorem dX8_letterOf_20 : decode cX8_letterOf 20 = .ok (.sipush 320, 3) := by decide +kernel
theorem dX8_letterOf_23 : decode cX8_letterOf 23 = .ok (.if_icmp .ge 17, 3) := by decide +kernel
theorem dX8_letterOf_26 : decode cX8_letterOf 26 = .ok (.aload_n 0, 1) := by decide +kernel
theorem dX8_letterOf_27 : decode cX8_letterOf 27 = .ok (.getfield 9, 3) := by decide +kernel
theorem dX8_letterOf_30 : decode cX8_letterOf 30 = .ok (.iload_n 2, 1) := by decide +kernel
theorem dX8_letterOf_31 : decode cX8_letterOf 31 = .ok (.baload, 1) := by decide +kernel
theorem dX8_letterOf_32 : decode cX8_letterOf 32 = .ok (.sipush 255, 3) := by decide +kernel
theorem dX8_letterOf_35 : decode cX8_letterOf 35 = .ok (.iand, 1) := by decide +kernel
theorem dX8_letterOf_36 : decode cX8_letterOf 36 = .ok (.i2c, 1) := by decide +kernel
theorem dX8_letterOf_37 : decode cX8_letterOf 37 = .ok (.goto 5, 3) := by decide +kernel
theorem dX8_letterOf_40 : decode cX8_letterOf 40 = .ok (.bipush 32, 2) := by decide +kernel
theorem dX8_letterOf_42 : decode cX8_letterOf 42 = .ok (.ireturn, 1) := by decide +kernel
theorem dX8_spells_0 : decode cX8_spells 0 = .ok (.aload_n 0, 1) := by decide +kernel
theorem dX8_spells_1 : decode cX8_spells 1 = .ok (.getfield 25, 3) := by decide +kernel
theorem dX8_spells_4 : decode cX8_spells 4 = .ok (.aload_n 0, 1) := by decide +kernel
theorem dX8_spells_5 : decode cX8_spells 5 = .ok (.getfield 22, 3) := by decide +kernel
theorem dX8_spells_8 : decode cX8_spells 8 = .ok (.isub, 1) := by decide +kernel
theorem dX8_spells_9 : decode cX8_spells 9 = .ok (.aload_n 1, 1) := by decide +kernel
theorem dX8_spells_10 : decode cX8_spells 10 = .ok (.invokevirtual 38, 3) := by decide +kernel
theorem dX8_spells_13 : decode cX8_spells 13 = .ok (.if_icmp .eq 5, 3) := by decide +kernel
theorem dX8_spells_16 : decode cX8_spells 16 = .ok (.iconst 0, 1) := by decide +kernel
theorem dX8_spells_17 : decode cX8_spells 17 = .ok (.ireturn, 1) := by decide +kernel
theorem dX8_spells_18 : decode cX8_spells 18 = .ok (.iconst 0, 1) := by decide +kernel
theorem dX8_spells_19 : decode cX8_spells 19 = .ok (.istore_n 2, 1) := by decide +kernel
theorem dX8_spells_20 : decode cX8_spells 20 = .ok (.iload_n 2, 1) := by decide +kernel
theorem dX8_spells_21 : decode cX8_spells 21 = .ok (.aload_n 1, 1) := by decide +kernel
theorem dX8_spells_22 : decode cX8_spells 22 = .ok (.invokevirtual 38, 3) := by decide +kernel
theorem dX8_spells_25 : decode cX8_spells 25 = .ok (.if_icmp .ge 24, 3) := by decide +kernel
theorem dX8_spells_28 : decode cX8_spells 28 = .ok (.aload_n 1, 1) := by decide +kernel
theorem dX8_spells_29 : decode cX8_spells 29 = .ok (.iload_n 2, 1) := by decide +kernel
theorem dX8_spells_30 : decode cX8_spells 30 = .ok (.invokevirtual 43, 3) := by decide +kernel
theorem dX8_spells_33 : decode cX8_spells 33 = .ok (.aload_n 0, 1) := by decide +kernel
theorem dX8_spells_34 : decode cX8_spells 34 = .ok (.iload_n 2, 1) := by decide +kernel
theorem dX8_spells_35 : decode cX8_spells 35 = .ok (.invokevirtual 47, 3) := by decide +kernel
theorem dX8_spells_38 : decode cX8_spells 38 = .ok (.if_icmp .eq 5, 3) := by decide +kernel
theorem dX8_spells_41 : decode cX8_spells 41 = .ok (.iconst 0, 1) := by decide +kernel
theorem dX8_spells_42 : decode cX8_spells 42 = .ok (.ireturn, 1) := by decide +kernel
theorem dX8_spells_43 : decode cX8_spells 43 = .ok (.iinc 2 1, 3) := by decide +kernel
theorem dX8_spells_46 : decode cX8_spells 46 = .ok (.goto (-26), 3) := by decide +kernel
theorem dX8_spells_49 : decode cX8_spells 49 = .ok (.iconst 1, 1) := by decide +kernel
theorem dX8_spells_50 : decode cX8_spells 50 = .ok (.ireturn, 1) := by decide +kernel
theorem dX9_init_0 : decode cX9_init 0 = .ok (.aload_n 0, 1) := by decide +kernel
theorem dX9_init_1 : decode cX9_init 1 = .ok (.invokespecial 3, 3) := by decide +kernel
theorem dX9_init_4 : decode cX9_init 4 = .ok (.aload_n 0, 1) := by decide +kernel
theorem dX9_init_5 : decode cX9_init 5 = .ok (.new 9, 3) := by decide +kernel
theorem dX9_init_8 : decode cX9_init 8 = .ok (.dup, 1) := by decide +kernel
theorem dX9_init_9 : decode cX9_init 9 = .ok (.invokespecial 11, 3) := by decide +kernel
theorem dX9_init_12 : decode cX9_init 12 = .ok (.putfield 12, 3) := by decide +kernel
theorem dX9_init_15 : decode cX9_init 15 = .ok (.aload_n 0, 1) := by decide +kernel
theorem dX9_init_16 : decode cX9_init 16 = .ok (.iconst 0, 1) := by decide +kernel
theorem dX9_init_17 : decode cX9_init 17 = .ok (.putfield 18, 3) := by decide +kernel
theorem dX9_init_20 : decode cX9_init 20 = .ok (.aload_n 0, 1) := by decide +kernel
theorem dX9_init_21 : decode cX9_init 21 = .ok (.iconst 0, 1) := by decide +kernel
theorem dX9_init_22 : decode cX9_init 22 = .ok (.putfield 22, 3) := by decide +kernel
theorem dX9_init_25 : decode cX9_init 25 = .ok (.aload_n 0, 1) := by decide +kernel
theorem dX9_init_26 : decode cX9_init 26 = .ok (.iconst 0, 1) := by decide +kernel
theorem dX9_init_27 : decode cX9_init 27 = .ok (.putfield 25, 3) := by decide +kernel
theorem dX9_init_30 : decode cX9_init 30 = .ok (.aload_n 0, 1) := by decide +kernel
theorem dX9_init_31 : decode cX9_init 31 = .ok (.iconst 0, 1) := by decide +kernel
theorem dX9_init_32 : decode cX9_init 32 = .ok (.putfield 28, 3) := by decide +kernel
theorem dX9_init_35 : decode cX9_init 35 = .ok (.aload_n 0, 1) := by decide +kernel
theorem dX9_init_36 : decode cX9_init 36 = .ok (.iconst 0, 1) := by decide +kernel
theorem dX9_init_37 : decode cX9_init 37 = .ok (.putfield 31, 3) := by decide +kernel
theorem dX9_init_40 : decode cX9_init 40 = .ok (.aload_n 0, 1) := by decide +kernel
theorem dX9_init_41 : decode cX9_init 41 = .ok (.lconst 0, 1) := by decide +kernel
theorem dX9_init_42 : decode cX9_init 42 = .ok (.putfield 34, 3) := by decide +kernel
theorem dX9_init_45 : decode cX9_init 45 = .ok (.return_, 1) := by decide +kernel
theorem dX9_readText_0 : decode cX9_readText 0 = .ok (.aload_n 0, 1) := by decide +kernel
theorem dX9_readText_1 : decode cX9_readText 1 = .ok (.aload_n 1, 1) := by decide +kernel
theorem dX9_readText_2 : decode cX9_readText 2 = .ok (.invokevirtual 38, 3) := by decide +kernel
theorem dX9_readText_5 : decode cX9_readText 5 = .ok (.iconst 0, 1) := by decide +kernel
theorem dX9_readText_6 : decode cX9_readText 6 = .ok (.istore_n 2, 1) := by decide +kernel
theorem dX9_readText_7 : decode cX9_readText 7 = .ok (.iload_n 2, 1) := by decide +kernel
theorem dX9_readText_8 : decode cX9_readText 8 = .ok (.sipush 320, 3) := by decide +kernel
theorem dX9_readText_11 : decode cX9_readText 11 = .ok (.if_icmp .gt 44, 3) := by decide +kernel
theorem dX9_readText_14 : decode cX9_readText 14 = .ok (.aload_n 1, 1) := by decide +kernel
theorem dX9_readText_15 : decode cX9_readText 15 = .ok (.invokevirtual 42, 3) := by decide +kernel
theorem dX9_readText_18 : decode cX9_readText 18 = .ok (.aload_n 1, 1) := by decide +kernel
theorem dX9_readText_19 : decode cX9_readText 19 = .ok (.getfield 47, 3) := by decide +kernel
theorem dX9_readText_22 : decode cX9_readText 22 = .ok (.iconst 5, 1) := by decide +kernel
theorem dX9_readText_23 : decode cX9_readText 23 = .ok (.if_icmp .ne 6, 3) := by decide +kernel
theorem dX9_readText_26 : decode cX9_readText 26 = .ok (.goto 29, 3) := by decide +kernel
theorem dX9_readText_29 : decode cX9_readText 29 = .ok (.aload_n 0, 1) := by decide +kernel
theorem dX9_readText_30 : decode cX9_readText 30 = .ok (.aload_n 1, 1) := by decide +kernel
theorem dX9_readText_31 : decode cX9_readText 31 = .ok (.invokevirtual 50, 3) := by decide +kernel
theorem dX9_readText_34 : decode cX9_readText 34 = .ok (.ifCond .ne 5, 3) := by decide +kernel
theorem dX9_readText_37 : decode cX9_readText 37 = .ok (.iconst 0, 1) := by decide +kernel
theorem dX9_readText_38 : decode cX9_readText 38 = .ok (.ireturn, 1) := by decide +kernel
theorem dX9_readText_39 : decode cX9_readText 39 = .ok (.aload_n 0, 1) := by decide +kernel
theorem dX9_readText_40 : decode cX9_readText 40 = .ok (.dup, 1) := by decide +kernel
theorem dX9_readText_41 : decode cX9_readText 41 = .ok (.getfield 25, 3) := by decide +kernel
theorem dX9_readText_44 : decode cX9_readText 44 = .ok (.iconst 1, 1) := by decide +kernel
theorem dX9_readText_45 : decode cX9_readText 45 = .ok (.iadd, 1) := by decide +kernel
theorem dX9_readText_46 : decode cX9_readText 46 = .ok (.putfield 25, 3) := by decide +kernel
theorem dX9_readText_49 : decode cX9_readText 49 = .ok (.iinc 2 1, 3) := by decide +kernel
theorem dX9_readText_52 : decode cX9_readText 52 = .ok (.goto (-45), 3) := by decide +kernel
theorem dX9_readText_55 : decode cX9_readText 55 = .ok (.aload_n 0, 1) := by decide +kernel
theorem dX9_readText_56 : decode cX9_readText 56 = .ok (.getfield 12, 3) := by decide +kernel
theorem dX9_readText_59 : decode cX9_readText 59 = .ok (.invokevirtual 54, 3) := by decide +kernel
theorem dX9_readText_62 : decode cX9_readText 62 = .ok (.aload_n 0, 1) := by decide +kernel
theorem dX9_readText_63 : decode cX9_readText 63 = .ok (.getfield 12, 3) := by decide +kernel
theorem dX9_readText_66 : decode cX9_readText 66 = .ok (.aload_n 0, 1) := by decide +kernel
theorem dX9_readText_67 : decode cX9_readText 67 = .ok (.getfield 12, 3) := by decide +kernel
theorem dX9_readText_70 : decode cX9_readText 70 = .ok (.iconst 0, 1) := by decide +kernel
theorem dX9_readText_71 : decode cX9_readText 71 = .ok (.invokevirtual 57, 3) := by decide +kernel
theorem dX9_readText_74 : decode cX9_readText 74 = .ok (.invokevirtual 60, 3) := by decide +kernel
theorem dX9_readText_77 : decode cX9_readText 77 = .ok (.ifCond .ne 16, 3) := by decide +kernel
theorem dX9_readText_80 : decode cX9_readText 80 = .ok (.aload_n 0, 1) := by decide +kernel
theorem dX9_readText_81 : decode cX9_readText 81 = .ok (.bipush 6, 2) := by decide +kernel
theorem dX9_readText_83 : decode cX9_readText 83 = .ok (.aload_n 1, 1) := by decide +kernel
theorem dX9_readText_84 : decode cX9_readText 84 = .ok (.getfield 64, 3) := by decide +kernel
theorem dX9_readText_87 : decode cX9_readText 87 = .ok (.invokevirtual 67, 3) := by decide +kernel
theorem dX9_readText_90 : decode cX9_readText 90 = .ok (.ifCond .eq 7, 3) := by decide +kernel
theorem dX9_readText_93 : decode cX9_readText 93 = .ok (.iconst 1, 1) := by decide +kernel
theorem dX9_readText_94 : decode cX9_readText 94 = .ok (.goto 4, 3) := by decide +kernel
theorem dX9_readText_97 : decode cX9_readText 97 = .ok (.iconst 0, 1) := by decide +kernel
theorem dX9_readText_98 : decode cX9_readText 98 = .ok (.ireturn, 1) := by decide +kernel
theorem dX9_startAnew_0 : decode cX9_startAnew 0 = .ok (.aload_n 0, 1) := by decide +kernel
theorem dX9_startAnew_1 : decode cX9_startAnew 1 = .ok (.getfield 12, 3) := by decide +kernel
theorem dX9_startAnew_4 : decode cX9_startAnew 4 = .ok (.invokevirtual 71, 3) := by decide +kernel
theorem dX9_startAnew_7 : decode cX9_startAnew 7 = .ok (.aload_n 1, 1) := by decide +kernel
theorem dX9_startAnew_8 : decode cX9_startAnew 8 = .ok (.invokevirtual 73, 3) := by decide +kernel
theorem dX9_startAnew_11 : decode cX9_startAnew 11 = .ok (.aload_n 0, 1) := by decide +kernel
theorem dX9_startAnew_12 : decode cX9_startAnew 12 = .ok (.iconst 0, 1) := by decide +kernel
theorem dX9_startAnew_13 : decode cX9_startAnew 13 = .ok (.putfield 18, 3) := by decide +kernel
theorem dX9_startAnew_16 : decode cX9_startAnew 16 = .ok (.aload_n 0, 1) := by decide +kernel
theorem dX9_startAnew_17 : decode cX9_startAnew 17 = .ok (.iconst 0, 1) := by decide +kernel
theorem dX9_startAnew_18 : decode cX9_startAnew 18 = .ok (.putfield 22, 3) := by decide +kernel
theorem dX9_startAnew_21 : decode cX9_startAnew 21 = .ok (.aload_n 0, 1) := by decide +kernel
theorem dX9_startAnew_22 : decode cX9_startAnew 22 = .ok (.iconst 0, 1) := by decide +kernel
theorem dX9_startAnew_23 : decode cX9_startAnew 23 = .ok (.putfield 25, 3) := by decide +kernel
theorem dX9_startAnew_26 : decode cX9_startAnew 26 = .ok (.aload_n 0, 1) := by decide +kernel
theorem dX9_startAnew_27 : decode cX9_startAnew 27 = .ok (.iconst 0, 1) := by decide +kernel
theorem dX9_startAnew_28 : decode cX9_startAnew 28 = .ok (.putfield 28, 3) := by decide +kernel
theorem dX9_startAnew_31 : decode cX9_startAnew 31 = .ok (.aload_n 0, 1) := by decide +kernel
theorem dX9_startAnew_32 : decode cX9_startAnew 32 = .ok (.iconst 0, 1) := by decide +kernel
theorem dX9_startAnew_33 : decode cX9_startAnew 33 = .ok (.putfield 31, 3) := by decide +kernel
theorem dX9_startAnew_36 : decode cX9_startAnew 36 = .ok (.aload_n 0, 1) := by decide +kernel
theorem dX9_startAnew_37 : decode cX9_startAnew 37 = .ok (.lconst 0, 1) := by decide +kernel
theorem dX9_startAnew_38 : decode cX9_startAnew 38 = .ok (.putfield 34, 3) := by decide +kernel
theorem dX9_startAnew_41 : decode cX9_startAnew 41 = .ok (.return_, 1) := by decide +kernel
theorem dX9_refuse_0 : decode cX9_refuse 0 = .ok (.aload_n 0, 1) := by decide +kernel
theorem dX9_refuse_1 : decode cX9_refuse 1 = .ok (.iload_n 1, 1) := by decide +kernel
theorem dX9_refuse_2 : decode cX9_refuse 2 = .ok (.putfield 18, 3) := by decide +kernel
theorem dX9_refuse_5 : decode cX9_refuse 5 = .ok (.aload_n 0, 1) := by decide +kernel
theorem dX9_refuse_6 : decode cX9_refuse 6 = .ok (.iload_n 2, 1) := by decide +kernel
theorem dX9_refuse_7 : decode cX9_refuse 7 = .ok (.putfield 22, 3) := by decide +kernel
theorem dX9_refuse_10 : decode cX9_refuse 10 = .ok (.iconst 0, 1) := by decide +kernel
theorem dX9_refuse_11 : decode cX9_refuse 11 = .ok (.ireturn, 1) := by decide +kernel
theorem dX9_isDue_0 : decode cX9_isDue 0 = .ok (.aload_n 1, 1) := by decide +kernel
theorem dX9_isDue_1 : decode cX9_isDue 1 = .ok (.getfield 47, 3) := by decide +kernel
theorem dX9_isDue_4 : decode cX9_isDue 4 = .ok (.ifCond .ne 13, 3) := by decide +kernel
theorem dX9_isDue_7 : decode cX9_isDue 7 = .ok (.aload_n 0, 1) := by decide +kernel
theorem dX9_isDue_8 : decode cX9_isDue 8 = .ok (.iconst 1, 1) := by decide +kernel
theorem dX9_isDue_9 : decode cX9_isDue 9 = .ok (.aload_n 1, 1) := by decide +kernel
theorem dX9_isDue_10 : decode cX9_isDue 10 = .ok (.getfield 76, 3) := by decide +kernel
theorem dX9_isDue_13 : decode cX9_isDue 13 = .ok (.invokevirtual 67, 3) := by decide +kernel
theorem dX9_isDue_16 : decode cX9_isDue 16 = .ok (.ireturn, 1) := by decide +kernel
theorem dX9_isDue_17 : decode cX9_isDue 17 = .ok (.aload_n 1, 1) := by decide +kernel
theorem dX9_isDue_18 : decode cX9_isDue 18 = .ok (.getfield 47, 3) := by decide +kernel
theorem dX9_isDue_21 : decode cX9_isDue 21 = .ok (.iload_n 2, 1) := by decide +kernel
theorem dX9_isDue_22 : decode cX9_isDue 22 = .ok (.if_icmp .eq 15, 3) := by decide +kernel
theorem dX9_isDue_25 : decode cX9_isDue 25 = .ok (.aload_n 0, 1) := by decide +kernel
theorem dX9_isDue_26 : decode cX9_isDue 26 = .ok (.iconst 2, 1) := by decide +kernel
theorem dX9_isDue_27 : decode cX9_isDue 27 = .ok (.aload_n 1, 1) := by decide +kernel
theorem dX9_isDue_28 : decode cX9_isDue 28 = .ok (.getfield 76, 3) := by decide +kernel
theorem dX9_isDue_31 : decode cX9_isDue 31 = .ok (.invokevirtual 67, 3) := by decide +kernel
theorem dX9_isDue_34 : decode cX9_isDue 34 = .ok (.ifCond .eq 7, 3) := by decide +kernel
theorem dX9_isDue_37 : decode cX9_isDue 37 = .ok (.iconst 1, 1) := by decide +kernel
theorem dX9_isDue_38 : decode cX9_isDue 38 = .ok (.goto 4, 3) := by decide +kernel
theorem dX9_isDue_41 : decode cX9_isDue 41 = .ok (.iconst 0, 1) := by decide +kernel
theorem dX9_isDue_42 : decode cX9_isDue 42 = .ok (.ireturn, 1) := by decide +kernel
theorem dX9_takeLine_0 : decode cX9_takeLine 0 = .ok (.aload_n 0, 1) := by decide +kernel
theorem dX9_takeLine_1 : decode cX9_takeLine 1 = .ok (.aload_n 1, 1) := by decide +kernel
theorem dX9_takeLine_2 : decode cX9_takeLine 2 = .ok (.iconst 1, 1) := by decide +kernel
theorem dX9_takeLine_3 : decode cX9_takeLine 3 = .ok (.invokevirtual 79, 3) := by decide +kernel
theorem dX9_takeLine_6 : decode cX9_takeLine 6 = .ok (.ifCond .ne 5, 3) := by decide +kernel
theorem dX9_takeLine_9 : decode cX9_takeLine 9 = .ok (.iconst 0, 1) := by decide +kernel
theorem dX9_takeLine_10 : decode cX9_takeLine 10 = .ok (.ireturn, 1) := by decide +kernel
theorem dX9_takeLine_11 : decode cX9_takeLine 11 = .ok (.aload_n 0, 1) := by decide +kernel
theorem dX9_takeLine_12 : decode cX9_takeLine 12 = .ok (.aload_n 1, 1) := by decide +kernel
theorem dX9_takeLine_13 : decode cX9_takeLine 13 = .ok (.invokevirtual 83, 3) := by decide +kernel
theorem dX9_takeLine_16 : decode cX9_takeLine 16 = .ok (.istore_n 2, 1) := by decide +kernel
theorem dX9_takeLine_17 : decode cX9_takeLine 17 = .ok (.iload_n 2, 1) := by decide +kernel
theorem dX9_takeLine_18 : decode cX9_takeLine 18 = .ok (.iconst (-1), 1) := by decide +kernel
theorem dX9_takeLine_19 : decode cX9_takeLine 19 = .ok (.if_icmp .ne 13, 3) := by decide +kernel
theorem dX9_takeLine_22 : decode cX9_takeLine 22 = .ok (.aload_n 0, 1) := by decide +kernel
theorem dX9_takeLine_23 : decode cX9_takeLine 23 = .ok (.iconst 2, 1) := by decide +kernel
theorem dX9_takeLine_24 : decode cX9_takeLine 24 = .ok (.aload_n 1, 1) := by decide +kernel
theorem dX9_takeLine_25 : decode cX9_takeLine 25 = .ok (.getfield 76, 3) := by decide +kernel
theorem dX9_takeLine_28 : decode cX9_takeLine 28 = .ok (.invokevirtual 67, 3) := by decide +kernel
theorem dX9_takeLine_31 : decode cX9_takeLine 31 = .ok (.ireturn, 1) := by decide +kernel
theorem dX9_takeLine_32 : decode cX9_takeLine 32 = .ok (.iload_n 2, 1) := by decide +kernel
theorem dX9_takeLine_33 : decode cX9_takeLine 33 = .ok (.ifCond .ne 22, 3) := by decide +kernel
theorem dX9_takeLine_36 : decode cX9_takeLine 36 = .ok (.aload_n 0, 1) := by decide +kernel
theorem dX9_takeLine_37 : decode cX9_takeLine 37 = .ok (.getfield 28, 3) := by decide +kernel
theorem dX9_takeLine_40 : decode cX9_takeLine 40 = .ok (.bipush 6, 2) := by decide +kernel
theorem dX9_takeLine_42 : decode cX9_takeLine 42 = .ok (.if_icmp .ne 13, 3) := by decide +kernel
theorem dX9_takeLine_45 : decode cX9_takeLine 45 = .ok (.aload_n 0, 1) := by decide +kernel
theorem dX9_takeLine_46 : decode cX9_takeLine 46 = .ok (.iconst 5, 1) := by decide +kernel
theorem dX9_takeLine_47 : decode cX9_takeLine 47 = .ok (.aload_n 1, 1) := by decide +kernel
theorem dX9_takeLine_48 : decode cX9_takeLine 48 = .ok (.getfield 76, 3) := by decide +kernel
theorem dX9_takeLine_51 : decode cX9_takeLine 51 = .ok (.invokevirtual 67, 3) := by decide +kernel
theorem dX9_takeLine_54 : decode cX9_takeLine 54 = .ok (.ireturn, 1) := by decide +kernel
theorem dX9_takeLine_55 : decode cX9_takeLine 55 = .ok (.iload_n 2, 1) := by decide +kernel
theorem dX9_takeLine_56 : decode cX9_takeLine 56 = .ok (.ifCond .eq 31, 3) := by decide +kernel
theorem dX9_takeLine_59 : decode cX9_takeLine 59 = .ok (.iload_n 2, 1) := by decide +kernel
theorem dX9_takeLine_60 : decode cX9_takeLine 60 = .ok (.bipush 9, 2) := by decide +kernel
theorem dX9_takeLine_62 : decode cX9_takeLine 62 = .ok (.if_icmp .eq 25, 3) := by decide +kernel
theorem dX9_takeLine_65 : decode cX9_takeLine 65 = .ok (.aload_n 0, 1) := by decide +kernel
theorem dX9_takeLine_66 : decode cX9_takeLine 66 = .ok (.getfield 31, 3) := by decide +kernel
theorem dX9_takeLine_69 : decode cX9_takeLine 69 = .ok (.iload_n 2, 1) := by decide +kernel
theorem dX9_takeLine_70 : decode cX9_takeLine 70 = .ok (.ishr, 1) := by decide +kernel
theorem dX9_takeLine_71 : decode cX9_takeLine 71 = .ok (.iconst 1, 1) := by decide +kernel
theorem dX9_takeLine_72 : decode cX9_takeLine 72 = .ok (.iand, 1) := by decide +kernel
theorem dX9_takeLine_73 : decode cX9_takeLine 73 = .ok (.iconst 1, 1) := by decide +kernel
theorem dX9_takeLine_74 : decode cX9_takeLine 74 = .ok (.if_icmp .ne 13, 3) := by decide +kernel
theorem dX9_takeLine_77 : decode cX9_takeLine 77 = .ok (.aload_n 0, 1) := by decide +kernel
theorem dX9_takeLine_78 : decode cX9_takeLine 78 = .ok (.iconst 4, 1) := by decide +kernel
theorem dX9_takeLine_79 : decode cX9_takeLine 79 = .ok (.aload_n 1, 1) := by decide +kernel
theorem dX9_takeLine_80 : decode cX9_takeLine 80 = .ok (.getfield 76, 3) := by decide +kernel
theorem dX9_takeLine_83 : decode cX9_takeLine 83 = .ok (.invokevirtual 67, 3) := by decide +kernel
theorem dX9_takeLine_86 : decode cX9_takeLine 86 = .ok (.ireturn, 1) := by decide +kernel
theorem dX9_takeLine_87 : decode cX9_takeLine 87 = .ok (.aload_n 0, 1) := by decide +kernel
theorem dX9_takeLine_88 : decode cX9_takeLine 88 = .ok (.dup, 1) := by decide +kernel
theorem dX9_takeLine_89 : decode cX9_takeLine 89 = .ok (.getfield 31, 3) := by decide +kernel
theorem dX9_takeLine_92 : decode cX9_takeLine 92 = .ok (.iconst 1, 1) := by decide +kernel
theorem dX9_takeLine_93 : decode cX9_takeLine 93 = .ok (.iload_n 2, 1) := by decide +kernel
theorem dX9_takeLine_94 : decode cX9_takeLine 94 = .ok (.ishl, 1) := by decide +kernel
theorem dX9_takeLine_95 : decode cX9_takeLine 95 = .ok (.ior, 1) := by decide +kernel
theorem dX9_takeLine_96 : decode cX9_takeLine 96 = .ok (.putfield 31, 3) := by decide +kernel
theorem dX9_takeLine_99 : decode cX9_takeLine 99 = .ok (.iload_n 2, 1) := by decide +kernel
theorem dX9_takeLine_100 : decode cX9_takeLine 100 = .ok (.ifCond .ne 11, 3) := by decide +kernel
theorem dX9_takeLine_103 : decode cX9_takeLine 103 = .ok (.aload_n 0, 1) := by decide +kernel
theorem dX9_takeLine_104 : decode cX9_takeLine 104 = .ok (.aload_n 1, 1) := by decide +kernel
theorem dX9_takeLine_105 : decode cX9_takeLine 105 = .ok (.invokevirtual 87, 3) := by decide +kernel
theorem dX9_takeLine_108 : decode cX9_takeLine 108 = .ok (.goto 25, 3) := by decide +kernel
theorem dX9_takeLine_111 : decode cX9_takeLine 111 = .ok (.iload_n 2, 1) := by decide +kernel
theorem dX9_takeLine_112 : decode cX9_takeLine 112 = .ok (.bipush 9, 2) := by decide +kernel
theorem dX9_takeLine_114 : decode cX9_takeLine 114 = .ok (.if_icmp .ne 11, 3) := by decide +kernel
theorem dX9_takeLine_117 : decode cX9_takeLine 117 = .ok (.aload_n 0, 1) := by decide +kernel
theorem dX9_takeLine_118 : decode cX9_takeLine 118 = .ok (.aload_n 1, 1) := by decide +kernel
theorem dX9_takeLine_119 : decode cX9_takeLine 119 = .ok (.invokevirtual 90, 3) := by decide +kernel
theorem dX9_takeLine_122 : decode cX9_takeLine 122 = .ok (.goto 11, 3) := by decide +kernel
theorem dX9_takeLine_125 : decode cX9_takeLine 125 = .ok (.aload_n 0, 1) := by decide +kernel
theorem dX9_takeLine_126 : decode cX9_takeLine 126 = .ok (.aload_n 1, 1) := by decide +kernel
theorem dX9_takeLine_127 : decode cX9_takeLine 127 = .ok (.iload_n 2, 1) := by decide +kernel
theorem dX9_takeLine_128 : decode cX9_takeLine 128 = .ok (.iconst 1, 1) := by decide +kernel
theorem dX9_takeLine_129 : decode cX9_takeLine 129 = .ok (.isub, 1) := by decide +kernel
theorem dX9_takeLine_130 : decode cX9_takeLine 130 = .ok (.invokevirtual 93, 3) := by decide +kernel
theorem dX9_takeLine_133 : decode cX9_takeLine 133 = .ok (.istore_n 3, 1) := by decide +kernel
theorem dX9_takeLine_134 : decode cX9_takeLine 134 = .ok (.iload_n 3, 1) := by decide +kernel
theorem dX9_takeLine_135 : decode cX9_takeLine 135 = .ok (.ifCond .ne 5, 3) := by decide +kernel
theorem dX9_takeLine_138 : decode cX9_takeLine 138 = .ok (.iconst 0, 1) := by decide +kernel
theorem dX9_takeLine_139 : decode cX9_takeLine 139 = .ok (.ireturn, 1) := by decide +kernel
theorem dX9_takeLine_140 : decode cX9_takeLine 140 = .ok (.aload_n 1, 1) := by decide +kernel
theorem dX9_takeLine_141 : decode cX9_takeLine 141 = .ok (.invokevirtual 42, 3) := by decide +kernel
theorem dX9_takeLine_144 : decode cX9_takeLine 144 = .ok (.aload_n 0, 1) := by decide +kernel
theorem dX9_takeLine_145 : decode cX9_takeLine 145 = .ok (.aload_n 1, 1) := by decide +kernel
theorem dX9_takeLine_146 : decode cX9_takeLine 146 = .ok (.iconst 3, 1) := by decide +kernel
theorem dX9_takeLine_147 : decode cX9_takeLine 147 = .ok (.invokevirtual 79, 3) := by decide +kernel
theorem dX9_takeLine_150 : decode cX9_takeLine 150 = .ok (.ireturn, 1) := by decide +kernel
theorem dX9_kindOfLine_0 : decode cX9_kindOfLine 0 = .ok (.iconst 0, 1) := by decide +kernel
theorem dX9_kindOfLine_1 : decode cX9_kindOfLine 1 = .ok (.istore_n 2, 1) := by decide +kernel
theorem dX9_kindOfLine_2 : decode cX9_kindOfLine 2 = .ok (.iload_n 2, 1) := by decide +kernel
theorem dX9_kindOfLine_3 : decode cX9_kindOfLine 3 = .ok (.bipush 10, 2) := by decide +kernel
theorem dX9_kindOfLine_5 : decode cX9_kindOfLine 5 = .ok (.if_icmp .ge 22, 3) := by decide +kernel
theorem dX9_kindOfLine_8 : decode cX9_kindOfLine 8 = .ok (.aload_n 1, 1) := by decide +kernel
theorem dX9_kindOfLine_9 : decode cX9_kindOfLine 9 = .ok (.iload_n 2, 1) := by decide +kernel
theorem dX9_kindOfLine_10 : decode cX9_kindOfLine 10 = .ok (.invokestatic 96, 3) := by decide +kernel
theorem dX9_kindOfLine_13 : decode cX9_kindOfLine 13 = .ok (.invokevirtual 100, 3) := by decide +kernel
theorem dX9_kindOfLine_16 : decode cX9_kindOfLine 16 = .ok (.ifCond .eq 5, 3) := by decide +kernel
theorem dX9_kindOfLine_19 : decode cX9_kindOfLine 19 = .ok (.iload_n 2, 1) := by decide +kernel
theorem dX9_kindOfLine_20 : decode cX9_kindOfLine 20 = .ok (.ireturn, 1) := by decide +kernel
theorem dX9_kindOfLine_21 : decode cX9_kindOfLine 21 = .ok (.iinc 2 1, 3) := by decide +kernel
theorem dX9_kindOfLine_24 : decode cX9_kindOfLine 24 = .ok (.goto (-22), 3) := by decide +kernel
theorem dX9_kindOfLine_27 : decode cX9_kindOfLine 27 = .ok (.iconst (-1), 1) := by decide +kernel
theorem dX9_kindOfLine_28 : decode cX9_kindOfLine 28 = .ok (.ireturn, 1) := by decide +kernel
theorem dX9_nameOf_0 : decode cX9_nameOf 0 = .ok (.iload_n 0, 1) := by decide +kernel
theorem dX9_nameOf_1 : decode cX9_nameOf 1 = .ok (.tableswitch 78 0 8 #[51, 54, 57, 60, 63, 66, 69, 72, 75], 51) := by decide +kernel
theorem dX9_nameOf_52 : decode cX9_nameOf 52 = .ok (.ldc 104, 2) := by decide +kernel
theorem dX9_nameOf_54 : decode cX9_nameOf 54 = .ok (.areturn, 1) := by decide +kernel
theorem dX9_nameOf_55 : decode cX9_nameOf 55 = .ok (.ldc 106, 2) := by decide +kernel
theorem dX9_nameOf_57 : decode cX9_nameOf 57 = .ok (.areturn, 1) := by decide +kernel
theorem dX9_nameOf_58 : decode cX9_nameOf 58 = .ok (.ldc 108, 2) := by decide +kernel
theorem dX9_nameOf_60 : decode cX9_nameOf 60 = .ok (.areturn, 1) := by decide +kernel
theorem dX9_nameOf_61 : decode cX9_nameOf 61 = .ok (.ldc 110, 2) := by decide +kernel
theorem dX9_nameOf_63 : decode cX9_nameOf 63 = .ok (.areturn, 1) := by decide +kernel
theorem dX9_nameOf_64 : decode cX9_nameOf 64 = .ok (.ldc 112, 2) := by decide +kernel
theorem dX9_nameOf_66 : decode cX9_nameOf 66 = .ok (.areturn, 1) := by decide +kernel
theorem dX9_nameOf_67 : decode cX9_nameOf 67 = .ok (.ldc 114, 2) := by decide +kernel
theorem dX9_nameOf_69 : decode cX9_nameOf 69 = .ok (.areturn, 1) := by decide +kernel
theorem dX9_nameOf_70 : decode cX9_nameOf 70 = .ok (.ldc 116, 2) := by decide +kernel
theorem dX9_nameOf_72 : decode cX9_nameOf 72 = .ok (.areturn, 1) := by decide +kernel
theorem dX9_nameOf_73 : decode cX9_nameOf 73 = .ok (.ldc 118, 2) := by decide +kernel
theorem dX9_nameOf_75 : decode cX9_nameOf 75 = .ok (.areturn, 1) := by decide +kernel
theorem dX9_nameOf_76 : decode cX9_nameOf 76 = .ok (.ldc 120, 2) := by decide +kernel
theorem dX9_nameOf_78 : decode cX9_nameOf 78 = .ok (.areturn, 1) := by decide +kernel
theorem dX9_nameOf_79 : decode cX9_nameOf 79 = .ok (.ldc 122, 2) := by decide +kernel
theorem dX9_nameOf_81 : decode cX9_nameOf 81 = .ok (.areturn, 1) := by decide +kernel
theorem dX9_takeRow_0 : decode cX9_takeRow 0 = .ok (.aload_n 1, 1) := by decide +kernel
theorem dX9_takeRow_1 : decode cX9_takeRow 1 = .ok (.invokevirtual 42, 3) := by decide +kernel
theorem dX9_takeRow_4 : decode cX9_takeRow 4 = .ok (.aload_n 0, 1) := by decide +kernel
theorem dX9_takeRow_5 : decode cX9_takeRow 5 = .ok (.aload_n 1, 1) := by decide +kernel
theorem dX9_takeRow_6 : decode cX9_takeRow 6 = .ok (.iconst 1, 1) := by decide +kernel
