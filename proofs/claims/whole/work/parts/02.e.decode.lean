theorem dX12_adopt_156 : decode cX12_adopt 156 = .ok (.aload_n 0, 1) := by decide +kernel
theorem dX12_adopt_157 : decode cX12_adopt 157 = .ok (.getfield 64, 3) := by decide +kernel
theorem dX12_adopt_160 : decode cX12_adopt 160 = .ok (.iload 4, 2) := by decide +kernel
theorem dX12_adopt_162 : decode cX12_adopt 162 = .ok (.iaload, 1) := by decide +kernel
theorem dX12_adopt_163 : decode cX12_adopt 163 = .ok (.aload_n 0, 1) := by decide +kernel
theorem dX12_adopt_164 : decode cX12_adopt 164 = .ok (.getfield 64, 3) := by decide +kernel
theorem dX12_adopt_167 : decode cX12_adopt 167 = .ok (.iload 4, 2) := by decide +kernel
theorem dX12_adopt_169 : decode cX12_adopt 169 = .ok (.iconst 1, 1) := by decide +kernel
theorem dX12_adopt_170 : decode cX12_adopt 170 = .ok (.isub, 1) := by decide +kernel
theorem dX12_adopt_171 : decode cX12_adopt 171 = .ok (.iaload, 1) := by decide +kernel
theorem dX12_adopt_172 : decode cX12_adopt 172 = .ok (.if_icmp .ne 28, 3) := by decide +kernel
theorem dX12_adopt_175 : decode cX12_adopt 175 = .ok (.aload_n 0, 1) := by decide +kernel
theorem dX12_adopt_176 : decode cX12_adopt 176 = .ok (.getfield 40, 3) := by decide +kernel
theorem dX12_adopt_179 : decode cX12_adopt 179 = .ok (.iload 5, 2) := by decide +kernel
theorem dX12_adopt_181 : decode cX12_adopt 181 = .ok (.iaload, 1) := by decide +kernel
theorem dX12_adopt_182 : decode cX12_adopt 182 = .ok (.iconst 5, 1) := by decide +kernel
theorem dX12_adopt_183 : decode cX12_adopt 183 = .ok (.if_icmp .ge 17, 3) := by decide +kernel
theorem dX12_adopt_186 : decode cX12_adopt 186 = .ok (.aload_n 0, 1) := by decide +kernel
theorem dX12_adopt_187 : decode cX12_adopt 187 = .ok (.getfield 40, 3) := by decide +kernel
theorem dX12_adopt_190 : decode cX12_adopt 190 = .ok (.iload 5, 2) := by decide +kernel
theorem dX12_adopt_192 : decode cX12_adopt 192 = .ok (.dup2, 1) := by decide +kernel
theorem dX12_adopt_193 : decode cX12_adopt 193 = .ok (.iaload, 1) := by decide +kernel
theorem dX12_adopt_194 : decode cX12_adopt 194 = .ok (.iconst 1, 1) := by decide +kernel
theorem dX12_adopt_195 : decode cX12_adopt 195 = .ok (.iadd, 1) := by decide +kernel
theorem dX12_adopt_196 : decode cX12_adopt 196 = .ok (.iastore, 1) := by decide +kernel
theorem dX12_adopt_197 : decode cX12_adopt 197 = .ok (.goto 15, 3) := by decide +kernel
theorem dX12_adopt_200 : decode cX12_adopt 200 = .ok (.aload_n 0, 1) := by decide +kernel
theorem dX12_adopt_201 : decode cX12_adopt 201 = .ok (.aload_n 0, 1) := by decide +kernel
theorem dX12_adopt_202 : decode cX12_adopt 202 = .ok (.getfield 64, 3) := by decide +kernel
theorem dX12_adopt_205 : decode cX12_adopt 205 = .ok (.iload 4, 2) := by decide +kernel
theorem dX12_adopt_207 : decode cX12_adopt 207 = .ok (.iaload, 1) := by decide +kernel
theorem dX12_adopt_208 : decode cX12_adopt 208 = .ok (.iconst 1, 1) := by decide +kernel
theorem dX12_adopt_209 : decode cX12_adopt 209 = .ok (.invokevirtual 192, 3) := by decide +kernel
theorem dX12_adopt_212 : decode cX12_adopt 212 = .ok (.iinc 4 1, 3) := by decide +kernel
theorem dX12_adopt_215 : decode cX12_adopt 215 = .ok (.goto (-91), 3) := by decide +kernel
theorem dX12_adopt_218 : decode cX12_adopt 218 = .ok (.iload_n 2, 1) := by decide +kernel
theorem dX12_adopt_219 : decode cX12_adopt 219 = .ok (.ireturn, 1) := by decide +kernel
theorem dX12_laySteps_0 : decode cX12_laySteps 0 = .ok (.iconst 0, 1) := by decide +kernel
theorem dX12_laySteps_1 : decode cX12_laySteps 1 = .ok (.istore_n 2, 1) := by decide +kernel
theorem dX12_laySteps_2 : decode cX12_laySteps 2 = .ok (.iload_n 2, 1) := by decide +kernel
theorem dX12_laySteps_3 : decode cX12_laySteps 3 = .ok (.bipush 36, 2) := by decide +kernel
theorem dX12_laySteps_5 : decode cX12_laySteps 5 = .ok (.if_icmp .ge 36, 3) := by decide +kernel
theorem dX12_laySteps_8 : decode cX12_laySteps 8 = .ok (.aload_n 0, 1) := by decide +kernel
theorem dX12_laySteps_9 : decode cX12_laySteps 9 = .ok (.getfield 67, 3) := by decide +kernel
theorem dX12_laySteps_12 : decode cX12_laySteps 12 = .ok (.iload_n 2, 1) := by decide +kernel
theorem dX12_laySteps_13 : decode cX12_laySteps 13 = .ok (.iload_n 2, 1) := by decide +kernel
theorem dX12_laySteps_14 : decode cX12_laySteps 14 = .ok (.iload_n 1, 1) := by decide +kernel
theorem dX12_laySteps_15 : decode cX12_laySteps 15 = .ok (.if_icmp .ne 17, 3) := by decide +kernel
theorem dX12_laySteps_18 : decode cX12_laySteps 18 = .ok (.aload_n 0, 1) := by decide +kernel
theorem dX12_laySteps_19 : decode cX12_laySteps 19 = .ok (.getfield 40, 3) := by decide +kernel
theorem dX12_laySteps_22 : decode cX12_laySteps 22 = .ok (.iload_n 1, 1) := by decide +kernel
theorem dX12_laySteps_23 : decode cX12_laySteps 23 = .ok (.iaload, 1) := by decide +kernel
theorem dX12_laySteps_24 : decode cX12_laySteps 24 = .ok (.iconst 2, 1) := by decide +kernel
theorem dX12_laySteps_25 : decode cX12_laySteps 25 = .ok (.if_icmp .eq 7, 3) := by decide +kernel
theorem dX12_laySteps_28 : decode cX12_laySteps 28 = .ok (.iconst 0, 1) := by decide +kernel
theorem dX12_laySteps_29 : decode cX12_laySteps 29 = .ok (.goto 5, 3) := by decide +kernel
theorem dX12_laySteps_32 : decode cX12_laySteps 32 = .ok (.ldc 252, 2) := by decide +kernel
theorem dX12_laySteps_34 : decode cX12_laySteps 34 = .ok (.iastore, 1) := by decide +kernel
theorem dX12_laySteps_35 : decode cX12_laySteps 35 = .ok (.iinc 2 1, 3) := by decide +kernel
theorem dX12_laySteps_38 : decode cX12_laySteps 38 = .ok (.goto (-36), 3) := by decide +kernel
theorem dX12_laySteps_41 : decode cX12_laySteps 41 = .ok (.iconst 1, 1) := by decide +kernel
theorem dX12_laySteps_42 : decode cX12_laySteps 42 = .ok (.istore_n 2, 1) := by decide +kernel
theorem dX12_laySteps_43 : decode cX12_laySteps 43 = .ok (.iload_n 2, 1) := by decide +kernel
theorem dX12_laySteps_44 : decode cX12_laySteps 44 = .ok (.ifCond .eq 81, 3) := by decide +kernel
theorem dX12_laySteps_47 : decode cX12_laySteps 47 = .ok (.iconst 0, 1) := by decide +kernel
theorem dX12_laySteps_48 : decode cX12_laySteps 48 = .ok (.istore_n 2, 1) := by decide +kernel
theorem dX12_laySteps_49 : decode cX12_laySteps 49 = .ok (.iconst 0, 1) := by decide +kernel
theorem dX12_laySteps_50 : decode cX12_laySteps 50 = .ok (.istore_n 3, 1) := by decide +kernel
theorem dX12_laySteps_51 : decode cX12_laySteps 51 = .ok (.iload_n 3, 1) := by decide +kernel
theorem dX12_laySteps_52 : decode cX12_laySteps 52 = .ok (.sipush 144, 3) := by decide +kernel
theorem dX12_laySteps_55 : decode cX12_laySteps 55 = .ok (.if_icmp .ge 67, 3) := by decide +kernel
theorem dX12_laySteps_58 : decode cX12_laySteps 58 = .ok (.aload_n 0, 1) := by decide +kernel
theorem dX12_laySteps_59 : decode cX12_laySteps 59 = .ok (.iload_n 3, 1) := by decide +kernel
theorem dX12_laySteps_60 : decode cX12_laySteps 60 = .ok (.iconst 4, 1) := by decide +kernel
theorem dX12_laySteps_61 : decode cX12_laySteps 61 = .ok (.idiv, 1) := by decide +kernel
theorem dX12_laySteps_62 : decode cX12_laySteps 62 = .ok (.iload_n 3, 1) := by decide +kernel
theorem dX12_laySteps_63 : decode cX12_laySteps 63 = .ok (.iconst 4, 1) := by decide +kernel
theorem dX12_laySteps_64 : decode cX12_laySteps 64 = .ok (.irem, 1) := by decide +kernel
theorem dX12_laySteps_65 : decode cX12_laySteps 65 = .ok (.invokevirtual 202, 3) := by decide +kernel
theorem dX12_laySteps_68 : decode cX12_laySteps 68 = .ok (.istore 4, 2) := by decide +kernel
theorem dX12_laySteps_70 : decode cX12_laySteps 70 = .ok (.iload 4, 2) := by decide +kernel
theorem dX12_laySteps_72 : decode cX12_laySteps 72 = .ok (.bipush (-4), 2) := by decide +kernel
theorem dX12_laySteps_74 : decode cX12_laySteps 74 = .ok (.if_icmp .eq 42, 3) := by decide +kernel
theorem dX12_laySteps_77 : decode cX12_laySteps 77 = .ok (.aload_n 0, 1) := by decide +kernel
theorem dX12_laySteps_78 : decode cX12_laySteps 78 = .ok (.getfield 67, 3) := by decide +kernel
theorem dX12_laySteps_81 : decode cX12_laySteps 81 = .ok (.iload_n 3, 1) := by decide +kernel
theorem dX12_laySteps_82 : decode cX12_laySteps 82 = .ok (.iconst 4, 1) := by decide +kernel
theorem dX12_laySteps_83 : decode cX12_laySteps 83 = .ok (.idiv, 1) := by decide +kernel
theorem dX12_laySteps_84 : decode cX12_laySteps 84 = .ok (.iaload, 1) := by decide +kernel
theorem dX12_laySteps_85 : decode cX12_laySteps 85 = .ok (.iconst 1, 1) := by decide +kernel
theorem dX12_laySteps_86 : decode cX12_laySteps 86 = .ok (.iadd, 1) := by decide +kernel
theorem dX12_laySteps_87 : decode cX12_laySteps 87 = .ok (.aload_n 0, 1) := by decide +kernel
theorem dX12_laySteps_88 : decode cX12_laySteps 88 = .ok (.getfield 67, 3) := by decide +kernel
theorem dX12_laySteps_91 : decode cX12_laySteps 91 = .ok (.iload 4, 2) := by decide +kernel
theorem dX12_laySteps_93 : decode cX12_laySteps 93 = .ok (.iaload, 1) := by decide +kernel
theorem dX12_laySteps_94 : decode cX12_laySteps 94 = .ok (.if_icmp .ge 22, 3) := by decide +kernel
theorem dX12_laySteps_97 : decode cX12_laySteps 97 = .ok (.aload_n 0, 1) := by decide +kernel
theorem dX12_laySteps_98 : decode cX12_laySteps 98 = .ok (.getfield 67, 3) := by decide +kernel
theorem dX12_laySteps_101 : decode cX12_laySteps 101 = .ok (.iload 4, 2) := by decide +kernel
theorem dX12_laySteps_103 : decode cX12_laySteps 103 = .ok (.aload_n 0, 1) := by decide +kernel
theorem dX12_laySteps_104 : decode cX12_laySteps 104 = .ok (.getfield 67, 3) := by decide +kernel
theorem dX12_laySteps_107 : decode cX12_laySteps 107 = .ok (.iload_n 3, 1) := by decide +kernel
theorem dX12_laySteps_108 : decode cX12_laySteps 108 = .ok (.iconst 4, 1) := by decide +kernel
theorem dX12_laySteps_109 : decode cX12_laySteps 109 = .ok (.idiv, 1) := by decide +kernel
theorem dX12_laySteps_110 : decode cX12_laySteps 110 = .ok (.iaload, 1) := by decide +kernel
theorem dX12_laySteps_111 : decode cX12_laySteps 111 = .ok (.iconst 1, 1) := by decide +kernel
theorem dX12_laySteps_112 : decode cX12_laySteps 112 = .ok (.iadd, 1) := by decide +kernel
theorem dX12_laySteps_113 : decode cX12_laySteps 113 = .ok (.iastore, 1) := by decide +kernel
theorem dX12_laySteps_114 : decode cX12_laySteps 114 = .ok (.iconst 1, 1) := by decide +kernel
theorem dX12_laySteps_115 : decode cX12_laySteps 115 = .ok (.istore_n 2, 1) := by decide +kernel
theorem dX12_laySteps_116 : decode cX12_laySteps 116 = .ok (.iinc 3 1, 3) := by decide +kernel
theorem dX12_laySteps_119 : decode cX12_laySteps 119 = .ok (.goto (-68), 3) := by decide +kernel
theorem dX12_laySteps_122 : decode cX12_laySteps 122 = .ok (.goto (-79), 3) := by decide +kernel
theorem dX12_laySteps_125 : decode cX12_laySteps 125 = .ok (.return_, 1) := by decide +kernel
theorem dX12_steps_0 : decode cX12_steps 0 = .ok (.aload_n 0, 1) := by decide +kernel
theorem dX12_steps_1 : decode cX12_steps 1 = .ok (.invokevirtual 175, 3) := by decide +kernel
theorem dX12_steps_4 : decode cX12_steps 4 = .ok (.iload_n 1, 1) := by decide +kernel
theorem dX12_steps_5 : decode cX12_steps 5 = .ok (.invokestatic 178, 3) := by decide +kernel
theorem dX12_steps_8 : decode cX12_steps 8 = .ok (.ifCond .eq 10, 3) := by decide +kernel
theorem dX12_steps_11 : decode cX12_steps 11 = .ok (.iload_n 2, 1) := by decide +kernel
theorem dX12_steps_12 : decode cX12_steps 12 = .ok (.invokestatic 178, 3) := by decide +kernel
theorem dX12_steps_15 : decode cX12_steps 15 = .ok (.ifCond .ne 5, 3) := by decide +kernel
theorem dX12_steps_18 : decode cX12_steps 18 = .ok (.iconst (-1), 1) := by decide +kernel
theorem dX12_steps_19 : decode cX12_steps 19 = .ok (.ireturn, 1) := by decide +kernel
theorem dX12_steps_20 : decode cX12_steps 20 = .ok (.aload_n 0, 1) := by decide +kernel
theorem dX12_steps_21 : decode cX12_steps 21 = .ok (.iload_n 1, 1) := by decide +kernel
theorem dX12_steps_22 : decode cX12_steps 22 = .ok (.invokevirtual 279, 3) := by decide +kernel
theorem dX12_steps_25 : decode cX12_steps 25 = .ok (.aload_n 0, 1) := by decide +kernel
theorem dX12_steps_26 : decode cX12_steps 26 = .ok (.getfield 67, 3) := by decide +kernel
theorem dX12_steps_29 : decode cX12_steps 29 = .ok (.iload_n 2, 1) := by decide +kernel
theorem dX12_steps_30 : decode cX12_steps 30 = .ok (.iaload, 1) := by decide +kernel
theorem dX12_steps_31 : decode cX12_steps 31 = .ok (.ldc 252, 2) := by decide +kernel
theorem dX12_steps_33 : decode cX12_steps 33 = .ok (.if_icmp .lt 8, 3) := by decide +kernel
theorem dX12_steps_36 : decode cX12_steps 36 = .ok (.bipush (-4), 2) := by decide +kernel
theorem dX12_steps_38 : decode cX12_steps 38 = .ok (.goto 9, 3) := by decide +kernel
theorem dX12_steps_41 : decode cX12_steps 41 = .ok (.aload_n 0, 1) := by decide +kernel
theorem dX12_steps_42 : decode cX12_steps 42 = .ok (.getfield 67, 3) := by decide +kernel
theorem dX12_steps_45 : decode cX12_steps 45 = .ok (.iload_n 2, 1) := by decide +kernel
theorem dX12_steps_46 : decode cX12_steps 46 = .ok (.iaload, 1) := by decide +kernel
theorem dX12_steps_47 : decode cX12_steps 47 = .ok (.ireturn, 1) := by decide +kernel
theorem dX12_beyond_0 : decode cX12_beyond 0 = .ok (.aload_n 0, 1) := by decide +kernel
theorem dX12_beyond_1 : decode cX12_beyond 1 = .ok (.invokevirtual 175, 3) := by decide +kernel
theorem dX12_beyond_4 : decode cX12_beyond 4 = .ok (.aload_n 0, 1) := by decide +kernel
theorem dX12_beyond_5 : decode cX12_beyond 5 = .ok (.aload_n 0, 1) := by decide +kernel
theorem dX12_beyond_6 : decode cX12_beyond 6 = .ok (.getfield 28, 3) := by decide +kernel
theorem dX12_beyond_9 : decode cX12_beyond 9 = .ok (.iconst 0, 1) := by decide +kernel
theorem dX12_beyond_10 : decode cX12_beyond 10 = .ok (.iaload, 1) := by decide +kernel
theorem dX12_beyond_11 : decode cX12_beyond 11 = .ok (.invokevirtual 279, 3) := by decide +kernel
theorem dX12_beyond_14 : decode cX12_beyond 14 = .ok (.lconst 0, 1) := by decide +kernel
theorem dX12_beyond_15 : decode cX12_beyond 15 = .ok (.lstore_n 1, 1) := by decide +kernel
theorem dX12_beyond_16 : decode cX12_beyond 16 = .ok (.iconst 0, 1) := by decide +kernel
theorem dX12_beyond_17 : decode cX12_beyond 17 = .ok (.istore_n 3, 1) := by decide +kernel
theorem dX12_beyond_18 : decode cX12_beyond 18 = .ok (.iload_n 3, 1) := by decide +kernel
theorem dX12_beyond_19 : decode cX12_beyond 19 = .ok (.bipush 36, 2) := by decide +kernel
theorem dX12_beyond_21 : decode cX12_beyond 21 = .ok (.if_icmp .ge 42, 3) := by decide +kernel
theorem dX12_beyond_24 : decode cX12_beyond 24 = .ok (.lload_n 1, 1) := by decide +kernel
theorem dX12_beyond_25 : decode cX12_beyond 25 = .ok (.aload_n 0, 1) := by decide +kernel
theorem dX12_beyond_26 : decode cX12_beyond 26 = .ok (.iload_n 3, 1) := by decide +kernel
theorem dX12_beyond_27 : decode cX12_beyond 27 = .ok (.invokevirtual 196, 3) := by decide +kernel
theorem dX12_beyond_30 : decode cX12_beyond 30 = .ok (.ifCond .eq 24, 3) := by decide +kernel
theorem dX12_beyond_33 : decode cX12_beyond 33 = .ok (.aload_n 0, 1) := by decide +kernel
theorem dX12_beyond_34 : decode cX12_beyond 34 = .ok (.getfield 67, 3) := by decide +kernel
theorem dX12_beyond_37 : decode cX12_beyond 37 = .ok (.iload_n 3, 1) := by decide +kernel
theorem dX12_beyond_38 : decode cX12_beyond 38 = .ok (.iaload, 1) := by decide +kernel
theorem dX12_beyond_39 : decode cX12_beyond 39 = .ok (.aload_n 0, 1) := by decide +kernel
theorem dX12_beyond_40 : decode cX12_beyond 40 = .ok (.getfield 28, 3) := by decide +kernel
theorem dX12_beyond_43 : decode cX12_beyond 43 = .ok (.iconst 5, 1) := by decide +kernel
theorem dX12_beyond_44 : decode cX12_beyond 44 = .ok (.iaload, 1) := by decide +kernel
theorem dX12_beyond_45 : decode cX12_beyond 45 = .ok (.if_icmp .le 9, 3) := by decide +kernel
theorem dX12_beyond_48 : decode cX12_beyond 48 = .ok (.lconst 1, 1) := by decide +kernel
theorem dX12_beyond_49 : decode cX12_beyond 49 = .ok (.iload_n 3, 1) := by decide +kernel
theorem dX12_beyond_50 : decode cX12_beyond 50 = .ok (.lshl, 1) := by decide +kernel
theorem dX12_beyond_51 : decode cX12_beyond 51 = .ok (.goto 4, 3) := by decide +kernel
theorem dX12_beyond_54 : decode cX12_beyond 54 = .ok (.lconst 0, 1) := by decide +kernel
theorem dX12_beyond_55 : decode cX12_beyond 55 = .ok (.lor, 1) := by decide +kernel
theorem dX12_beyond_56 : decode cX12_beyond 56 = .ok (.lstore_n 1, 1) := by decide +kernel
theorem dX12_beyond_57 : decode cX12_beyond 57 = .ok (.iinc 3 1, 3) := by decide +kernel
theorem dX12_beyond_60 : decode cX12_beyond 60 = .ok (.goto (-42), 3) := by decide +kernel
theorem dX12_beyond_63 : decode cX12_beyond 63 = .ok (.lload_n 1, 1) := by decide +kernel
theorem dX12_beyond_64 : decode cX12_beyond 64 = .ok (.lreturn, 1) := by decide +kernel
theorem dX12_middle_0 : decode cX12_middle 0 = .ok (.aload_n 0, 1) := by decide +kernel
theorem dX12_middle_1 : decode cX12_middle 1 = .ok (.invokevirtual 175, 3) := by decide +kernel
theorem dX12_middle_4 : decode cX12_middle 4 = .ok (.iload_n 1, 1) := by decide +kernel
theorem dX12_middle_5 : decode cX12_middle 5 = .ok (.i2l, 1) := by decide +kernel
theorem dX12_middle_6 : decode cX12_middle 6 = .ok (.lconst 0, 1) := by decide +kernel
theorem dX12_middle_7 : decode cX12_middle 7 = .ok (.lconst 1, 1) := by decide +kernel
theorem dX12_middle_8 : decode cX12_middle 8 = .ok (.invokestatic 94, 3) := by decide +kernel
theorem dX12_middle_11 : decode cX12_middle 11 = .ok (.ifCond .ne 5, 3) := by decide +kernel
theorem dX12_middle_14 : decode cX12_middle 14 = .ok (.iconst (-1), 1) := by decide +kernel
theorem dX12_middle_15 : decode cX12_middle 15 = .ok (.ireturn, 1) := by decide +kernel
theorem dX12_middle_16 : decode cX12_middle 16 = .ok (.bipush (-4), 2) := by decide +kernel
theorem dX12_middle_18 : decode cX12_middle 18 = .ok (.istore_n 2, 1) := by decide +kernel
theorem dX12_middle_19 : decode cX12_middle 19 = .ok (.ldc 252, 2) := by decide +kernel
theorem dX12_middle_21 : decode cX12_middle 21 = .ok (.istore_n 3, 1) := by decide +kernel
theorem dX12_middle_22 : decode cX12_middle 22 = .ok (.iconst 0, 1) := by decide +kernel
theorem dX12_middle_23 : decode cX12_middle 23 = .ok (.istore 4, 2) := by decide +kernel
theorem dX12_middle_25 : decode cX12_middle 25 = .ok (.iload 4, 2) := by decide +kernel
theorem dX12_middle_27 : decode cX12_middle 27 = .ok (.bipush 36, 2) := by decide +kernel
theorem dX12_middle_29 : decode cX12_middle 29 = .ok (.if_icmp .ge 122, 3) := by decide +kernel
theorem dX12_middle_32 : decode cX12_middle 32 = .ok (.aload_n 0, 1) := by decide +kernel
theorem dX12_middle_33 : decode cX12_middle 33 = .ok (.iload 4, 2) := by decide +kernel
theorem dX12_middle_35 : decode cX12_middle 35 = .ok (.invokevirtual 279, 3) := by decide +kernel
theorem dX12_middle_38 : decode cX12_middle 38 = .ok (.iconst (-1), 1) := by decide +kernel
theorem dX12_middle_39 : decode cX12_middle 39 = .ok (.istore 5, 2) := by decide +kernel
theorem dX12_middle_41 : decode cX12_middle 41 = .ok (.iconst 0, 1) := by decide +kernel
theorem dX12_middle_42 : decode cX12_middle 42 = .ok (.istore 6, 2) := by decide +kernel
theorem dX12_middle_44 : decode cX12_middle 44 = .ok (.iload 6, 2) := by decide +kernel
theorem dX12_middle_46 : decode cX12_middle 46 = .ok (.bipush 36, 2) := by decide +kernel
theorem dX12_middle_48 : decode cX12_middle 48 = .ok (.if_icmp .ge 44, 3) := by decide +kernel
theorem dX12_middle_51 : decode cX12_middle 51 = .ok (.aload_n 0, 1) := by decide +kernel
theorem dX12_middle_52 : decode cX12_middle 52 = .ok (.iload 6, 2) := by decide +kernel
theorem dX12_middle_54 : decode cX12_middle 54 = .ok (.invokevirtual 196, 3) := by decide +kernel
theorem dX12_middle_57 : decode cX12_middle 57 = .ok (.ifCond .eq 25, 3) := by decide +kernel
theorem dX12_middle_60 : decode cX12_middle 60 = .ok (.aload_n 0, 1) := by decide +kernel
theorem dX12_middle_61 : decode cX12_middle 61 = .ok (.getfield 67, 3) := by decide +kernel
theorem dX12_middle_64 : decode cX12_middle 64 = .ok (.iload 6, 2) := by decide +kernel
theorem dX12_middle_66 : decode cX12_middle 66 = .ok (.iaload, 1) := by decide +kernel
theorem dX12_middle_67 : decode cX12_middle 67 = .ok (.iload 5, 2) := by decide +kernel
theorem dX12_middle_69 : decode cX12_middle 69 = .ok (.if_icmp .le 13, 3) := by decide +kernel
theorem dX12_middle_72 : decode cX12_middle 72 = .ok (.aload_n 0, 1) := by decide +kernel
theorem dX12_middle_73 : decode cX12_middle 73 = .ok (.getfield 67, 3) := by decide +kernel
theorem dX12_middle_76 : decode cX12_middle 76 = .ok (.iload 6, 2) := by decide +kernel
theorem dX12_middle_78 : decode cX12_middle 78 = .ok (.iaload, 1) := by decide +kernel
theorem dX12_middle_79 : decode cX12_middle 79 = .ok (.goto 5, 3) := by decide +kernel
theorem dX12_middle_82 : decode cX12_middle 82 = .ok (.iload 5, 2) := by decide +kernel
theorem dX12_middle_84 : decode cX12_middle 84 = .ok (.istore 5, 2) := by decide +kernel
theorem dX12_middle_86 : decode cX12_middle 86 = .ok (.iinc 6 1, 3) := by decide +kernel
theorem dX12_middle_89 : decode cX12_middle 89 = .ok (.goto (-45), 3) := by decide +kernel
theorem dX12_middle_92 : decode cX12_middle 92 = .ok (.aload_n 0, 1) := by decide +kernel
theorem dX12_middle_93 : decode cX12_middle 93 = .ok (.getfield 40, 3) := by decide +kernel
theorem dX12_middle_96 : decode cX12_middle 96 = .ok (.iload 4, 2) := by decide +kernel
theorem dX12_middle_98 : decode cX12_middle 98 = .ok (.iaload, 1) := by decide +kernel
theorem dX12_middle_99 : decode cX12_middle 99 = .ok (.iconst 2, 1) := by decide +kernel
theorem dX12_middle_100 : decode cX12_middle 100 = .ok (.if_icmp .eq 18, 3) := by decide +kernel
theorem dX12_middle_103 : decode cX12_middle 103 = .ok (.iload 5, 2) := by decide +kernel
theorem dX12_middle_105 : decode cX12_middle 105 = .ok (.ifCond .lt 13, 3) := by decide +kernel
theorem dX12_middle_108 : decode cX12_middle 108 = .ok (.iload 5, 2) := by decide +kernel
theorem dX12_middle_110 : decode cX12_middle 110 = .ok (.iload_n 3, 1) := by decide +kernel
theorem dX12_middle_111 : decode cX12_middle 111 = .ok (.if_icmp .ge 7, 3) := by decide +kernel
theorem dX12_middle_114 : decode cX12_middle 114 = .ok (.iconst 1, 1) := by decide +kernel
theorem dX12_middle_115 : decode cX12_middle 115 = .ok (.goto 4, 3) := by decide +kernel
theorem dX12_middle_118 : decode cX12_middle 118 = .ok (.iconst 0, 1) := by decide +kernel
theorem dX12_middle_119 : decode cX12_middle 119 = .ok (.istore 6, 2) := by decide +kernel
theorem dX12_middle_121 : decode cX12_middle 121 = .ok (.iload 6, 2) := by decide +kernel
theorem dX12_middle_123 : decode cX12_middle 123 = .ok (.ifCond .eq 8, 3) := by decide +kernel
theorem dX12_middle_126 : decode cX12_middle 126 = .ok (.iload 4, 2) := by decide +kernel
theorem dX12_middle_128 : decode cX12_middle 128 = .ok (.goto 4, 3) := by decide +kernel
theorem dX12_middle_131 : decode cX12_middle 131 = .ok (.iload_n 2, 1) := by decide +kernel
theorem dX12_middle_132 : decode cX12_middle 132 = .ok (.istore_n 2, 1) := by decide +kernel
theorem dX12_middle_133 : decode cX12_middle 133 = .ok (.iload 6, 2) := by decide +kernel
theorem dX12_middle_135 : decode cX12_middle 135 = .ok (.ifCond .eq 8, 3) := by decide +kernel
theorem dX12_middle_138 : decode cX12_middle 138 = .ok (.iload 5, 2) := by decide +kernel
theorem dX12_middle_140 : decode cX12_middle 140 = .ok (.goto 4, 3) := by decide +kernel
theorem dX12_middle_143 : decode cX12_middle 143 = .ok (.iload_n 3, 1) := by decide +kernel
theorem dX12_middle_144 : decode cX12_middle 144 = .ok (.istore_n 3, 1) := by decide +kernel
theorem dX12_middle_145 : decode cX12_middle 145 = .ok (.iinc 4 1, 3) := by decide +kernel
theorem dX12_middle_148 : decode cX12_middle 148 = .ok (.goto (-123), 3) := by decide +kernel
theorem dX12_middle_151 : decode cX12_middle 151 = .ok (.iload_n 2, 1) := by decide +kernel
theorem dX12_middle_152 : decode cX12_middle 152 = .ok (.bipush (-4), 2) := by decide +kernel
theorem dX12_middle_154 : decode cX12_middle 154 = .ok (.if_icmp .eq 7, 3) := by decide +kernel
theorem dX12_middle_157 : decode cX12_middle 157 = .ok (.iload_n 1, 1) := by decide +kernel
theorem dX12_middle_158 : decode cX12_middle 158 = .ok (.ifCond .ne 7, 3) := by decide +kernel
theorem dX12_middle_161 : decode cX12_middle 161 = .ok (.iload_n 2, 1) := by decide +kernel
theorem dX12_middle_162 : decode cX12_middle 162 = .ok (.goto 4, 3) := by decide +kernel
theorem dX12_middle_165 : decode cX12_middle 165 = .ok (.iload_n 3, 1) := by decide +kernel
theorem dX12_middle_166 : decode cX12_middle 166 = .ok (.ireturn, 1) := by decide +kernel
theorem dX12_begins_0 : decode cX12_begins 0 = .ok (.aload_n 0, 1) := by decide +kernel
theorem dX12_begins_1 : decode cX12_begins 1 = .ok (.iload_n 1, 1) := by decide +kernel
theorem dX12_begins_2 : decode cX12_begins 2 = .ok (.putfield 282, 3) := by decide +kernel
theorem dX12_begins_5 : decode cX12_begins 5 = .ok (.aload_n 0, 1) := by decide +kernel
theorem dX12_begins_6 : decode cX12_begins 6 = .ok (.iload_n 2, 1) := by decide +kernel
theorem dX12_begins_7 : decode cX12_begins 7 = .ok (.putfield 285, 3) := by decide +kernel
theorem dX12_begins_10 : decode cX12_begins 10 = .ok (.aload_n 0, 1) := by decide +kernel
theorem dX12_begins_11 : decode cX12_begins 11 = .ok (.iload_n 3, 1) := by decide +kernel
theorem dX12_begins_12 : decode cX12_begins 12 = .ok (.putfield 288, 3) := by decide +kernel
theorem dX12_begins_15 : decode cX12_begins 15 = .ok (.aload_n 0, 1) := by decide +kernel
theorem dX12_begins_16 : decode cX12_begins 16 = .ok (.iconst 0, 1) := by decide +kernel
theorem dX12_begins_17 : decode cX12_begins 17 = .ok (.putfield 291, 3) := by decide +kernel
theorem dX12_begins_20 : decode cX12_begins 20 = .ok (.aload_n 0, 1) := by decide +kernel
theorem dX12_begins_21 : decode cX12_begins 21 = .ok (.lconst 1, 1) := by decide +kernel
theorem dX12_begins_22 : decode cX12_begins 22 = .ok (.iload_n 1, 1) := by decide +kernel
theorem dX12_begins_23 : decode cX12_begins 23 = .ok (.lshl, 1) := by decide +kernel
theorem dX12_begins_24 : decode cX12_begins 24 = .ok (.putfield 294, 3) := by decide +kernel
theorem dX12_begins_27 : decode cX12_begins 27 = .ok (.return_, 1) := by decide +kernel
theorem dX12_robotStep_0 : decode cX12_robotStep 0 = .ok (.aload_n 0, 1) := by decide +kernel
theorem dX12_robotStep_1 : decode cX12_robotStep 1 = .ok (.aload_n 0, 1) := by decide +kernel
theorem dX12_robotStep_2 : decode cX12_robotStep 2 = .ok (.getfield 282, 3) := by decide +kernel
theorem dX12_robotStep_5 : decode cX12_robotStep 5 = .ok (.aload_n 0, 1) := by decide +kernel
theorem dX12_robotStep_6 : decode cX12_robotStep 6 = .ok (.getfield 285, 3) := by decide +kernel
theorem dX12_robotStep_9 : decode cX12_robotStep 9 = .ok (.invokevirtual 202, 3) := by decide +kernel
theorem dX12_robotStep_12 : decode cX12_robotStep 12 = .ok (.istore_n 2, 1) := by decide +kernel
theorem dX12_robotStep_13 : decode cX12_robotStep 13 = .ok (.iload_n 2, 1) := by decide +kernel
theorem dX12_robotStep_14 : decode cX12_robotStep 14 = .ok (.bipush (-4), 2) := by decide +kernel
theorem dX12_robotStep_16 : decode cX12_robotStep 16 = .ok (.if_icmp .eq 21, 3) := by decide +kernel
theorem dX12_robotStep_19 : decode cX12_robotStep 19 = .ok (.aload_n 0, 1) := by decide +kernel
theorem dX12_robotStep_20 : decode cX12_robotStep 20 = .ok (.iload_n 2, 1) := by decide +kernel
theorem dX12_robotStep_21 : decode cX12_robotStep 21 = .ok (.putfield 282, 3) := by decide +kernel
theorem dX12_robotStep_24 : decode cX12_robotStep 24 = .ok (.aload_n 0, 1) := by decide +kernel
theorem dX12_robotStep_25 : decode cX12_robotStep 25 = .ok (.dup, 1) := by decide +kernel
theorem dX12_robotStep_26 : decode cX12_robotStep 26 = .ok (.getfield 294, 3) := by decide +kernel
theorem dX12_robotStep_29 : decode cX12_robotStep 29 = .ok (.lconst 1, 1) := by decide +kernel
theorem dX12_robotStep_30 : decode cX12_robotStep 30 = .ok (.iload_n 2, 1) := by decide +kernel
theorem dX12_robotStep_31 : decode cX12_robotStep 31 = .ok (.lshl, 1) := by decide +kernel
theorem dX12_robotStep_32 : decode cX12_robotStep 32 = .ok (.lor, 1) := by decide +kernel
theorem dX12_robotStep_33 : decode cX12_robotStep 33 = .ok (.putfield 294, 3) := by decide +kernel
theorem dX12_robotStep_36 : decode cX12_robotStep 36 = .ok (.return_, 1) := by decide +kernel
theorem dX12_robotStep_37 : decode cX12_robotStep 37 = .ok (.aload_n 0, 1) := by decide +kernel
theorem dX12_robotStep_38 : decode cX12_robotStep 38 = .ok (.dup, 1) := by decide +kernel
theorem dX12_robotStep_39 : decode cX12_robotStep 39 = .ok (.getfield 291, 3) := by decide +kernel
theorem dX12_robotStep_42 : decode cX12_robotStep 42 = .ok (.iconst 1, 1) := by decide +kernel
theorem dX12_robotStep_43 : decode cX12_robotStep 43 = .ok (.iadd, 1) := by decide +kernel
theorem dX12_robotStep_44 : decode cX12_robotStep 44 = .ok (.putfield 291, 3) := by decide +kernel
theorem dX12_robotStep_47 : decode cX12_robotStep 47 = .ok (.iload_n 1, 1) := by decide +kernel
theorem dX12_robotStep_48 : decode cX12_robotStep 48 = .ok (.iconst 3, 1) := by decide +kernel
theorem dX12_robotStep_49 : decode cX12_robotStep 49 = .ok (.if_icmp .ne 35, 3) := by decide +kernel
theorem dX12_robotStep_52 : decode cX12_robotStep 52 = .ok (.aload_n 0, 1) := by decide +kernel
theorem dX12_robotStep_53 : decode cX12_robotStep 53 = .ok (.aload_n 0, 1) := by decide +kernel
theorem dX12_robotStep_54 : decode cX12_robotStep 54 = .ok (.getfield 288, 3) := by decide +kernel
theorem dX12_robotStep_57 : decode cX12_robotStep 57 = .ok (.ldc_w 298, 3) := by decide +kernel
theorem dX12_robotStep_60 : decode cX12_robotStep 60 = .ok (.imul, 1) := by decide +kernel
theorem dX12_robotStep_61 : decode cX12_robotStep 61 = .ok (.sipush 12345, 3) := by decide +kernel
theorem dX12_robotStep_64 : decode cX12_robotStep 64 = .ok (.iadd, 1) := by decide +kernel
theorem dX12_robotStep_65 : decode cX12_robotStep 65 = .ok (.putfield 288, 3) := by decide +kernel
theorem dX12_robotStep_68 : decode cX12_robotStep 68 = .ok (.aload_n 0, 1) := by decide +kernel
theorem dX12_robotStep_69 : decode cX12_robotStep 69 = .ok (.aload_n 0, 1) := by decide +kernel
theorem dX12_robotStep_70 : decode cX12_robotStep 70 = .ok (.getfield 288, 3) := by decide +kernel
theorem dX12_robotStep_73 : decode cX12_robotStep 73 = .ok (.bipush 16, 2) := by decide +kernel
theorem dX12_robotStep_75 : decode cX12_robotStep 75 = .ok (.ishr, 1) := by decide +kernel
theorem dX12_robotStep_76 : decode cX12_robotStep 76 = .ok (.iconst 3, 1) := by decide +kernel
theorem dX12_robotStep_77 : decode cX12_robotStep 77 = .ok (.iand, 1) := by decide +kernel
theorem dX12_robotStep_78 : decode cX12_robotStep 78 = .ok (.putfield 285, 3) := by decide +kernel
theorem dX12_robotStep_81 : decode cX12_robotStep 81 = .ok (.goto 32, 3) := by decide +kernel
theorem dX12_robotStep_84 : decode cX12_robotStep 84 = .ok (.aload_n 0, 1) := by decide +kernel
theorem dX12_robotStep_85 : decode cX12_robotStep 85 = .ok (.aload_n 0, 1) := by decide +kernel
theorem dX12_robotStep_86 : decode cX12_robotStep 86 = .ok (.getfield 285, 3) := by decide +kernel
theorem dX12_robotStep_89 : decode cX12_robotStep 89 = .ok (.iload_n 1, 1) := by decide +kernel
theorem dX12_robotStep_90 : decode cX12_robotStep 90 = .ok (.ifCond .ne 7, 3) := by decide +kernel
theorem dX12_robotStep_93 : decode cX12_robotStep 93 = .ok (.iconst 1, 1) := by decide +kernel
theorem dX12_robotStep_94 : decode cX12_robotStep 94 = .ok (.goto 13, 3) := by decide +kernel
theorem dX12_robotStep_97 : decode cX12_robotStep 97 = .ok (.iload_n 1, 1) := by decide +kernel
theorem dX12_robotStep_98 : decode cX12_robotStep 98 = .ok (.iconst 1, 1) := by decide +kernel
theorem dX12_robotStep_99 : decode cX12_robotStep 99 = .ok (.if_icmp .ne 7, 3) := by decide +kernel
theorem dX12_robotStep_102 : decode cX12_robotStep 102 = .ok (.iconst 3, 1) := by decide +kernel
theorem dX12_robotStep_103 : decode cX12_robotStep 103 = .ok (.goto 4, 3) := by decide +kernel
theorem dX12_robotStep_106 : decode cX12_robotStep 106 = .ok (.iconst 2, 1) := by decide +kernel
theorem dX12_robotStep_107 : decode cX12_robotStep 107 = .ok (.iadd, 1) := by decide +kernel
theorem dX12_robotStep_108 : decode cX12_robotStep 108 = .ok (.iconst 3, 1) := by decide +kernel
theorem dX12_robotStep_109 : decode cX12_robotStep 109 = .ok (.iand, 1) := by decide +kernel
theorem dX12_robotStep_110 : decode cX12_robotStep 110 = .ok (.putfield 285, 3) := by decide +kernel
theorem dX12_robotStep_113 : decode cX12_robotStep 113 = .ok (.return_, 1) := by decide +kernel
theorem dX12_isRobot_0 : decode cX12_isRobot 0 = .ok (.iload_n 0, 1) := by decide +kernel
theorem dX12_isRobot_1 : decode cX12_isRobot 1 = .ok (.invokestatic 178, 3) := by decide +kernel
theorem dX12_isRobot_4 : decode cX12_isRobot 4 = .ok (.ifCond .eq 19, 3) := by decide +kernel
theorem dX12_isRobot_7 : decode cX12_isRobot 7 = .ok (.iload_n 1, 1) := by decide +kernel
theorem dX12_isRobot_8 : decode cX12_isRobot 8 = .ok (.i2l, 1) := by decide +kernel
theorem dX12_isRobot_9 : decode cX12_isRobot 9 = .ok (.lconst 0, 1) := by decide +kernel
theorem dX12_isRobot_10 : decode cX12_isRobot 10 = .ok (.ldc2_w 182, 3) := by decide +kernel
theorem dX12_isRobot_13 : decode cX12_isRobot 13 = .ok (.invokestatic 94, 3) := by decide +kernel
theorem dX12_isRobot_16 : decode cX12_isRobot 16 = .ok (.ifCond .eq 7, 3) := by decide +kernel
theorem dX12_isRobot_19 : decode cX12_isRobot 19 = .ok (.iconst 1, 1) := by decide +kernel
theorem dX12_isRobot_20 : decode cX12_isRobot 20 = .ok (.goto 4, 3) := by decide +kernel
theorem dX12_isRobot_23 : decode cX12_isRobot 23 = .ok (.iconst 0, 1) := by decide +kernel
theorem dX12_isRobot_24 : decode cX12_isRobot 24 = .ok (.ireturn, 1) := by decide +kernel
theorem dX12_bitsOf_0 : decode cX12_bitsOf 0 = .ok (.iconst 0, 1) := by decide +kernel
theorem dX12_bitsOf_1 : decode cX12_bitsOf 1 = .ok (.istore_n 2, 1) := by decide +kernel
theorem dX12_bitsOf_2 : decode cX12_bitsOf 2 = .ok (.iconst 0, 1) := by decide +kernel
theorem dX12_bitsOf_3 : decode cX12_bitsOf 3 = .ok (.istore_n 3, 1) := by decide +kernel
theorem dX12_bitsOf_4 : decode cX12_bitsOf 4 = .ok (.iload_n 3, 1) := by decide +kernel
theorem dX12_bitsOf_5 : decode cX12_bitsOf 5 = .ok (.bipush 36, 2) := by decide +kernel
theorem dX12_bitsOf_7 : decode cX12_bitsOf 7 = .ok (.if_icmp .ge 19, 3) := by decide +kernel
theorem dX12_bitsOf_10 : decode cX12_bitsOf 10 = .ok (.iload_n 2, 1) := by decide +kernel
theorem dX12_bitsOf_11 : decode cX12_bitsOf 11 = .ok (.i2l, 1) := by decide +kernel
theorem dX12_bitsOf_12 : decode cX12_bitsOf 12 = .ok (.lload_n 0, 1) := by decide +kernel
theorem dX12_bitsOf_13 : decode cX12_bitsOf 13 = .ok (.iload_n 3, 1) := by decide +kernel
theorem dX12_bitsOf_14 : decode cX12_bitsOf 14 = .ok (.lshr, 1) := by decide +kernel
theorem dX12_bitsOf_15 : decode cX12_bitsOf 15 = .ok (.lconst 1, 1) := by decide +kernel
theorem dX12_bitsOf_16 : decode cX12_bitsOf 16 = .ok (.land, 1) := by decide +kernel
theorem dX12_bitsOf_17 : decode cX12_bitsOf 17 = .ok (.ladd, 1) := by decide +kernel
theorem dX12_bitsOf_18 : decode cX12_bitsOf 18 = .ok (.l2i, 1) := by decide +kernel
theorem dX12_bitsOf_19 : decode cX12_bitsOf 19 = .ok (.istore_n 2, 1) := by decide +kernel
theorem dX12_bitsOf_20 : decode cX12_bitsOf 20 = .ok (.iinc 3 1, 3) := by decide +kernel
theorem dX12_bitsOf_23 : decode cX12_bitsOf 23 = .ok (.goto (-19), 3) := by decide +kernel
theorem dX12_bitsOf_26 : decode cX12_bitsOf 26 = .ok (.iload_n 2, 1) := by decide +kernel
theorem dX12_bitsOf_27 : decode cX12_bitsOf 27 = .ok (.ireturn, 1) := by decide +kernel
theorem dX12_grass_0 : decode cX12_grass 0 = .ok (.lconst 0, 1) := by decide +kernel
theorem dX12_grass_1 : decode cX12_grass 1 = .ok (.lstore_n 1, 1) := by decide +kernel
theorem dX12_grass_2 : decode cX12_grass 2 = .ok (.iconst 0, 1) := by decide +kernel
theorem dX12_grass_3 : decode cX12_grass 3 = .ok (.istore_n 3, 1) := by decide +kernel
theorem dX12_grass_4 : decode cX12_grass 4 = .ok (.iload_n 3, 1) := by decide +kernel
theorem dX12_grass_5 : decode cX12_grass 5 = .ok (.bipush 36, 2) := by decide +kernel
theorem dX12_grass_7 : decode cX12_grass 7 = .ok (.if_icmp .ge 27, 3) := by decide +kernel
theorem dX12_grass_10 : decode cX12_grass 10 = .ok (.lload_n 1, 1) := by decide +kernel
theorem dX12_grass_11 : decode cX12_grass 11 = .ok (.aload_n 0, 1) := by decide +kernel
theorem dX12_grass_12 : decode cX12_grass 12 = .ok (.iload_n 3, 1) := by decide +kernel
theorem dX12_grass_13 : decode cX12_grass 13 = .ok (.invokevirtual 196, 3) := by decide +kernel
theorem dX12_grass_16 : decode cX12_grass 16 = .ok (.ifCond .eq 9, 3) := by decide +kernel
theorem dX12_grass_19 : decode cX12_grass 19 = .ok (.lconst 1, 1) := by decide +kernel
theorem dX12_grass_20 : decode cX12_grass 20 = .ok (.iload_n 3, 1) := by decide +kernel
theorem dX12_grass_21 : decode cX12_grass 21 = .ok (.lshl, 1) := by decide +kernel
theorem dX12_grass_22 : decode cX12_grass 22 = .ok (.goto 4, 3) := by decide +kernel
theorem dX12_grass_25 : decode cX12_grass 25 = .ok (.lconst 0, 1) := by decide +kernel
theorem dX12_grass_26 : decode cX12_grass 26 = .ok (.lor, 1) := by decide +kernel
theorem dX12_grass_27 : decode cX12_grass 27 = .ok (.lstore_n 1, 1) := by decide +kernel
theorem dX12_grass_28 : decode cX12_grass 28 = .ok (.iinc 3 1, 3) := by decide +kernel
theorem dX12_grass_31 : decode cX12_grass 31 = .ok (.goto (-27), 3) := by decide +kernel
theorem dX12_grass_34 : decode cX12_grass 34 = .ok (.lload_n 1, 1) := by decide +kernel
theorem dX12_grass_35 : decode cX12_grass 35 = .ok (.lreturn, 1) := by decide +kernel
theorem dX12_robot_0 : decode cX12_robot 0 = .ok (.aload_n 0, 1) := by decide +kernel
theorem dX12_robot_1 : decode cX12_robot 1 = .ok (.invokevirtual 175, 3) := by decide +kernel
theorem dX12_robot_4 : decode cX12_robot 4 = .ok (.iload_n 1, 1) := by decide +kernel
theorem dX12_robot_5 : decode cX12_robot 5 = .ok (.iload_n 2, 1) := by decide +kernel
theorem dX12_robot_6 : decode cX12_robot 6 = .ok (.invokestatic 299, 3) := by decide +kernel
theorem dX12_robot_9 : decode cX12_robot 9 = .ok (.ifCond .eq 36, 3) := by decide +kernel
theorem dX12_robot_12 : decode cX12_robot 12 = .ok (.iload_n 3, 1) := by decide +kernel
theorem dX12_robot_13 : decode cX12_robot 13 = .ok (.i2l, 1) := by decide +kernel
theorem dX12_robot_14 : decode cX12_robot 14 = .ok (.lconst 0, 1) := by decide +kernel
theorem dX12_robot_15 : decode cX12_robot 15 = .ok (.ldc2_w 182, 3) := by decide +kernel
theorem dX12_robot_18 : decode cX12_robot 18 = .ok (.invokestatic 94, 3) := by decide +kernel
theorem dX12_robot_21 : decode cX12_robot 21 = .ok (.ifCond .eq 24, 3) := by decide +kernel
theorem dX12_robot_24 : decode cX12_robot 24 = .ok (.iload 5, 2) := by decide +kernel
theorem dX12_robot_26 : decode cX12_robot 26 = .ok (.invokestatic 214, 3) := by decide +kernel
theorem dX12_robot_29 : decode cX12_robot 29 = .ok (.ifCond .eq 16, 3) := by decide +kernel
theorem dX12_robot_32 : decode cX12_robot 32 = .ok (.iload 6, 2) := by decide +kernel
theorem dX12_robot_34 : decode cX12_robot 34 = .ok (.i2l, 1) := by decide +kernel
theorem dX12_robot_35 : decode cX12_robot 35 = .ok (.lconst 0, 1) := by decide +kernel
theorem dX12_robot_36 : decode cX12_robot 36 = .ok (.ldc2_w 186, 3) := by decide +kernel
theorem dX12_robot_39 : decode cX12_robot 39 = .ok (.invokestatic 94, 3) := by decide +kernel
theorem dX12_robot_42 : decode cX12_robot 42 = .ok (.ifCond .ne 7, 3) := by decide +kernel
theorem dX12_robot_45 : decode cX12_robot 45 = .ok (.ldc2_w 237, 3) := by decide +kernel
theorem dX12_robot_48 : decode cX12_robot 48 = .ok (.lreturn, 1) := by decide +kernel
theorem dX12_robot_49 : decode cX12_robot 49 = .ok (.aload_n 0, 1) := by decide +kernel
theorem dX12_robot_50 : decode cX12_robot 50 = .ok (.getfield 40, 3) := by decide +kernel
theorem dX12_robot_53 : decode cX12_robot 53 = .ok (.iload_n 1, 1) := by decide +kernel
theorem dX12_robot_54 : decode cX12_robot 54 = .ok (.iaload, 1) := by decide +kernel
theorem dX12_robot_55 : decode cX12_robot 55 = .ok (.iconst 2, 1) := by decide +kernel
theorem dX12_robot_56 : decode cX12_robot 56 = .ok (.if_icmp .ne 7, 3) := by decide +kernel
theorem dX12_robot_59 : decode cX12_robot 59 = .ok (.ldc2_w 302, 3) := by decide +kernel
theorem dX12_robot_62 : decode cX12_robot 62 = .ok (.lreturn, 1) := by decide +kernel
theorem dX12_robot_63 : decode cX12_robot 63 = .ok (.aload_n 0, 1) := by decide +kernel
theorem dX12_robot_64 : decode cX12_robot 64 = .ok (.iload_n 1, 1) := by decide +kernel
theorem dX12_robot_65 : decode cX12_robot 65 = .ok (.iload_n 2, 1) := by decide +kernel
theorem dX12_robot_66 : decode cX12_robot 66 = .ok (.iload 4, 2) := by decide +kernel
theorem dX12_robot_68 : decode cX12_robot 68 = .ok (.invokevirtual 304, 3) := by decide +kernel
theorem dX12_robot_71 : decode cX12_robot 71 = .ok (.iconst 0, 1) := by decide +kernel
theorem dX12_robot_72 : decode cX12_robot 72 = .ok (.istore 7, 2) := by decide +kernel
theorem dX12_robot_74 : decode cX12_robot 74 = .ok (.iload 7, 2) := by decide +kernel
theorem dX12_robot_76 : decode cX12_robot 76 = .ok (.iload 5, 2) := by decide +kernel
theorem dX12_robot_78 : decode cX12_robot 78 = .ok (.if_icmp .ge 14, 3) := by decide +kernel
theorem dX12_robot_81 : decode cX12_robot 81 = .ok (.aload_n 0, 1) := by decide +kernel
theorem dX12_robot_82 : decode cX12_robot 82 = .ok (.iload_n 3, 1) := by decide +kernel
theorem dX12_robot_83 : decode cX12_robot 83 = .ok (.invokevirtual 308, 3) := by decide +kernel
theorem dX12_robot_86 : decode cX12_robot 86 = .ok (.iinc 7 1, 3) := by decide +kernel
theorem dX12_robot_89 : decode cX12_robot 89 = .ok (.goto (-15), 3) := by decide +kernel
theorem dX12_robot_92 : decode cX12_robot 92 = .ok (.iload 6, 2) := by decide +kernel
theorem dX12_robot_94 : decode cX12_robot 94 = .ok (.ifCond .ne 11, 3) := by decide +kernel
theorem dX12_robot_97 : decode cX12_robot 97 = .ok (.aload_n 0, 1) := by decide +kernel
theorem dX12_robot_98 : decode cX12_robot 98 = .ok (.getfield 282, 3) := by decide +kernel
theorem dX12_robot_101 : decode cX12_robot 101 = .ok (.i2l, 1) := by decide +kernel
theorem dX12_robot_102 : decode cX12_robot 102 = .ok (.goto 66, 3) := by decide +kernel
theorem dX12_robot_105 : decode cX12_robot 105 = .ok (.iload 6, 2) := by decide +kernel
theorem dX12_robot_107 : decode cX12_robot 107 = .ok (.iconst 1, 1) := by decide +kernel
theorem dX12_robot_108 : decode cX12_robot 108 = .ok (.if_icmp .ne 11, 3) := by decide +kernel
theorem dX12_robot_111 : decode cX12_robot 111 = .ok (.aload_n 0, 1) := by decide +kernel
theorem dX12_robot_112 : decode cX12_robot 112 = .ok (.getfield 285, 3) := by decide +kernel
theorem dX12_robot_115 : decode cX12_robot 115 = .ok (.i2l, 1) := by decide +kernel
theorem dX12_robot_116 : decode cX12_robot 116 = .ok (.goto 52, 3) := by decide +kernel
theorem dX12_robot_119 : decode cX12_robot 119 = .ok (.iload 6, 2) := by decide +kernel
theorem dX12_robot_121 : decode cX12_robot 121 = .ok (.iconst 2, 1) := by decide +kernel
theorem dX12_robot_122 : decode cX12_robot 122 = .ok (.if_icmp .ne 14, 3) := by decide +kernel
theorem dX12_robot_125 : decode cX12_robot 125 = .ok (.aload_n 0, 1) := by decide +kernel
theorem dX12_robot_126 : decode cX12_robot 126 = .ok (.getfield 294, 3) := by decide +kernel
theorem dX12_robot_129 : decode cX12_robot 129 = .ok (.invokestatic 311, 3) := by decide +kernel
theorem dX12_robot_132 : decode cX12_robot 132 = .ok (.i2l, 1) := by decide +kernel
theorem dX12_robot_133 : decode cX12_robot 133 = .ok (.goto 35, 3) := by decide +kernel
theorem dX12_robot_136 : decode cX12_robot 136 = .ok (.iload 6, 2) := by decide +kernel
theorem dX12_robot_138 : decode cX12_robot 138 = .ok (.iconst 3, 1) := by decide +kernel
theorem dX12_robot_139 : decode cX12_robot 139 = .ok (.if_icmp .ne 10, 3) := by decide +kernel
theorem dX12_robot_142 : decode cX12_robot 142 = .ok (.aload_n 0, 1) := by decide +kernel
theorem dX12_robot_143 : decode cX12_robot 143 = .ok (.getfield 294, 3) := by decide +kernel
theorem dX12_robot_146 : decode cX12_robot 146 = .ok (.goto 22, 3) := by decide +kernel
theorem dX12_robot_149 : decode cX12_robot 149 = .ok (.iload 6, 2) := by decide +kernel
theorem dX12_robot_151 : decode cX12_robot 151 = .ok (.iconst 4, 1) := by decide +kernel
theorem dX12_robot_152 : decode cX12_robot 152 = .ok (.if_icmp .ne 11, 3) := by decide +kernel
theorem dX12_robot_155 : decode cX12_robot 155 = .ok (.aload_n 0, 1) := by decide +kernel
theorem dX12_robot_156 : decode cX12_robot 156 = .ok (.getfield 291, 3) := by decide +kernel
theorem dX12_robot_159 : decode cX12_robot 159 = .ok (.i2l, 1) := by decide +kernel
theorem dX12_robot_160 : decode cX12_robot 160 = .ok (.goto 8, 3) := by decide +kernel
theorem dX12_robot_163 : decode cX12_robot 163 = .ok (.aload_n 0, 1) := by decide +kernel
theorem dX12_robot_164 : decode cX12_robot 164 = .ok (.getfield 288, 3) := by decide +kernel
theorem dX12_robot_167 : decode cX12_robot 167 = .ok (.i2l, 1) := by decide +kernel
theorem dX12_robot_168 : decode cX12_robot 168 = .ok (.lreturn, 1) := by decide +kernel
theorem dX12_until_0 : decode cX12_until 0 = .ok (.aload_n 0, 1) := by decide +kernel
theorem dX12_until_1 : decode cX12_until 1 = .ok (.invokevirtual 175, 3) := by decide +kernel
theorem dX12_until_4 : decode cX12_until 4 = .ok (.iload_n 1, 1) := by decide +kernel
theorem dX12_until_5 : decode cX12_until 5 = .ok (.iload_n 2, 1) := by decide +kernel
theorem dX12_until_6 : decode cX12_until 6 = .ok (.invokestatic 299, 3) := by decide +kernel
theorem dX12_until_9 : decode cX12_until 9 = .ok (.ifCond .eq 41, 3) := by decide +kernel
theorem dX12_until_12 : decode cX12_until 12 = .ok (.iload_n 3, 1) := by decide +kernel
theorem dX12_until_13 : decode cX12_until 13 = .ok (.i2l, 1) := by decide +kernel
theorem dX12_until_14 : decode cX12_until 14 = .ok (.lconst 0, 1) := by decide +kernel
theorem dX12_until_15 : decode cX12_until 15 = .ok (.ldc2_w 182, 3) := by decide +kernel
theorem dX12_until_18 : decode cX12_until 18 = .ok (.invokestatic 94, 3) := by decide +kernel
theorem dX12_until_21 : decode cX12_until 21 = .ok (.ifCond .eq 29, 3) := by decide +kernel
theorem dX12_until_24 : decode cX12_until 24 = .ok (.iload 6, 2) := by decide +kernel
theorem dX12_until_26 : decode cX12_until 26 = .ok (.i2l, 1) := by decide +kernel
theorem dX12_until_27 : decode cX12_until 27 = .ok (.lconst 1, 1) := by decide +kernel
theorem dX12_until_28 : decode cX12_until 28 = .ok (.ldc2_w 315, 3) := by decide +kernel
theorem dX12_until_31 : decode cX12_until 31 = .ok (.invokestatic 94, 3) := by decide +kernel
theorem dX12_until_34 : decode cX12_until 34 = .ok (.ifCond .eq 16, 3) := by decide +kernel
theorem dX12_until_37 : decode cX12_until 37 = .ok (.iload 5, 2) := by decide +kernel
theorem dX12_until_39 : decode cX12_until 39 = .ok (.i2l, 1) := by decide +kernel
theorem dX12_until_40 : decode cX12_until 40 = .ok (.lconst 0, 1) := by decide +kernel
theorem dX12_until_41 : decode cX12_until 41 = .ok (.iload 6, 2) := by decide +kernel
theorem dX12_until_43 : decode cX12_until 43 = .ok (.i2l, 1) := by decide +kernel
theorem dX12_until_44 : decode cX12_until 44 = .ok (.invokestatic 94, 3) := by decide +kernel
theorem dX12_until_47 : decode cX12_until 47 = .ok (.ifCond .ne 5, 3) := by decide +kernel
theorem dX12_until_50 : decode cX12_until 50 = .ok (.iconst (-1), 1) := by decide +kernel
theorem dX12_until_51 : decode cX12_until 51 = .ok (.ireturn, 1) := by decide +kernel
theorem dX12_until_52 : decode cX12_until 52 = .ok (.aload_n 0, 1) := by decide +kernel
theorem dX12_until_53 : decode cX12_until 53 = .ok (.getfield 40, 3) := by decide +kernel
theorem dX12_until_56 : decode cX12_until 56 = .ok (.iload_n 1, 1) := by decide +kernel
theorem dX12_until_57 : decode cX12_until 57 = .ok (.iaload, 1) := by decide +kernel
theorem dX12_until_58 : decode cX12_until 58 = .ok (.iconst 2, 1) := by decide +kernel
theorem dX12_until_59 : decode cX12_until 59 = .ok (.if_icmp .ne 6, 3) := by decide +kernel
theorem dX12_until_62 : decode cX12_until 62 = .ok (.bipush (-2), 2) := by decide +kernel
theorem dX12_until_64 : decode cX12_until 64 = .ok (.ireturn, 1) := by decide +kernel
theorem dX12_until_65 : decode cX12_until 65 = .ok (.aload_n 0, 1) := by decide +kernel
theorem dX12_until_66 : decode cX12_until 66 = .ok (.iload_n 1, 1) := by decide +kernel
theorem dX12_until_67 : decode cX12_until 67 = .ok (.iload_n 2, 1) := by decide +kernel
theorem dX12_until_68 : decode cX12_until 68 = .ok (.iload 4, 2) := by decide +kernel
theorem dX12_until_70 : decode cX12_until 70 = .ok (.invokevirtual 304, 3) := by decide +kernel
theorem dX12_until_73 : decode cX12_until 73 = .ok (.aload_n 0, 1) := by decide +kernel
theorem dX12_until_74 : decode cX12_until 74 = .ok (.invokevirtual 317, 3) := by decide +kernel
theorem dX12_until_77 : decode cX12_until 77 = .ok (.lstore 7, 2) := by decide +kernel
theorem dX12_until_79 : decode cX12_until 79 = .ok (.iconst 0, 1) := by decide +kernel
theorem dX12_until_80 : decode cX12_until 80 = .ok (.istore 9, 2) := by decide +kernel
theorem dX12_until_82 : decode cX12_until 82 = .ok (.iload 9, 2) := by decide +kernel
theorem dX12_until_84 : decode cX12_until 84 = .ok (.sipush 999, 3) := by decide +kernel
theorem dX12_until_87 : decode cX12_until 87 = .ok (.if_icmp .gt 41, 3) := by decide +kernel
theorem dX12_until_90 : decode cX12_until 90 = .ok (.aload_n 0, 1) := by decide +kernel
theorem dX12_until_91 : decode cX12_until 91 = .ok (.getfield 294, 3) := by decide +kernel
theorem dX12_until_94 : decode cX12_until 94 = .ok (.lload 7, 2) := by decide +kernel
theorem dX12_until_96 : decode cX12_until 96 = .ok (.land, 1) := by decide +kernel
theorem dX12_until_97 : decode cX12_until 97 = .ok (.invokestatic 311, 3) := by decide +kernel
theorem dX12_until_100 : decode cX12_until 100 = .ok (.iload 6, 2) := by decide +kernel
theorem dX12_until_102 : decode cX12_until 102 = .ok (.imul, 1) := by decide +kernel
theorem dX12_until_103 : decode cX12_until 103 = .ok (.iload 5, 2) := by decide +kernel
theorem dX12_until_105 : decode cX12_until 105 = .ok (.lload 7, 2) := by decide +kernel
theorem dX12_until_107 : decode cX12_until 107 = .ok (.invokestatic 311, 3) := by decide +kernel
theorem dX12_until_110 : decode cX12_until 110 = .ok (.imul, 1) := by decide +kernel
theorem dX12_until_111 : decode cX12_until 111 = .ok (.if_icmp .lt 6, 3) := by decide +kernel
theorem dX12_until_114 : decode cX12_until 114 = .ok (.iload 9, 2) := by decide +kernel
theorem dX12_until_116 : decode cX12_until 116 = .ok (.ireturn, 1) := by decide +kernel
theorem dX12_until_117 : decode cX12_until 117 = .ok (.aload_n 0, 1) := by decide +kernel
theorem dX12_until_118 : decode cX12_until 118 = .ok (.iload_n 3, 1) := by decide +kernel
theorem dX12_until_119 : decode cX12_until 119 = .ok (.invokevirtual 308, 3) := by decide +kernel
theorem dX12_until_122 : decode cX12_until 122 = .ok (.iinc 9 1, 3) := by decide +kernel
theorem dX12_until_125 : decode cX12_until 125 = .ok (.goto (-43), 3) := by decide +kernel
theorem dX12_until_128 : decode cX12_until 128 = .ok (.bipush (-4), 2) := by decide +kernel
theorem dX12_until_130 : decode cX12_until 130 = .ok (.ireturn, 1) := by decide +kernel
theorem dX12_never_0 : decode cX12_never 0 = .ok (.aload_n 0, 1) := by decide +kernel
theorem dX12_never_1 : decode cX12_never 1 = .ok (.invokevirtual 175, 3) := by decide +kernel
theorem dX12_never_4 : decode cX12_never 4 = .ok (.iload_n 1, 1) := by decide +kernel
theorem dX12_never_5 : decode cX12_never 5 = .ok (.iload_n 2, 1) := by decide +kernel
theorem dX12_never_6 : decode cX12_never 6 = .ok (.invokestatic 299, 3) := by decide +kernel
theorem dX12_never_9 : decode cX12_never 9 = .ok (.ifCond .eq 15, 3) := by decide +kernel
theorem dX12_never_12 : decode cX12_never 12 = .ok (.iload_n 3, 1) := by decide +kernel
theorem dX12_never_13 : decode cX12_never 13 = .ok (.i2l, 1) := by decide +kernel
theorem dX12_never_14 : decode cX12_never 14 = .ok (.lconst 0, 1) := by decide +kernel
theorem dX12_never_15 : decode cX12_never 15 = .ok (.ldc2_w 268, 3) := by decide +kernel
theorem dX12_never_18 : decode cX12_never 18 = .ok (.invokestatic 94, 3) := by decide +kernel
theorem dX12_never_21 : decode cX12_never 21 = .ok (.ifCond .ne 7, 3) := by decide +kernel
theorem dX12_never_24 : decode cX12_never 24 = .ok (.ldc2_w 237, 3) := by decide +kernel
theorem dX12_never_27 : decode cX12_never 27 = .ok (.lreturn, 1) := by decide +kernel
theorem dX12_never_28 : decode cX12_never 28 = .ok (.aload_n 0, 1) := by decide +kernel
theorem dX12_never_29 : decode cX12_never 29 = .ok (.getfield 40, 3) := by decide +kernel
theorem dX12_never_32 : decode cX12_never 32 = .ok (.iload_n 1, 1) := by decide +kernel
theorem dX12_never_33 : decode cX12_never 33 = .ok (.iaload, 1) := by decide +kernel
theorem dX12_never_34 : decode cX12_never 34 = .ok (.iconst 2, 1) := by decide +kernel
theorem dX12_never_35 : decode cX12_never 35 = .ok (.if_icmp .ne 7, 3) := by decide +kernel
theorem dX12_never_38 : decode cX12_never 38 = .ok (.ldc2_w 302, 3) := by decide +kernel
theorem dX12_never_41 : decode cX12_never 41 = .ok (.lreturn, 1) := by decide +kernel
theorem dX12_never_42 : decode cX12_never 42 = .ok (.aload_n 0, 1) := by decide +kernel
theorem dX12_never_43 : decode cX12_never 43 = .ok (.iload_n 1, 1) := by decide +kernel
theorem dX12_never_44 : decode cX12_never 44 = .ok (.iload_n 2, 1) := by decide +kernel
theorem dX12_never_45 : decode cX12_never 45 = .ok (.iconst 0, 1) := by decide +kernel
theorem dX12_never_46 : decode cX12_never 46 = .ok (.invokevirtual 304, 3) := by decide +kernel
theorem dX12_never_49 : decode cX12_never 49 = .ok (.iconst 0, 1) := by decide +kernel
theorem dX12_never_50 : decode cX12_never 50 = .ok (.istore 4, 2) := by decide +kernel
theorem dX12_never_52 : decode cX12_never 52 = .ok (.iload 4, 2) := by decide +kernel
theorem dX12_never_54 : decode cX12_never 54 = .ok (.sipush 200, 3) := by decide +kernel
theorem dX12_never_57 : decode cX12_never 57 = .ok (.if_icmp .ge 14, 3) := by decide +kernel
theorem dX12_never_60 : decode cX12_never 60 = .ok (.aload_n 0, 1) := by decide +kernel
theorem dX12_never_61 : decode cX12_never 61 = .ok (.iload_n 3, 1) := by decide +kernel
theorem dX12_never_62 : decode cX12_never 62 = .ok (.invokevirtual 308, 3) := by decide +kernel
theorem dX12_never_65 : decode cX12_never 65 = .ok (.iinc 4 1, 3) := by decide +kernel
theorem dX12_never_68 : decode cX12_never 68 = .ok (.goto (-16), 3) := by decide +kernel
theorem dX12_never_71 : decode cX12_never 71 = .ok (.aload_n 0, 1) := by decide +kernel
theorem dX12_never_72 : decode cX12_never 72 = .ok (.invokevirtual 317, 3) := by decide +kernel
theorem dX12_never_75 : decode cX12_never 75 = .ok (.aload_n 0, 1) := by decide +kernel
theorem dX12_never_76 : decode cX12_never 76 = .ok (.getfield 294, 3) := by decide +kernel
theorem dX12_never_79 : decode cX12_never 79 = .ok (.ldc2_w 237, 3) := by decide +kernel
theorem dX12_never_82 : decode cX12_never 82 = .ok (.lxor, 1) := by decide +kernel
theorem dX12_never_83 : decode cX12_never 83 = .ok (.land, 1) := by decide +kernel
theorem dX12_never_84 : decode cX12_never 84 = .ok (.lreturn, 1) := by decide +kernel
theorem dX12_best_0 : decode cX12_best 0 = .ok (.aload_n 0, 1) := by decide +kernel
theorem dX12_best_1 : decode cX12_best 1 = .ok (.invokevirtual 175, 3) := by decide +kernel
theorem dX12_best_4 : decode cX12_best 4 = .ok (.iload_n 1, 1) := by decide +kernel
theorem dX12_best_5 : decode cX12_best 5 = .ok (.iload_n 2, 1) := by decide +kernel
theorem dX12_best_6 : decode cX12_best 6 = .ok (.invokestatic 299, 3) := by decide +kernel
theorem dX12_best_9 : decode cX12_best 9 = .ok (.ifCond .eq 22, 3) := by decide +kernel
theorem dX12_best_12 : decode cX12_best 12 = .ok (.iload 4, 2) := by decide +kernel
theorem dX12_best_14 : decode cX12_best 14 = .ok (.invokestatic 214, 3) := by decide +kernel
theorem dX12_best_17 : decode cX12_best 17 = .ok (.ifCond .eq 14, 3) := by decide +kernel
theorem dX12_best_20 : decode cX12_best 20 = .ok (.iload 5, 2) := by decide +kernel
theorem dX12_best_22 : decode cX12_best 22 = .ok (.i2l, 1) := by decide +kernel
theorem dX12_best_23 : decode cX12_best 23 = .ok (.lconst 0, 1) := by decide +kernel
theorem dX12_best_24 : decode cX12_best 24 = .ok (.lconst 1, 1) := by decide +kernel
theorem dX12_best_25 : decode cX12_best 25 = .ok (.invokestatic 94, 3) := by decide +kernel
theorem dX12_best_28 : decode cX12_best 28 = .ok (.ifCond .ne 5, 3) := by decide +kernel
theorem dX12_best_31 : decode cX12_best 31 = .ok (.iconst (-1), 1) := by decide +kernel
theorem dX12_best_32 : decode cX12_best 32 = .ok (.ireturn, 1) := by decide +kernel
theorem dX12_best_33 : decode cX12_best 33 = .ok (.aload_n 0, 1) := by decide +kernel
theorem dX12_best_34 : decode cX12_best 34 = .ok (.getfield 40, 3) := by decide +kernel
theorem dX12_best_37 : decode cX12_best 37 = .ok (.iload_n 1, 1) := by decide +kernel
theorem dX12_best_38 : decode cX12_best 38 = .ok (.iaload, 1) := by decide +kernel
theorem dX12_best_39 : decode cX12_best 39 = .ok (.iconst 2, 1) := by decide +kernel
theorem dX12_best_40 : decode cX12_best 40 = .ok (.if_icmp .ne 6, 3) := by decide +kernel
theorem dX12_best_43 : decode cX12_best 43 = .ok (.bipush (-2), 2) := by decide +kernel
theorem dX12_best_45 : decode cX12_best 45 = .ok (.ireturn, 1) := by decide +kernel
theorem dX12_best_46 : decode cX12_best 46 = .ok (.iconst 0, 1) := by decide +kernel
theorem dX12_best_47 : decode cX12_best 47 = .ok (.istore 6, 2) := by decide +kernel
theorem dX12_best_49 : decode cX12_best 49 = .ok (.iconst (-1), 1) := by decide +kernel
theorem dX12_best_50 : decode cX12_best 50 = .ok (.istore 7, 2) := by decide +kernel
theorem dX12_best_52 : decode cX12_best 52 = .ok (.iconst 0, 1) := by decide +kernel
theorem dX12_best_53 : decode cX12_best 53 = .ok (.istore 8, 2) := by decide +kernel
theorem dX12_best_55 : decode cX12_best 55 = .ok (.iload 8, 2) := by decide +kernel
theorem dX12_best_57 : decode cX12_best 57 = .ok (.iconst 4, 1) := by decide +kernel
theorem dX12_best_58 : decode cX12_best 58 = .ok (.if_icmp .ge 84, 3) := by decide +kernel
theorem dX12_best_61 : decode cX12_best 61 = .ok (.aload_n 0, 1) := by decide +kernel
theorem dX12_best_62 : decode cX12_best 62 = .ok (.iload_n 1, 1) := by decide +kernel
theorem dX12_best_63 : decode cX12_best 63 = .ok (.iload_n 2, 1) := by decide +kernel
theorem dX12_best_64 : decode cX12_best 64 = .ok (.iload_n 3, 1) := by decide +kernel
theorem dX12_best_65 : decode cX12_best 65 = .ok (.invokevirtual 304, 3) := by decide +kernel
theorem dX12_best_68 : decode cX12_best 68 = .ok (.iconst 0, 1) := by decide +kernel
theorem dX12_best_69 : decode cX12_best 69 = .ok (.istore 9, 2) := by decide +kernel
theorem dX12_best_71 : decode cX12_best 71 = .ok (.iload 9, 2) := by decide +kernel
theorem dX12_best_73 : decode cX12_best 73 = .ok (.iload 4, 2) := by decide +kernel
theorem dX12_best_75 : decode cX12_best 75 = .ok (.if_icmp .ge 15, 3) := by decide +kernel
theorem dX12_best_78 : decode cX12_best 78 = .ok (.aload_n 0, 1) := by decide +kernel
theorem dX12_best_79 : decode cX12_best 79 = .ok (.iload 8, 2) := by decide +kernel
theorem dX12_best_81 : decode cX12_best 81 = .ok (.invokevirtual 308, 3) := by decide +kernel
theorem dX12_best_84 : decode cX12_best 84 = .ok (.iinc 9 1, 3) := by decide +kernel
theorem dX12_best_87 : decode cX12_best 87 = .ok (.goto (-16), 3) := by decide +kernel
theorem dX12_best_90 : decode cX12_best 90 = .ok (.aload_n 0, 1) := by decide +kernel
theorem dX12_best_91 : decode cX12_best 91 = .ok (.getfield 294, 3) := by decide +kernel
theorem dX12_best_94 : decode cX12_best 94 = .ok (.aload_n 0, 1) := by decide +kernel
theorem dX12_best_95 : decode cX12_best 95 = .ok (.invokevirtual 317, 3) := by decide +kernel
theorem dX12_best_98 : decode cX12_best 98 = .ok (.land, 1) := by decide +kernel
theorem dX12_best_99 : decode cX12_best 99 = .ok (.invokestatic 311, 3) := by decide +kernel
theorem dX12_best_102 : decode cX12_best 102 = .ok (.istore 9, 2) := by decide +kernel
theorem dX12_best_104 : decode cX12_best 104 = .ok (.iload 9, 2) := by decide +kernel
theorem dX12_best_106 : decode cX12_best 106 = .ok (.iload 7, 2) := by decide +kernel
theorem dX12_best_108 : decode cX12_best 108 = .ok (.if_icmp .le 8, 3) := by decide +kernel
theorem dX12_best_111 : decode cX12_best 111 = .ok (.iload 8, 2) := by decide +kernel
theorem dX12_best_113 : decode cX12_best 113 = .ok (.goto 5, 3) := by decide +kernel
theorem dX12_best_116 : decode cX12_best 116 = .ok (.iload 6, 2) := by decide +kernel
theorem dX12_best_118 : decode cX12_best 118 = .ok (.istore 6, 2) := by decide +kernel
theorem dX12_best_120 : decode cX12_best 120 = .ok (.iload 9, 2) := by decide +kernel
theorem dX12_best_122 : decode cX12_best 122 = .ok (.iload 7, 2) := by decide +kernel
theorem dX12_best_124 : decode cX12_best 124 = .ok (.if_icmp .le 8, 3) := by decide +kernel
theorem dX12_best_127 : decode cX12_best 127 = .ok (.iload 9, 2) := by decide +kernel
theorem dX12_best_129 : decode cX12_best 129 = .ok (.goto 5, 3) := by decide +kernel
theorem dX12_best_132 : decode cX12_best 132 = .ok (.iload 7, 2) := by decide +kernel
theorem dX12_best_134 : decode cX12_best 134 = .ok (.istore 7, 2) := by decide +kernel
theorem dX12_best_136 : decode cX12_best 136 = .ok (.iinc 8 1, 3) := by decide +kernel
theorem dX12_best_139 : decode cX12_best 139 = .ok (.goto (-84), 3) := by decide +kernel
theorem dX12_best_142 : decode cX12_best 142 = .ok (.iload 5, 2) := by decide +kernel
theorem dX12_best_144 : decode cX12_best 144 = .ok (.ifCond .ne 8, 3) := by decide +kernel
theorem dX12_best_147 : decode cX12_best 147 = .ok (.iload 6, 2) := by decide +kernel
theorem dX12_best_149 : decode cX12_best 149 = .ok (.goto 5, 3) := by decide +kernel
theorem dX12_best_152 : decode cX12_best 152 = .ok (.iload 7, 2) := by decide +kernel
theorem dX12_best_154 : decode cX12_best 154 = .ok (.ireturn, 1) := by decide +kernel
theorem dX12_odds_0 : decode cX12_odds 0 = .ok (.aload_n 0, 1) := by decide +kernel
theorem dX12_odds_1 : decode cX12_odds 1 = .ok (.invokevirtual 175, 3) := by decide +kernel
theorem dX12_odds_4 : decode cX12_odds 4 = .ok (.iload_n 1, 1) := by decide +kernel
theorem dX12_odds_5 : decode cX12_odds 5 = .ok (.iload_n 2, 1) := by decide +kernel
theorem dX12_odds_6 : decode cX12_odds 6 = .ok (.invokestatic 299, 3) := by decide +kernel
theorem dX12_odds_9 : decode cX12_odds 9 = .ok (.ifCond .eq 34, 3) := by decide +kernel
theorem dX12_odds_12 : decode cX12_odds 12 = .ok (.iload_n 3, 1) := by decide +kernel
theorem dX12_odds_13 : decode cX12_odds 13 = .ok (.invokestatic 178, 3) := by decide +kernel
theorem dX12_odds_16 : decode cX12_odds 16 = .ok (.ifCond .eq 27, 3) := by decide +kernel
theorem dX12_odds_19 : decode cX12_odds 19 = .ok (.iload 4, 2) := by decide +kernel
theorem dX12_odds_21 : decode cX12_odds 21 = .ok (.i2l, 1) := by decide +kernel
theorem dX12_odds_22 : decode cX12_odds 22 = .ok (.lconst 0, 1) := by decide +kernel
theorem dX12_odds_23 : decode cX12_odds 23 = .ok (.ldc2_w 321, 3) := by decide +kernel
theorem dX12_odds_26 : decode cX12_odds 26 = .ok (.invokestatic 94, 3) := by decide +kernel
theorem dX12_odds_29 : decode cX12_odds 29 = .ok (.ifCond .eq 14, 3) := by decide +kernel
theorem dX12_odds_32 : decode cX12_odds 32 = .ok (.iload 5, 2) := by decide +kernel
theorem dX12_odds_34 : decode cX12_odds 34 = .ok (.i2l, 1) := by decide +kernel
theorem dX12_odds_35 : decode cX12_odds 35 = .ok (.lconst 0, 1) := by decide +kernel
theorem dX12_odds_36 : decode cX12_odds 36 = .ok (.lconst 1, 1) := by decide +kernel
theorem dX12_odds_37 : decode cX12_odds 37 = .ok (.invokestatic 94, 3) := by decide +kernel
theorem dX12_odds_40 : decode cX12_odds 40 = .ok (.ifCond .ne 7, 3) := by decide +kernel
theorem dX12_odds_43 : decode cX12_odds 43 = .ok (.ldc2_w 237, 3) := by decide +kernel
theorem dX12_odds_46 : decode cX12_odds 46 = .ok (.lreturn, 1) := by decide +kernel
theorem dX12_odds_47 : decode cX12_odds 47 = .ok (.aload_n 0, 1) := by decide +kernel
theorem dX12_odds_48 : decode cX12_odds 48 = .ok (.getfield 40, 3) := by decide +kernel
theorem dX12_odds_51 : decode cX12_odds 51 = .ok (.iload_n 1, 1) := by decide +kernel
theorem dX12_odds_52 : decode cX12_odds 52 = .ok (.iaload, 1) := by decide +kernel
theorem dX12_odds_53 : decode cX12_odds 53 = .ok (.iconst 2, 1) := by decide +kernel
theorem dX12_odds_54 : decode cX12_odds 54 = .ok (.if_icmp .ne 7, 3) := by decide +kernel
theorem dX12_odds_57 : decode cX12_odds 57 = .ok (.ldc2_w 302, 3) := by decide +kernel
theorem dX12_odds_60 : decode cX12_odds 60 = .ok (.lreturn, 1) := by decide +kernel
theorem dX12_odds_61 : decode cX12_odds 61 = .ok (.iconst 0, 1) := by decide +kernel
theorem dX12_odds_62 : decode cX12_odds 62 = .ok (.istore 6, 2) := by decide +kernel
theorem dX12_odds_64 : decode cX12_odds 64 = .ok (.iload 6, 2) := by decide +kernel
theorem dX12_odds_66 : decode cX12_odds 66 = .ok (.sipush 144, 3) := by decide +kernel
theorem dX12_odds_69 : decode cX12_odds 69 = .ok (.if_icmp .ge 31, 3) := by decide +kernel
theorem dX12_odds_72 : decode cX12_odds 72 = .ok (.aload_n 0, 1) := by decide +kernel
theorem dX12_odds_73 : decode cX12_odds 73 = .ok (.getfield 70, 3) := by decide +kernel
theorem dX12_odds_76 : decode cX12_odds 76 = .ok (.iload 6, 2) := by decide +kernel
theorem dX12_odds_78 : decode cX12_odds 78 = .ok (.iload 6, 2) := by decide +kernel
theorem dX12_odds_80 : decode cX12_odds 80 = .ok (.iconst 4, 1) := by decide +kernel
theorem dX12_odds_81 : decode cX12_odds 81 = .ok (.iload_n 1, 1) := by decide +kernel
theorem dX12_odds_82 : decode cX12_odds 82 = .ok (.imul, 1) := by decide +kernel
theorem dX12_odds_83 : decode cX12_odds 83 = .ok (.iload_n 2, 1) := by decide +kernel
theorem dX12_odds_84 : decode cX12_odds 84 = .ok (.iadd, 1) := by decide +kernel
theorem dX12_odds_85 : decode cX12_odds 85 = .ok (.if_icmp .ne 7, 3) := by decide +kernel
theorem dX12_odds_88 : decode cX12_odds 88 = .ok (.lconst 1, 1) := by decide +kernel
theorem dX12_odds_89 : decode cX12_odds 89 = .ok (.goto 4, 3) := by decide +kernel
theorem dX12_odds_92 : decode cX12_odds 92 = .ok (.lconst 0, 1) := by decide +kernel
theorem dX12_odds_93 : decode cX12_odds 93 = .ok (.lastore, 1) := by decide +kernel
theorem dX12_odds_94 : decode cX12_odds 94 = .ok (.iinc 6 1, 3) := by decide +kernel
theorem dX12_odds_97 : decode cX12_odds 97 = .ok (.goto (-33), 3) := by decide +kernel
theorem dX12_odds_100 : decode cX12_odds 100 = .ok (.iconst 0, 1) := by decide +kernel
theorem dX12_odds_101 : decode cX12_odds 101 = .ok (.istore 6, 2) := by decide +kernel
theorem dX12_odds_103 : decode cX12_odds 103 = .ok (.iload 6, 2) := by decide +kernel
theorem dX12_odds_105 : decode cX12_odds 105 = .ok (.iload 4, 2) := by decide +kernel
theorem dX12_odds_107 : decode cX12_odds 107 = .ok (.if_icmp .ge 167, 3) := by decide +kernel
theorem dX12_odds_110 : decode cX12_odds 110 = .ok (.iconst 0, 1) := by decide +kernel
theorem dX12_odds_111 : decode cX12_odds 111 = .ok (.istore 7, 2) := by decide +kernel
theorem dX12_odds_113 : decode cX12_odds 113 = .ok (.iload 7, 2) := by decide +kernel
theorem dX12_odds_115 : decode cX12_odds 115 = .ok (.sipush 144, 3) := by decide +kernel
theorem dX12_odds_118 : decode cX12_odds 118 = .ok (.if_icmp .ge 17, 3) := by decide +kernel
theorem dX12_odds_121 : decode cX12_odds 121 = .ok (.aload_n 0, 1) := by decide +kernel
theorem dX12_odds_122 : decode cX12_odds 122 = .ok (.getfield 74, 3) := by decide +kernel
theorem dX12_odds_125 : decode cX12_odds 125 = .ok (.iload 7, 2) := by decide +kernel
theorem dX12_odds_127 : decode cX12_odds 127 = .ok (.lconst 0, 1) := by decide +kernel
theorem dX12_odds_128 : decode cX12_odds 128 = .ok (.lastore, 1) := by decide +kernel
theorem dX12_odds_129 : decode cX12_odds 129 = .ok (.iinc 7 1, 3) := by decide +kernel
theorem dX12_odds_132 : decode cX12_odds 132 = .ok (.goto (-19), 3) := by decide +kernel
theorem dX12_odds_135 : decode cX12_odds 135 = .ok (.iconst 0, 1) := by decide +kernel
theorem dX12_odds_136 : decode cX12_odds 136 = .ok (.istore 7, 2) := by decide +kernel
theorem dX12_odds_138 : decode cX12_odds 138 = .ok (.iload 7, 2) := by decide +kernel
theorem dX12_odds_140 : decode cX12_odds 140 = .ok (.sipush 144, 3) := by decide +kernel
theorem dX12_odds_143 : decode cX12_odds 143 = .ok (.if_icmp .ge 94, 3) := by decide +kernel
theorem dX12_odds_146 : decode cX12_odds 146 = .ok (.iload 7, 2) := by decide +kernel
theorem dX12_odds_148 : decode cX12_odds 148 = .ok (.iconst 4, 1) := by decide +kernel
theorem dX12_odds_149 : decode cX12_odds 149 = .ok (.idiv, 1) := by decide +kernel
theorem dX12_odds_150 : decode cX12_odds 150 = .ok (.iload_n 3, 1) := by decide +kernel
theorem dX12_odds_151 : decode cX12_odds 151 = .ok (.if_icmp .ne 7, 3) := by decide +kernel
theorem dX12_odds_154 : decode cX12_odds 154 = .ok (.iload_n 3, 1) := by decide +kernel
theorem dX12_odds_155 : decode cX12_odds 155 = .ok (.goto 15, 3) := by decide +kernel
theorem dX12_odds_158 : decode cX12_odds 158 = .ok (.aload_n 0, 1) := by decide +kernel
theorem dX12_odds_159 : decode cX12_odds 159 = .ok (.iload 7, 2) := by decide +kernel
theorem dX12_odds_161 : decode cX12_odds 161 = .ok (.iconst 4, 1) := by decide +kernel
theorem dX12_odds_162 : decode cX12_odds 162 = .ok (.idiv, 1) := by decide +kernel
theorem dX12_odds_163 : decode cX12_odds 163 = .ok (.iload 7, 2) := by decide +kernel
theorem dX12_odds_165 : decode cX12_odds 165 = .ok (.iconst 4, 1) := by decide +kernel
theorem dX12_odds_166 : decode cX12_odds 166 = .ok (.irem, 1) := by decide +kernel
theorem dX12_odds_167 : decode cX12_odds 167 = .ok (.invokevirtual 202, 3) := by decide +kernel
theorem dX12_odds_170 : decode cX12_odds 170 = .ok (.istore 8, 2) := by decide +kernel
theorem dX12_odds_172 : decode cX12_odds 172 = .ok (.iconst 0, 1) := by decide +kernel
theorem dX12_odds_173 : decode cX12_odds 173 = .ok (.istore 9, 2) := by decide +kernel
theorem dX12_odds_175 : decode cX12_odds 175 = .ok (.iload 9, 2) := by decide +kernel
theorem dX12_odds_177 : decode cX12_odds 177 = .ok (.iconst 4, 1) := by decide +kernel
theorem dX12_odds_178 : decode cX12_odds 178 = .ok (.if_icmp .ge 53, 3) := by decide +kernel
theorem dX12_odds_181 : decode cX12_odds 181 = .ok (.aload_n 0, 1) := by decide +kernel
theorem dX12_odds_182 : decode cX12_odds 182 = .ok (.getfield 74, 3) := by decide +kernel
theorem dX12_odds_185 : decode cX12_odds 185 = .ok (.iload 8, 2) := by decide +kernel
theorem dX12_odds_187 : decode cX12_odds 187 = .ok (.bipush (-4), 2) := by decide +kernel
theorem dX12_odds_189 : decode cX12_odds 189 = .ok (.if_icmp .ne 16, 3) := by decide +kernel
theorem dX12_odds_192 : decode cX12_odds 192 = .ok (.iload 7, 2) := by decide +kernel
theorem dX12_odds_194 : decode cX12_odds 194 = .ok (.iload 7, 2) := by decide +kernel
theorem dX12_odds_196 : decode cX12_odds 196 = .ok (.iconst 4, 1) := by decide +kernel
theorem dX12_odds_197 : decode cX12_odds 197 = .ok (.irem, 1) := by decide +kernel
theorem dX12_odds_198 : decode cX12_odds 198 = .ok (.isub, 1) := by decide +kernel
theorem dX12_odds_199 : decode cX12_odds 199 = .ok (.iload 9, 2) := by decide +kernel
theorem dX12_odds_201 : decode cX12_odds 201 = .ok (.iadd, 1) := by decide +kernel
theorem dX12_odds_202 : decode cX12_odds 202 = .ok (.goto 12, 3) := by decide +kernel
theorem dX12_odds_205 : decode cX12_odds 205 = .ok (.iconst 4, 1) := by decide +kernel
theorem dX12_odds_206 : decode cX12_odds 206 = .ok (.iload 8, 2) := by decide +kernel
theorem dX12_odds_208 : decode cX12_odds 208 = .ok (.imul, 1) := by decide +kernel
theorem dX12_odds_209 : decode cX12_odds 209 = .ok (.iload 7, 2) := by decide +kernel
theorem dX12_odds_211 : decode cX12_odds 211 = .ok (.iconst 4, 1) := by decide +kernel
theorem dX12_odds_212 : decode cX12_odds 212 = .ok (.irem, 1) := by decide +kernel
theorem dX12_odds_213 : decode cX12_odds 213 = .ok (.iadd, 1) := by decide +kernel
theorem dX12_odds_214 : decode cX12_odds 214 = .ok (.dup2, 1) := by decide +kernel
theorem dX12_odds_215 : decode cX12_odds 215 = .ok (.laload, 1) := by decide +kernel
theorem dX12_odds_216 : decode cX12_odds 216 = .ok (.aload_n 0, 1) := by decide +kernel
theorem dX12_odds_217 : decode cX12_odds 217 = .ok (.getfield 70, 3) := by decide +kernel
theorem dX12_odds_220 : decode cX12_odds 220 = .ok (.iload 7, 2) := by decide +kernel
theorem dX12_odds_222 : decode cX12_odds 222 = .ok (.laload, 1) := by decide +kernel
theorem dX12_odds_223 : decode cX12_odds 223 = .ok (.ladd, 1) := by decide +kernel
theorem dX12_odds_224 : decode cX12_odds 224 = .ok (.lastore, 1) := by decide +kernel
theorem dX12_odds_225 : decode cX12_odds 225 = .ok (.iinc 9 1, 3) := by decide +kernel
theorem dX12_odds_228 : decode cX12_odds 228 = .ok (.goto (-53), 3) := by decide +kernel
theorem dX12_odds_231 : decode cX12_odds 231 = .ok (.iinc 7 1, 3) := by decide +kernel
theorem dX12_odds_234 : decode cX12_odds 234 = .ok (.goto (-96), 3) := by decide +kernel
theorem dX12_odds_237 : decode cX12_odds 237 = .ok (.iconst 0, 1) := by decide +kernel
theorem dX12_odds_238 : decode cX12_odds 238 = .ok (.istore 7, 2) := by decide +kernel
theorem dX12_odds_240 : decode cX12_odds 240 = .ok (.iload 7, 2) := by decide +kernel
theorem dX12_odds_242 : decode cX12_odds 242 = .ok (.sipush 144, 3) := by decide +kernel
theorem dX12_odds_245 : decode cX12_odds 245 = .ok (.if_icmp .ge 23, 3) := by decide +kernel
theorem dX12_odds_248 : decode cX12_odds 248 = .ok (.aload_n 0, 1) := by decide +kernel
theorem dX12_odds_249 : decode cX12_odds 249 = .ok (.getfield 70, 3) := by decide +kernel
theorem dX12_odds_252 : decode cX12_odds 252 = .ok (.iload 7, 2) := by decide +kernel
theorem dX12_odds_254 : decode cX12_odds 254 = .ok (.aload_n 0, 1) := by decide +kernel
theorem dX12_odds_255 : decode cX12_odds 255 = .ok (.getfield 74, 3) := by decide +kernel
theorem dX12_odds_258 : decode cX12_odds 258 = .ok (.iload 7, 2) := by decide +kernel
theorem dX12_odds_260 : decode cX12_odds 260 = .ok (.laload, 1) := by decide +kernel
theorem dX12_odds_261 : decode cX12_odds 261 = .ok (.lastore, 1) := by decide +kernel
theorem dX12_odds_262 : decode cX12_odds 262 = .ok (.iinc 7 1, 3) := by decide +kernel
theorem dX12_odds_265 : decode cX12_odds 265 = .ok (.goto (-25), 3) := by decide +kernel
theorem dX12_odds_268 : decode cX12_odds 268 = .ok (.iinc 6 1, 3) := by decide +kernel
theorem dX12_odds_271 : decode cX12_odds 271 = .ok (.goto (-168), 3) := by decide +kernel
theorem dX12_odds_274 : decode cX12_odds 274 = .ok (.lconst 0, 1) := by decide +kernel
theorem dX12_odds_275 : decode cX12_odds 275 = .ok (.lstore 6, 2) := by decide +kernel
theorem dX12_odds_277 : decode cX12_odds 277 = .ok (.iconst 0, 1) := by decide +kernel
theorem dX12_odds_278 : decode cX12_odds 278 = .ok (.istore 8, 2) := by decide +kernel
theorem dX12_odds_280 : decode cX12_odds 280 = .ok (.iload 8, 2) := by decide +kernel
theorem dX12_odds_282 : decode cX12_odds 282 = .ok (.iconst 4, 1) := by decide +kernel
theorem dX12_odds_283 : decode cX12_odds 283 = .ok (.if_icmp .ge 25, 3) := by decide +kernel
theorem dX12_odds_286 : decode cX12_odds 286 = .ok (.lload 6, 2) := by decide +kernel
theorem dX12_odds_288 : decode cX12_odds 288 = .ok (.aload_n 0, 1) := by decide +kernel
theorem dX12_odds_289 : decode cX12_odds 289 = .ok (.getfield 70, 3) := by decide +kernel
theorem dX12_odds_292 : decode cX12_odds 292 = .ok (.iconst 4, 1) := by decide +kernel
theorem dX12_odds_293 : decode cX12_odds 293 = .ok (.iload_n 3, 1) := by decide +kernel
theorem dX12_odds_294 : decode cX12_odds 294 = .ok (.imul, 1) := by decide +kernel
theorem dX12_odds_295 : decode cX12_odds 295 = .ok (.iload 8, 2) := by decide +kernel
theorem dX12_odds_297 : decode cX12_odds 297 = .ok (.iadd, 1) := by decide +kernel
theorem dX12_odds_298 : decode cX12_odds 298 = .ok (.laload, 1) := by decide +kernel
theorem dX12_odds_299 : decode cX12_odds 299 = .ok (.ladd, 1) := by decide +kernel
theorem dX12_odds_300 : decode cX12_odds 300 = .ok (.lstore 6, 2) := by decide +kernel
theorem dX12_odds_302 : decode cX12_odds 302 = .ok (.iinc 8 1, 3) := by decide +kernel
theorem dX12_odds_305 : decode cX12_odds 305 = .ok (.goto (-25), 3) := by decide +kernel
theorem dX12_odds_308 : decode cX12_odds 308 = .ok (.lload 6, 2) := by decide +kernel
theorem dX12_odds_310 : decode cX12_odds 310 = .ok (.lstore 8, 2) := by decide +kernel
theorem dX12_odds_312 : decode cX12_odds 312 = .ok (.lconst 1, 1) := by decide +kernel
theorem dX12_odds_313 : decode cX12_odds 313 = .ok (.iconst 2, 1) := by decide +kernel
theorem dX12_odds_314 : decode cX12_odds 314 = .ok (.iload 4, 2) := by decide +kernel
theorem dX12_odds_316 : decode cX12_odds 316 = .ok (.imul, 1) := by decide +kernel
theorem dX12_odds_317 : decode cX12_odds 317 = .ok (.lshl, 1) := by decide +kernel
theorem dX12_odds_318 : decode cX12_odds 318 = .ok (.lstore 10, 2) := by decide +kernel
theorem dX12_odds_320 : decode cX12_odds 320 = .ok (.lload 10, 2) := by decide +kernel
theorem dX12_odds_322 : decode cX12_odds 322 = .ok (.lconst 0, 1) := by decide +kernel
theorem dX12_odds_323 : decode cX12_odds 323 = .ok (.lcmp, 1) := by decide +kernel
theorem dX12_odds_324 : decode cX12_odds 324 = .ok (.ifCond .eq 21, 3) := by decide +kernel
theorem dX12_odds_327 : decode cX12_odds 327 = .ok (.lload 8, 2) := by decide +kernel
theorem dX12_odds_329 : decode cX12_odds 329 = .ok (.lload 10, 2) := by decide +kernel
theorem dX12_odds_331 : decode cX12_odds 331 = .ok (.lrem, 1) := by decide +kernel
theorem dX12_odds_332 : decode cX12_odds 332 = .ok (.lstore 12, 2) := by decide +kernel
theorem dX12_odds_334 : decode cX12_odds 334 = .ok (.lload 10, 2) := by decide +kernel
theorem dX12_odds_336 : decode cX12_odds 336 = .ok (.lstore 8, 2) := by decide +kernel
theorem dX12_odds_338 : decode cX12_odds 338 = .ok (.lload 12, 2) := by decide +kernel
theorem dX12_odds_340 : decode cX12_odds 340 = .ok (.lstore 10, 2) := by decide +kernel
theorem dX12_odds_342 : decode cX12_odds 342 = .ok (.goto (-22), 3) := by decide +kernel
theorem dX12_odds_345 : decode cX12_odds 345 = .ok (.iload 5, 2) := by decide +kernel
theorem dX12_odds_347 : decode cX12_odds 347 = .ok (.ifCond .ne 8, 3) := by decide +kernel
theorem dX12_odds_350 : decode cX12_odds 350 = .ok (.lload 6, 2) := by decide +kernel
theorem dX12_odds_352 : decode cX12_odds 352 = .ok (.goto 9, 3) := by decide +kernel
theorem dX12_odds_355 : decode cX12_odds 355 = .ok (.lconst 1, 1) := by decide +kernel
theorem dX12_odds_356 : decode cX12_odds 356 = .ok (.iconst 2, 1) := by decide +kernel
theorem dX12_odds_357 : decode cX12_odds 357 = .ok (.iload 4, 2) := by decide +kernel
theorem dX12_odds_359 : decode cX12_odds 359 = .ok (.imul, 1) := by decide +kernel
theorem dX12_odds_360 : decode cX12_odds 360 = .ok (.lshl, 1) := by decide +kernel
theorem dX12_odds_361 : decode cX12_odds 361 = .ok (.lload 8, 2) := by decide +kernel
theorem dX12_odds_363 : decode cX12_odds 363 = .ok (.ldiv, 1) := by decide +kernel
theorem dX12_odds_364 : decode cX12_odds 364 = .ok (.lreturn, 1) := by decide +kernel
theorem dX12_grownTo_0 : decode cX12_grownTo 0 = .ok (.aload_n 0, 1) := by decide +kernel
theorem dX12_grownTo_1 : decode cX12_grownTo 1 = .ok (.getfield 40, 3) := by decide +kernel
theorem dX12_grownTo_4 : decode cX12_grownTo 4 = .ok (.bipush 36, 2) := by decide +kernel
theorem dX12_grownTo_6 : decode cX12_grownTo 6 = .ok (.iload_n 1, 1) := by decide +kernel
theorem dX12_grownTo_7 : decode cX12_grownTo 7 = .ok (.iadd, 1) := by decide +kernel
theorem dX12_grownTo_8 : decode cX12_grownTo 8 = .ok (.iaload, 1) := by decide +kernel
theorem dX12_grownTo_9 : decode cX12_grownTo 9 = .ok (.aload_n 0, 1) := by decide +kernel
theorem dX12_grownTo_10 : decode cX12_grownTo 10 = .ok (.getfield 40, 3) := by decide +kernel
theorem dX12_grownTo_13 : decode cX12_grownTo 13 = .ok (.bipush 108, 2) := by decide +kernel
theorem dX12_grownTo_15 : decode cX12_grownTo 15 = .ok (.iload_n 1, 1) := by decide +kernel
theorem dX12_grownTo_16 : decode cX12_grownTo 16 = .ok (.iadd, 1) := by decide +kernel
theorem dX12_grownTo_17 : decode cX12_grownTo 17 = .ok (.iaload, 1) := by decide +kernel
theorem dX12_grownTo_18 : decode cX12_grownTo 18 = .ok (.iadd, 1) := by decide +kernel
theorem dX12_grownTo_19 : decode cX12_grownTo 19 = .ok (.istore_n 2, 1) := by decide +kernel
theorem dX12_grownTo_20 : decode cX12_grownTo 20 = .ok (.iload_n 2, 1) := by decide +kernel
theorem dX12_grownTo_21 : decode cX12_grownTo 21 = .ok (.bipush 60, 2) := by decide +kernel
theorem dX12_grownTo_23 : decode cX12_grownTo 23 = .ok (.if_icmp .le 8, 3) := by decide +kernel
theorem dX12_grownTo_26 : decode cX12_grownTo 26 = .ok (.bipush 60, 2) := by decide +kernel
theorem dX12_grownTo_28 : decode cX12_grownTo 28 = .ok (.goto 4, 3) := by decide +kernel
theorem dX12_grownTo_31 : decode cX12_grownTo 31 = .ok (.iload_n 2, 1) := by decide +kernel
theorem dX12_grownTo_32 : decode cX12_grownTo 32 = .ok (.ireturn, 1) := by decide +kernel
theorem dX12_week_0 : decode cX12_week 0 = .ok (.aload_n 0, 1) := by decide +kernel
theorem dX12_week_1 : decode cX12_week 1 = .ok (.invokevirtual 175, 3) := by decide +kernel
theorem dX12_week_4 : decode cX12_week 4 = .ok (.iload_n 1, 1) := by decide +kernel
theorem dX12_week_5 : decode cX12_week 5 = .ok (.i2l, 1) := by decide +kernel
theorem dX12_week_6 : decode cX12_week 6 = .ok (.lconst 1, 1) := by decide +kernel
theorem dX12_week_7 : decode cX12_week 7 = .ok (.ldc2_w 315, 3) := by decide +kernel
theorem dX12_week_10 : decode cX12_week 10 = .ok (.invokestatic 94, 3) := by decide +kernel
theorem dX12_week_13 : decode cX12_week 13 = .ok (.ifCond .ne 5, 3) := by decide +kernel
theorem dX12_week_16 : decode cX12_week 16 = .ok (.iconst (-1), 1) := by decide +kernel
theorem dX12_week_17 : decode cX12_week 17 = .ok (.ireturn, 1) := by decide +kernel
theorem dX12_week_18 : decode cX12_week 18 = .ok (.iconst 0, 1) := by decide +kernel
theorem dX12_week_19 : decode cX12_week 19 = .ok (.istore_n 2, 1) := by decide +kernel
theorem dX12_week_20 : decode cX12_week 20 = .ok (.iconst 0, 1) := by decide +kernel
theorem dX12_week_21 : decode cX12_week 21 = .ok (.istore_n 3, 1) := by decide +kernel
theorem dX12_week_22 : decode cX12_week 22 = .ok (.iload_n 3, 1) := by decide +kernel
theorem dX12_week_23 : decode cX12_week 23 = .ok (.iload_n 1, 1) := by decide +kernel
theorem dX12_week_24 : decode cX12_week 24 = .ok (.if_icmp .ge 85, 3) := by decide +kernel
theorem dX12_week_27 : decode cX12_week 27 = .ok (.iconst 0, 1) := by decide +kernel
theorem dX12_week_28 : decode cX12_week 28 = .ok (.istore_n 2, 1) := by decide +kernel
theorem dX12_week_29 : decode cX12_week 29 = .ok (.iconst 0, 1) := by decide +kernel
theorem dX12_week_30 : decode cX12_week 30 = .ok (.istore 4, 2) := by decide +kernel
theorem dX12_week_32 : decode cX12_week 32 = .ok (.iload 4, 2) := by decide +kernel
theorem dX12_week_34 : decode cX12_week 34 = .ok (.bipush 36, 2) := by decide +kernel
theorem dX12_week_36 : decode cX12_week 36 = .ok (.if_icmp .ge 67, 3) := by decide +kernel
theorem dX12_week_39 : decode cX12_week 39 = .ok (.aload_n 0, 1) := by decide +kernel
theorem dX12_week_40 : decode cX12_week 40 = .ok (.getfield 40, 3) := by decide +kernel
theorem dX12_week_43 : decode cX12_week 43 = .ok (.bipush 36, 2) := by decide +kernel
theorem dX12_week_45 : decode cX12_week 45 = .ok (.iload 4, 2) := by decide +kernel
theorem dX12_week_47 : decode cX12_week 47 = .ok (.iadd, 1) := by decide +kernel
theorem dX12_week_48 : decode cX12_week 48 = .ok (.aload_n 0, 1) := by decide +kernel
theorem dX12_week_49 : decode cX12_week 49 = .ok (.iload 4, 2) := by decide +kernel
theorem dX12_week_51 : decode cX12_week 51 = .ok (.invokevirtual 196, 3) := by decide +kernel
theorem dX12_week_54 : decode cX12_week 54 = .ok (.ifCond .eq 12, 3) := by decide +kernel
theorem dX12_week_57 : decode cX12_week 57 = .ok (.aload_n 0, 1) := by decide +kernel
theorem dX12_week_58 : decode cX12_week 58 = .ok (.iload 4, 2) := by decide +kernel
theorem dX12_week_60 : decode cX12_week 60 = .ok (.invokevirtual 323, 3) := by decide +kernel
theorem dX12_week_63 : decode cX12_week 63 = .ok (.goto 4, 3) := by decide +kernel
theorem dX12_week_66 : decode cX12_week 66 = .ok (.iconst 0, 1) := by decide +kernel
theorem dX12_week_67 : decode cX12_week 67 = .ok (.iastore, 1) := by decide +kernel
theorem dX12_week_68 : decode cX12_week 68 = .ok (.aload_n 0, 1) := by decide +kernel
theorem dX12_week_69 : decode cX12_week 69 = .ok (.getfield 40, 3) := by decide +kernel
theorem dX12_week_72 : decode cX12_week 72 = .ok (.bipush 36, 2) := by decide +kernel
theorem dX12_week_74 : decode cX12_week 74 = .ok (.iload 4, 2) := by decide +kernel
theorem dX12_week_76 : decode cX12_week 76 = .ok (.iadd, 1) := by decide +kernel
theorem dX12_week_77 : decode cX12_week 77 = .ok (.iaload, 1) := by decide +kernel
theorem dX12_week_78 : decode cX12_week 78 = .ok (.iload_n 2, 1) := by decide +kernel
theorem dX12_week_79 : decode cX12_week 79 = .ok (.if_icmp .le 16, 3) := by decide +kernel
theorem dX12_week_82 : decode cX12_week 82 = .ok (.aload_n 0, 1) := by decide +kernel
theorem dX12_week_83 : decode cX12_week 83 = .ok (.getfield 40, 3) := by decide +kernel
theorem dX12_week_86 : decode cX12_week 86 = .ok (.bipush 36, 2) := by decide +kernel
theorem dX12_week_88 : decode cX12_week 88 = .ok (.iload 4, 2) := by decide +kernel
theorem dX12_week_90 : decode cX12_week 90 = .ok (.iadd, 1) := by decide +kernel
theorem dX12_week_91 : decode cX12_week 91 = .ok (.iaload, 1) := by decide +kernel
theorem dX12_week_92 : decode cX12_week 92 = .ok (.goto 4, 3) := by decide +kernel
theorem dX12_week_95 : decode cX12_week 95 = .ok (.iload_n 2, 1) := by decide +kernel
theorem dX12_week_96 : decode cX12_week 96 = .ok (.istore_n 2, 1) := by decide +kernel
theorem dX12_week_97 : decode cX12_week 97 = .ok (.iinc 4 1, 3) := by decide +kernel
theorem dX12_week_100 : decode cX12_week 100 = .ok (.goto (-68), 3) := by decide +kernel
theorem dX12_week_103 : decode cX12_week 103 = .ok (.iinc 3 1, 3) := by decide +kernel
theorem dX12_week_106 : decode cX12_week 106 = .ok (.goto (-84), 3) := by decide +kernel
theorem dX12_week_109 : decode cX12_week 109 = .ok (.iload_n 2, 1) := by decide +kernel
theorem dX12_week_110 : decode cX12_week 110 = .ok (.ireturn, 1) := by decide +kernel
theorem dX12_high_0 : decode cX12_high 0 = .ok (.aload_n 0, 1) := by decide +kernel
theorem dX12_high_1 : decode cX12_high 1 = .ok (.invokevirtual 175, 3) := by decide +kernel
theorem dX12_high_4 : decode cX12_high 4 = .ok (.iload_n 1, 1) := by decide +kernel
theorem dX12_high_5 : decode cX12_high 5 = .ok (.i2l, 1) := by decide +kernel
theorem dX12_high_6 : decode cX12_high 6 = .ok (.lconst 0, 1) := by decide +kernel
theorem dX12_high_7 : decode cX12_high 7 = .ok (.ldc2_w 326, 3) := by decide +kernel
theorem dX12_high_10 : decode cX12_high 10 = .ok (.invokestatic 94, 3) := by decide +kernel
theorem dX12_high_13 : decode cX12_high 13 = .ok (.ifCond .eq 13, 3) := by decide +kernel
theorem dX12_high_16 : decode cX12_high 16 = .ok (.iload_n 2, 1) := by decide +kernel
theorem dX12_high_17 : decode cX12_high 17 = .ok (.i2l, 1) := by decide +kernel
theorem dX12_high_18 : decode cX12_high 18 = .ok (.lconst 0, 1) := by decide +kernel
theorem dX12_high_19 : decode cX12_high 19 = .ok (.lconst 1, 1) := by decide +kernel
theorem dX12_high_20 : decode cX12_high 20 = .ok (.invokestatic 94, 3) := by decide +kernel
theorem dX12_high_23 : decode cX12_high 23 = .ok (.ifCond .ne 7, 3) := by decide +kernel
theorem dX12_high_26 : decode cX12_high 26 = .ok (.ldc2_w 237, 3) := by decide +kernel
theorem dX12_high_29 : decode cX12_high 29 = .ok (.lreturn, 1) := by decide +kernel
theorem dX12_high_30 : decode cX12_high 30 = .ok (.lconst 0, 1) := by decide +kernel
theorem dX12_high_31 : decode cX12_high 31 = .ok (.lstore_n 3, 1) := by decide +kernel
theorem dX12_high_32 : decode cX12_high 32 = .ok (.iconst 0, 1) := by decide +kernel
theorem dX12_high_33 : decode cX12_high 33 = .ok (.istore 5, 2) := by decide +kernel
theorem dX12_high_35 : decode cX12_high 35 = .ok (.iload 5, 2) := by decide +kernel
theorem dX12_high_37 : decode cX12_high 37 = .ok (.bipush 36, 2) := by decide +kernel
theorem dX12_high_39 : decode cX12_high 39 = .ok (.if_icmp .ge 86, 3) := by decide +kernel
theorem dX12_high_42 : decode cX12_high 42 = .ok (.aload_n 0, 1) := by decide +kernel
theorem dX12_high_43 : decode cX12_high 43 = .ok (.getfield 40, 3) := by decide +kernel
theorem dX12_high_46 : decode cX12_high 46 = .ok (.bipush 36, 2) := by decide +kernel
theorem dX12_high_48 : decode cX12_high 48 = .ok (.iload 5, 2) := by decide +kernel
theorem dX12_high_50 : decode cX12_high 50 = .ok (.iadd, 1) := by decide +kernel
theorem dX12_high_51 : decode cX12_high 51 = .ok (.iaload, 1) := by decide +kernel
theorem dX12_high_52 : decode cX12_high 52 = .ok (.iload_n 1, 1) := by decide +kernel
theorem dX12_high_53 : decode cX12_high 53 = .ok (.if_icmp .le 7, 3) := by decide +kernel
theorem dX12_high_56 : decode cX12_high 56 = .ok (.iconst 1, 1) := by decide +kernel
theorem dX12_high_57 : decode cX12_high 57 = .ok (.goto 4, 3) := by decide +kernel
theorem dX12_high_60 : decode cX12_high 60 = .ok (.iconst 0, 1) := by decide +kernel
theorem dX12_high_61 : decode cX12_high 61 = .ok (.istore 6, 2) := by decide +kernel
theorem dX12_high_63 : decode cX12_high 63 = .ok (.iload_n 2, 1) := by decide +kernel
theorem dX12_high_64 : decode cX12_high 64 = .ok (.ifCond .ne 8, 3) := by decide +kernel
theorem dX12_high_67 : decode cX12_high 67 = .ok (.iload 6, 2) := by decide +kernel
theorem dX12_high_69 : decode cX12_high 69 = .ok (.goto 23, 3) := by decide +kernel
theorem dX12_high_72 : decode cX12_high 72 = .ok (.iload 6, 2) := by decide +kernel
theorem dX12_high_74 : decode cX12_high 74 = .ok (.ifCond .ne 17, 3) := by decide +kernel
theorem dX12_high_77 : decode cX12_high 77 = .ok (.aload_n 0, 1) := by decide +kernel
theorem dX12_high_78 : decode cX12_high 78 = .ok (.iload 5, 2) := by decide +kernel
theorem dX12_high_80 : decode cX12_high 80 = .ok (.invokevirtual 323, 3) := by decide +kernel
theorem dX12_high_83 : decode cX12_high 83 = .ok (.iload_n 1, 1) := by decide +kernel
theorem dX12_high_84 : decode cX12_high 84 = .ok (.if_icmp .le 7, 3) := by decide +kernel
theorem dX12_high_87 : decode cX12_high 87 = .ok (.iconst 1, 1) := by decide +kernel
theorem dX12_high_88 : decode cX12_high 88 = .ok (.goto 4, 3) := by decide +kernel
theorem dX12_high_91 : decode cX12_high 91 = .ok (.iconst 0, 1) := by decide +kernel
theorem dX12_high_92 : decode cX12_high 92 = .ok (.istore 7, 2) := by decide +kernel
theorem dX12_high_94 : decode cX12_high 94 = .ok (.lload_n 3, 1) := by decide +kernel
theorem dX12_high_95 : decode cX12_high 95 = .ok (.aload_n 0, 1) := by decide +kernel
theorem dX12_high_96 : decode cX12_high 96 = .ok (.iload 5, 2) := by decide +kernel
theorem dX12_high_98 : decode cX12_high 98 = .ok (.invokevirtual 196, 3) := by decide +kernel
theorem dX12_high_101 : decode cX12_high 101 = .ok (.ifCond .eq 15, 3) := by decide +kernel
theorem dX12_high_104 : decode cX12_high 104 = .ok (.iload 7, 2) := by decide +kernel
theorem dX12_high_106 : decode cX12_high 106 = .ok (.ifCond .eq 10, 3) := by decide +kernel
theorem dX12_high_109 : decode cX12_high 109 = .ok (.lconst 1, 1) := by decide +kernel
theorem dX12_high_110 : decode cX12_high 110 = .ok (.iload 5, 2) := by decide +kernel
theorem dX12_high_112 : decode cX12_high 112 = .ok (.lshl, 1) := by decide +kernel
theorem dX12_high_113 : decode cX12_high 113 = .ok (.goto 4, 3) := by decide +kernel
theorem dX12_high_116 : decode cX12_high 116 = .ok (.lconst 0, 1) := by decide +kernel
theorem dX12_high_117 : decode cX12_high 117 = .ok (.lor, 1) := by decide +kernel
theorem dX12_high_118 : decode cX12_high 118 = .ok (.lstore_n 3, 1) := by decide +kernel
theorem dX12_high_119 : decode cX12_high 119 = .ok (.iinc 5 1, 3) := by decide +kernel
theorem dX12_high_122 : decode cX12_high 122 = .ok (.goto (-87), 3) := by decide +kernel
theorem dX12_high_125 : decode cX12_high 125 = .ok (.lload_n 3, 1) := by decide +kernel
theorem dX12_high_126 : decode cX12_high 126 = .ok (.lreturn, 1) := by decide +kernel
theorem dX12_weeks_0 : decode cX12_weeks 0 = .ok (.aload_n 0, 1) := by decide +kernel
theorem dX12_weeks_1 : decode cX12_weeks 1 = .ok (.invokevirtual 175, 3) := by decide +kernel
theorem dX12_weeks_4 : decode cX12_weeks 4 = .ok (.iload_n 1, 1) := by decide +kernel
theorem dX12_weeks_5 : decode cX12_weeks 5 = .ok (.i2l, 1) := by decide +kernel
theorem dX12_weeks_6 : decode cX12_weeks 6 = .ok (.lconst 0, 1) := by decide +kernel
theorem dX12_weeks_7 : decode cX12_weeks 7 = .ok (.ldc2_w 326, 3) := by decide +kernel
theorem dX12_weeks_10 : decode cX12_weeks 10 = .ok (.invokestatic 94, 3) := by decide +kernel
theorem dX12_weeks_13 : decode cX12_weeks 13 = .ok (.ifCond .ne 5, 3) := by decide +kernel
theorem dX12_weeks_16 : decode cX12_weeks 16 = .ok (.iconst (-1), 1) := by decide +kernel
theorem dX12_weeks_17 : decode cX12_weeks 17 = .ok (.ireturn, 1) := by decide +kernel
theorem dX12_weeks_18 : decode cX12_weeks 18 = .ok (.bipush (-4), 2) := by decide +kernel
theorem dX12_weeks_20 : decode cX12_weeks 20 = .ok (.istore_n 2, 1) := by decide +kernel
theorem dX12_weeks_21 : decode cX12_weeks 21 = .ok (.iconst 0, 1) := by decide +kernel
theorem dX12_weeks_22 : decode cX12_weeks 22 = .ok (.istore_n 3, 1) := by decide +kernel
theorem dX12_weeks_23 : decode cX12_weeks 23 = .ok (.iload_n 3, 1) := by decide +kernel
theorem dX12_weeks_24 : decode cX12_weeks 24 = .ok (.bipush 36, 2) := by decide +kernel
theorem dX12_weeks_26 : decode cX12_weeks 26 = .ok (.if_icmp .ge 120, 3) := by decide +kernel
theorem dX12_weeks_29 : decode cX12_weeks 29 = .ok (.iload_n 1, 1) := by decide +kernel
theorem dX12_weeks_30 : decode cX12_weeks 30 = .ok (.iconst 1, 1) := by decide +kernel
theorem dX12_weeks_31 : decode cX12_weeks 31 = .ok (.iadd, 1) := by decide +kernel
theorem dX12_weeks_32 : decode cX12_weeks 32 = .ok (.aload_n 0, 1) := by decide +kernel
theorem dX12_weeks_33 : decode cX12_weeks 33 = .ok (.getfield 40, 3) := by decide +kernel
theorem dX12_weeks_36 : decode cX12_weeks 36 = .ok (.bipush 36, 2) := by decide +kernel
theorem dX12_weeks_38 : decode cX12_weeks 38 = .ok (.iload_n 3, 1) := by decide +kernel
theorem dX12_weeks_39 : decode cX12_weeks 39 = .ok (.iadd, 1) := by decide +kernel
theorem dX12_weeks_40 : decode cX12_weeks 40 = .ok (.iaload, 1) := by decide +kernel
theorem dX12_weeks_41 : decode cX12_weeks 41 = .ok (.isub, 1) := by decide +kernel
theorem dX12_weeks_42 : decode cX12_weeks 42 = .ok (.istore 4, 2) := by decide +kernel
theorem dX12_weeks_44 : decode cX12_weeks 44 = .ok (.aload_n 0, 1) := by decide +kernel
theorem dX12_weeks_45 : decode cX12_weeks 45 = .ok (.getfield 40, 3) := by decide +kernel
theorem dX12_weeks_48 : decode cX12_weeks 48 = .ok (.bipush 108, 2) := by decide +kernel
theorem dX12_weeks_50 : decode cX12_weeks 50 = .ok (.iload_n 3, 1) := by decide +kernel
theorem dX12_weeks_51 : decode cX12_weeks 51 = .ok (.iadd, 1) := by decide +kernel
theorem dX12_weeks_52 : decode cX12_weeks 52 = .ok (.iaload, 1) := by decide +kernel
theorem dX12_weeks_53 : decode cX12_weeks 53 = .ok (.istore 5, 2) := by decide +kernel
theorem dX12_weeks_55 : decode cX12_weeks 55 = .ok (.aload_n 0, 1) := by decide +kernel
theorem dX12_weeks_56 : decode cX12_weeks 56 = .ok (.iload_n 3, 1) := by decide +kernel
theorem dX12_weeks_57 : decode cX12_weeks 57 = .ok (.invokevirtual 196, 3) := by decide +kernel
theorem dX12_weeks_60 : decode cX12_weeks 60 = .ok (.ifCond .eq 23, 3) := by decide +kernel
theorem dX12_weeks_63 : decode cX12_weeks 63 = .ok (.iload_n 1, 1) := by decide +kernel
theorem dX12_weeks_64 : decode cX12_weeks 64 = .ok (.bipush 60, 2) := by decide +kernel
theorem dX12_weeks_66 : decode cX12_weeks 66 = .ok (.if_icmp .ge 17, 3) := by decide +kernel
theorem dX12_weeks_69 : decode cX12_weeks 69 = .ok (.iload 4, 2) := by decide +kernel
theorem dX12_weeks_71 : decode cX12_weeks 71 = .ok (.ifCond .le 8, 3) := by decide +kernel
theorem dX12_weeks_74 : decode cX12_weeks 74 = .ok (.iload 5, 2) := by decide +kernel
theorem dX12_weeks_76 : decode cX12_weeks 76 = .ok (.ifCond .le 7, 3) := by decide +kernel
theorem dX12_weeks_79 : decode cX12_weeks 79 = .ok (.iconst 1, 1) := by decide +kernel
theorem dX12_weeks_80 : decode cX12_weeks 80 = .ok (.goto 4, 3) := by decide +kernel
theorem dX12_weeks_83 : decode cX12_weeks 83 = .ok (.iconst 0, 1) := by decide +kernel
theorem dX12_weeks_84 : decode cX12_weeks 84 = .ok (.istore 6, 2) := by decide +kernel
theorem dX12_weeks_86 : decode cX12_weeks 86 = .ok (.iload 6, 2) := by decide +kernel
theorem dX12_weeks_88 : decode cX12_weeks 88 = .ok (.ifCond .ne 7, 3) := by decide +kernel
theorem dX12_weeks_91 : decode cX12_weeks 91 = .ok (.iconst 0, 1) := by decide +kernel
theorem dX12_weeks_92 : decode cX12_weeks 92 = .ok (.goto 22, 3) := by decide +kernel
theorem dX12_weeks_95 : decode cX12_weeks 95 = .ok (.iload 4, 2) := by decide +kernel
theorem dX12_weeks_97 : decode cX12_weeks 97 = .ok (.ifCond .gt 7, 3) := by decide +kernel
theorem dX12_weeks_100 : decode cX12_weeks 100 = .ok (.iconst 0, 1) := by decide +kernel
theorem dX12_weeks_101 : decode cX12_weeks 101 = .ok (.goto 13, 3) := by decide +kernel
theorem dX12_weeks_104 : decode cX12_weeks 104 = .ok (.iload 4, 2) := by decide +kernel
theorem dX12_weeks_106 : decode cX12_weeks 106 = .ok (.iload 5, 2) := by decide +kernel
theorem dX12_weeks_108 : decode cX12_weeks 108 = .ok (.iadd, 1) := by decide +kernel
theorem dX12_weeks_109 : decode cX12_weeks 109 = .ok (.iconst 1, 1) := by decide +kernel
theorem dX12_weeks_110 : decode cX12_weeks 110 = .ok (.isub, 1) := by decide +kernel
theorem dX12_weeks_111 : decode cX12_weeks 111 = .ok (.iload 5, 2) := by decide +kernel
theorem dX12_weeks_113 : decode cX12_weeks 113 = .ok (.idiv, 1) := by decide +kernel
theorem dX12_weeks_114 : decode cX12_weeks 114 = .ok (.istore 7, 2) := by decide +kernel
theorem dX12_weeks_116 : decode cX12_weeks 116 = .ok (.iload 6, 2) := by decide +kernel
theorem dX12_weeks_118 : decode cX12_weeks 118 = .ok (.ifCond .eq 20, 3) := by decide +kernel
theorem dX12_weeks_121 : decode cX12_weeks 121 = .ok (.iload_n 2, 1) := by decide +kernel
theorem dX12_weeks_122 : decode cX12_weeks 122 = .ok (.bipush (-4), 2) := by decide +kernel
theorem dX12_weeks_124 : decode cX12_weeks 124 = .ok (.if_icmp .eq 9, 3) := by decide +kernel
theorem dX12_weeks_127 : decode cX12_weeks 127 = .ok (.iload 7, 2) := by decide +kernel
theorem dX12_weeks_129 : decode cX12_weeks 129 = .ok (.iload_n 2, 1) := by decide +kernel
theorem dX12_weeks_130 : decode cX12_weeks 130 = .ok (.if_icmp .ge 8, 3) := by decide +kernel
theorem dX12_weeks_133 : decode cX12_weeks 133 = .ok (.iload 7, 2) := by decide +kernel
theorem dX12_weeks_135 : decode cX12_weeks 135 = .ok (.goto 4, 3) := by decide +kernel
theorem dX12_weeks_138 : decode cX12_weeks 138 = .ok (.iload_n 2, 1) := by decide +kernel
theorem dX12_weeks_139 : decode cX12_weeks 139 = .ok (.istore_n 2, 1) := by decide +kernel
theorem dX12_weeks_140 : decode cX12_weeks 140 = .ok (.iinc 3 1, 3) := by decide +kernel
theorem dX12_weeks_143 : decode cX12_weeks 143 = .ok (.goto (-120), 3) := by decide +kernel
theorem dX12_weeks_146 : decode cX12_weeks 146 = .ok (.iload_n 2, 1) := by decide +kernel
theorem dX12_weeks_147 : decode cX12_weeks 147 = .ok (.ireturn, 1) := by decide +kernel
theorem dX12_stripes_0 : decode cX12_stripes 0 = .ok (.aload_n 0, 1) := by decide +kernel
theorem dX12_stripes_1 : decode cX12_stripes 1 = .ok (.invokevirtual 175, 3) := by decide +kernel
theorem dX12_stripes_4 : decode cX12_stripes 4 = .ok (.iload_n 1, 1) := by decide +kernel
theorem dX12_stripes_5 : decode cX12_stripes 5 = .ok (.i2l, 1) := by decide +kernel
theorem dX12_stripes_6 : decode cX12_stripes 6 = .ok (.lconst 0, 1) := by decide +kernel
theorem dX12_stripes_7 : decode cX12_stripes 7 = .ok (.ldc2_w 268, 3) := by decide +kernel
theorem dX12_stripes_10 : decode cX12_stripes 10 = .ok (.invokestatic 94, 3) := by decide +kernel
theorem dX12_stripes_13 : decode cX12_stripes 13 = .ok (.ifCond .ne 5, 3) := by decide +kernel
theorem dX12_stripes_16 : decode cX12_stripes 16 = .ok (.iconst (-1), 1) := by decide +kernel
theorem dX12_stripes_17 : decode cX12_stripes 17 = .ok (.ireturn, 1) := by decide +kernel
theorem dX12_stripes_18 : decode cX12_stripes 18 = .ok (.iconst 0, 1) := by decide +kernel
theorem dX12_stripes_19 : decode cX12_stripes 19 = .ok (.istore_n 2, 1) := by decide +kernel
theorem dX12_stripes_20 : decode cX12_stripes 20 = .ok (.iconst 0, 1) := by decide +kernel
theorem dX12_stripes_21 : decode cX12_stripes 21 = .ok (.istore_n 3, 1) := by decide +kernel
theorem dX12_stripes_22 : decode cX12_stripes 22 = .ok (.iload_n 3, 1) := by decide +kernel
theorem dX12_stripes_23 : decode cX12_stripes 23 = .ok (.bipush 36, 2) := by decide +kernel
theorem dX12_stripes_25 : decode cX12_stripes 25 = .ok (.if_icmp .ge 78, 3) := by decide +kernel
theorem dX12_stripes_28 : decode cX12_stripes 28 = .ok (.iload_n 3, 1) := by decide +kernel
theorem dX12_stripes_29 : decode cX12_stripes 29 = .ok (.iconst 2, 1) := by decide +kernel
theorem dX12_stripes_30 : decode cX12_stripes 30 = .ok (.irem, 1) := by decide +kernel
theorem dX12_stripes_31 : decode cX12_stripes 31 = .ok (.ifCond .ne 7, 3) := by decide +kernel
theorem dX12_stripes_34 : decode cX12_stripes 34 = .ok (.iconst 1, 1) := by decide +kernel
theorem dX12_stripes_35 : decode cX12_stripes 35 = .ok (.goto 4, 3) := by decide +kernel
theorem dX12_stripes_38 : decode cX12_stripes 38 = .ok (.iconst 3, 1) := by decide +kernel
theorem dX12_stripes_39 : decode cX12_stripes 39 = .ok (.istore 4, 2) := by decide +kernel
theorem dX12_stripes_41 : decode cX12_stripes 41 = .ok (.aload_n 0, 1) := by decide +kernel
theorem dX12_stripes_42 : decode cX12_stripes 42 = .ok (.getfield 40, 3) := by decide +kernel
theorem dX12_stripes_45 : decode cX12_stripes 45 = .ok (.bipush 72, 2) := by decide +kernel
theorem dX12_stripes_47 : decode cX12_stripes 47 = .ok (.iload_n 3, 1) := by decide +kernel
theorem dX12_stripes_48 : decode cX12_stripes 48 = .ok (.iadd, 1) := by decide +kernel
theorem dX12_stripes_49 : decode cX12_stripes 49 = .ok (.iaload, 1) := by decide +kernel
theorem dX12_stripes_50 : decode cX12_stripes 50 = .ok (.istore 5, 2) := by decide +kernel
theorem dX12_stripes_52 : decode cX12_stripes 52 = .ok (.iload 5, 2) := by decide +kernel
theorem dX12_stripes_54 : decode cX12_stripes 54 = .ok (.ifCond .ne 7, 3) := by decide +kernel
theorem dX12_stripes_57 : decode cX12_stripes 57 = .ok (.iconst 2, 1) := by decide +kernel
theorem dX12_stripes_58 : decode cX12_stripes 58 = .ok (.goto 15, 3) := by decide +kernel
theorem dX12_stripes_61 : decode cX12_stripes 61 = .ok (.iload 5, 2) := by decide +kernel
theorem dX12_stripes_63 : decode cX12_stripes 63 = .ok (.iload 4, 2) := by decide +kernel
theorem dX12_stripes_65 : decode cX12_stripes 65 = .ok (.if_icmp .ne 7, 3) := by decide +kernel
theorem dX12_stripes_68 : decode cX12_stripes 68 = .ok (.iconst 0, 1) := by decide +kernel
theorem dX12_stripes_69 : decode cX12_stripes 69 = .ok (.goto 4, 3) := by decide +kernel
theorem dX12_stripes_72 : decode cX12_stripes 72 = .ok (.iconst 1, 1) := by decide +kernel
theorem dX12_stripes_73 : decode cX12_stripes 73 = .ok (.istore 6, 2) := by decide +kernel
theorem dX12_stripes_75 : decode cX12_stripes 75 = .ok (.iload_n 2, 1) := by decide +kernel
theorem dX12_stripes_76 : decode cX12_stripes 76 = .ok (.aload_n 0, 1) := by decide +kernel
theorem dX12_stripes_77 : decode cX12_stripes 77 = .ok (.iload_n 3, 1) := by decide +kernel
theorem dX12_stripes_78 : decode cX12_stripes 78 = .ok (.invokevirtual 196, 3) := by decide +kernel
theorem dX12_stripes_81 : decode cX12_stripes 81 = .ok (.ifCond .eq 13, 3) := by decide +kernel
theorem dX12_stripes_84 : decode cX12_stripes 84 = .ok (.iload 6, 2) := by decide +kernel
theorem dX12_stripes_86 : decode cX12_stripes 86 = .ok (.iload_n 1, 1) := by decide +kernel
theorem dX12_stripes_87 : decode cX12_stripes 87 = .ok (.if_icmp .ne 7, 3) := by decide +kernel
theorem dX12_stripes_90 : decode cX12_stripes 90 = .ok (.iconst 1, 1) := by decide +kernel
theorem dX12_stripes_91 : decode cX12_stripes 91 = .ok (.goto 4, 3) := by decide +kernel
theorem dX12_stripes_94 : decode cX12_stripes 94 = .ok (.iconst 0, 1) := by decide +kernel
theorem dX12_stripes_95 : decode cX12_stripes 95 = .ok (.iadd, 1) := by decide +kernel
theorem dX12_stripes_96 : decode cX12_stripes 96 = .ok (.istore_n 2, 1) := by decide +kernel
theorem dX12_stripes_97 : decode cX12_stripes 97 = .ok (.iinc 3 1, 3) := by decide +kernel
theorem dX12_stripes_100 : decode cX12_stripes 100 = .ok (.goto (-78), 3) := by decide +kernel
theorem dX12_stripes_103 : decode cX12_stripes 103 = .ok (.iload_n 2, 1) := by decide +kernel
theorem dX12_stripes_104 : decode cX12_stripes 104 = .ok (.ireturn, 1) := by decide +kernel
theorem dX12_keep_0 : decode cX12_keep 0 = .ok (.aload_n 0, 1) := by decide +kernel
theorem dX12_keep_1 : decode cX12_keep 1 = .ok (.invokevirtual 175, 3) := by decide +kernel
theorem dX12_keep_4 : decode cX12_keep 4 = .ok (.iload_n 1, 1) := by decide +kernel
theorem dX12_keep_5 : decode cX12_keep 5 = .ok (.i2l, 1) := by decide +kernel
theorem dX12_keep_6 : decode cX12_keep 6 = .ok (.lconst 0, 1) := by decide +kernel
theorem dX12_keep_7 : decode cX12_keep 7 = .ok (.lconst 1, 1) := by decide +kernel
theorem dX12_keep_8 : decode cX12_keep 8 = .ok (.invokestatic 94, 3) := by decide +kernel
theorem dX12_keep_11 : decode cX12_keep 11 = .ok (.ifCond .ne 5, 3) := by decide +kernel
theorem dX12_keep_14 : decode cX12_keep 14 = .ok (.iconst (-1), 1) := by decide +kernel
theorem dX12_keep_15 : decode cX12_keep 15 = .ok (.ireturn, 1) := by decide +kernel
theorem dX12_keep_16 : decode cX12_keep 16 = .ok (.iconst 0, 1) := by decide +kernel
theorem dX12_keep_17 : decode cX12_keep 17 = .ok (.istore_n 2, 1) := by decide +kernel
theorem dX12_keep_18 : decode cX12_keep 18 = .ok (.iload_n 2, 1) := by decide +kernel
theorem dX12_keep_19 : decode cX12_keep 19 = .ok (.sipush 200, 3) := by decide +kernel
theorem dX12_keep_22 : decode cX12_keep 22 = .ok (.if_icmp .ge 29, 3) := by decide +kernel
theorem dX12_keep_25 : decode cX12_keep 25 = .ok (.aload_n 0, 1) := by decide +kernel
theorem dX12_keep_26 : decode cX12_keep 26 = .ok (.getfield 40, 3) := by decide +kernel
theorem dX12_keep_29 : decode cX12_keep 29 = .ok (.sipush 200, 3) := by decide +kernel
theorem dX12_keep_32 : decode cX12_keep 32 = .ok (.iload_n 1, 1) := by decide +kernel
theorem dX12_keep_33 : decode cX12_keep 33 = .ok (.iconst 1, 1) := by decide +kernel
theorem dX12_keep_34 : decode cX12_keep 34 = .ok (.iadd, 1) := by decide +kernel
theorem dX12_keep_35 : decode cX12_keep 35 = .ok (.imul, 1) := by decide +kernel
theorem dX12_keep_36 : decode cX12_keep 36 = .ok (.iload_n 2, 1) := by decide +kernel
theorem dX12_keep_37 : decode cX12_keep 37 = .ok (.iadd, 1) := by decide +kernel
theorem dX12_keep_38 : decode cX12_keep 38 = .ok (.aload_n 0, 1) := by decide +kernel
theorem dX12_keep_39 : decode cX12_keep 39 = .ok (.getfield 40, 3) := by decide +kernel
theorem dX12_keep_42 : decode cX12_keep 42 = .ok (.iload_n 2, 1) := by decide +kernel
theorem dX12_keep_43 : decode cX12_keep 43 = .ok (.iaload, 1) := by decide +kernel
theorem dX12_keep_44 : decode cX12_keep 44 = .ok (.iastore, 1) := by decide +kernel
theorem dX12_keep_45 : decode cX12_keep 45 = .ok (.iinc 2 1, 3) := by decide +kernel
theorem dX12_keep_48 : decode cX12_keep 48 = .ok (.goto (-30), 3) := by decide +kernel
theorem dX12_keep_51 : decode cX12_keep 51 = .ok (.aload_n 0, 1) := by decide +kernel
theorem dX12_keep_52 : decode cX12_keep 52 = .ok (.getfield 77, 3) := by decide +kernel
theorem dX12_keep_55 : decode cX12_keep 55 = .ok (.iload_n 1, 1) := by decide +kernel
theorem dX12_keep_56 : decode cX12_keep 56 = .ok (.baload, 1) := by decide +kernel
theorem dX12_keep_57 : decode cX12_keep 57 = .ok (.ifCond .eq 7, 3) := by decide +kernel
theorem dX12_keep_60 : decode cX12_keep 60 = .ok (.iconst 1, 1) := by decide +kernel
theorem dX12_keep_61 : decode cX12_keep 61 = .ok (.goto 4, 3) := by decide +kernel
theorem dX12_keep_64 : decode cX12_keep 64 = .ok (.iconst 0, 1) := by decide +kernel
theorem dX12_keep_65 : decode cX12_keep 65 = .ok (.istore_n 2, 1) := by decide +kernel
theorem dX12_keep_66 : decode cX12_keep 66 = .ok (.aload_n 0, 1) := by decide +kernel
theorem dX12_keep_67 : decode cX12_keep 67 = .ok (.getfield 77, 3) := by decide +kernel
theorem dX12_keep_70 : decode cX12_keep 70 = .ok (.iload_n 1, 1) := by decide +kernel
theorem dX12_keep_71 : decode cX12_keep 71 = .ok (.iconst 1, 1) := by decide +kernel
theorem dX12_keep_72 : decode cX12_keep 72 = .ok (.bastore, 1) := by decide +kernel
theorem dX12_keep_73 : decode cX12_keep 73 = .ok (.iload_n 2, 1) := by decide +kernel
theorem dX12_keep_74 : decode cX12_keep 74 = .ok (.ireturn, 1) := by decide +kernel
theorem dX12_back_0 : decode cX12_back 0 = .ok (.iload_n 1, 1) := by decide +kernel
theorem dX12_back_1 : decode cX12_back 1 = .ok (.i2l, 1) := by decide +kernel
theorem dX12_back_2 : decode cX12_back 2 = .ok (.lconst 0, 1) := by decide +kernel
theorem dX12_back_3 : decode cX12_back 3 = .ok (.lconst 1, 1) := by decide +kernel
theorem dX12_back_4 : decode cX12_back 4 = .ok (.invokestatic 94, 3) := by decide +kernel
theorem dX12_back_7 : decode cX12_back 7 = .ok (.ifCond .ne 5, 3) := by decide +kernel
theorem dX12_back_10 : decode cX12_back 10 = .ok (.iconst (-1), 1) := by decide +kernel
theorem dX12_back_11 : decode cX12_back 11 = .ok (.ireturn, 1) := by decide +kernel
theorem dX12_back_12 : decode cX12_back 12 = .ok (.aload_n 0, 1) := by decide +kernel
theorem dX12_back_13 : decode cX12_back 13 = .ok (.getfield 77, 3) := by decide +kernel
theorem dX12_back_16 : decode cX12_back 16 = .ok (.iload_n 1, 1) := by decide +kernel
theorem dX12_back_17 : decode cX12_back 17 = .ok (.baload, 1) := by decide +kernel
theorem dX12_back_18 : decode cX12_back 18 = .ok (.ifCond .eq 26, 3) := by decide +kernel
theorem dX12_back_21 : decode cX12_back 21 = .ok (.aload_n 0, 1) := by decide +kernel
theorem dX12_back_22 : decode cX12_back 22 = .ok (.getfield 40, 3) := by decide +kernel
theorem dX12_back_25 : decode cX12_back 25 = .ok (.sipush 200, 3) := by decide +kernel
theorem dX12_back_28 : decode cX12_back 28 = .ok (.iload_n 1, 1) := by decide +kernel
theorem dX12_back_29 : decode cX12_back 29 = .ok (.iconst 1, 1) := by decide +kernel
theorem dX12_back_30 : decode cX12_back 30 = .ok (.iadd, 1) := by decide +kernel
theorem dX12_back_31 : decode cX12_back 31 = .ok (.imul, 1) := by decide +kernel
theorem dX12_back_32 : decode cX12_back 32 = .ok (.aload_n 0, 1) := by decide +kernel
theorem dX12_back_33 : decode cX12_back 33 = .ok (.getfield 28, 3) := by decide +kernel
theorem dX12_back_36 : decode cX12_back 36 = .ok (.iconst 0, 1) := by decide +kernel
theorem dX12_back_37 : decode cX12_back 37 = .ok (.iaload, 1) := by decide +kernel
theorem dX12_back_38 : decode cX12_back 38 = .ok (.iadd, 1) := by decide +kernel
theorem dX12_back_39 : decode cX12_back 39 = .ok (.iaload, 1) := by decide +kernel
theorem dX12_back_40 : decode cX12_back 40 = .ok (.iconst 2, 1) := by decide +kernel
theorem dX12_back_41 : decode cX12_back 41 = .ok (.if_icmp .ne 6, 3) := by decide +kernel
theorem dX12_back_44 : decode cX12_back 44 = .ok (.bipush (-2), 2) := by decide +kernel
theorem dX12_back_46 : decode cX12_back 46 = .ok (.ireturn, 1) := by decide +kernel
theorem dX12_back_47 : decode cX12_back 47 = .ok (.aload_n 0, 1) := by decide +kernel
theorem dX12_back_48 : decode cX12_back 48 = .ok (.invokevirtual 175, 3) := by decide +kernel
theorem dX12_back_51 : decode cX12_back 51 = .ok (.iconst 0, 1) := by decide +kernel
theorem dX12_back_52 : decode cX12_back 52 = .ok (.istore_n 2, 1) := by decide +kernel
theorem dX12_back_53 : decode cX12_back 53 = .ok (.iload_n 2, 1) := by decide +kernel
theorem dX12_back_54 : decode cX12_back 54 = .ok (.sipush 200, 3) := by decide +kernel
theorem dX12_back_57 : decode cX12_back 57 = .ok (.if_icmp .ge 52, 3) := by decide +kernel
theorem dX12_back_60 : decode cX12_back 60 = .ok (.aload_n 0, 1) := by decide +kernel
theorem dX12_back_61 : decode cX12_back 61 = .ok (.getfield 40, 3) := by decide +kernel
theorem dX12_back_64 : decode cX12_back 64 = .ok (.iload_n 2, 1) := by decide +kernel
theorem dX12_back_65 : decode cX12_back 65 = .ok (.iload_n 2, 1) := by decide +kernel
theorem dX12_back_66 : decode cX12_back 66 = .ok (.i2l, 1) := by decide +kernel
theorem dX12_back_67 : decode cX12_back 67 = .ok (.ldc2_w 328, 3) := by decide +kernel
theorem dX12_back_70 : decode cX12_back 70 = .ok (.ldc2_w 330, 3) := by decide +kernel
theorem dX12_back_73 : decode cX12_back 73 = .ok (.invokestatic 94, 3) := by decide +kernel
theorem dX12_back_76 : decode cX12_back 76 = .ok (.ifCond .eq 12, 3) := by decide +kernel
theorem dX12_back_79 : decode cX12_back 79 = .ok (.aload_n 0, 1) := by decide +kernel
theorem dX12_back_80 : decode cX12_back 80 = .ok (.getfield 40, 3) := by decide +kernel
theorem dX12_back_83 : decode cX12_back 83 = .ok (.iload_n 2, 1) := by decide +kernel
theorem dX12_back_84 : decode cX12_back 84 = .ok (.iaload, 1) := by decide +kernel
theorem dX12_back_85 : decode cX12_back 85 = .ok (.goto 17, 3) := by decide +kernel
theorem dX12_back_88 : decode cX12_back 88 = .ok (.aload_n 0, 1) := by decide +kernel
theorem dX12_back_89 : decode cX12_back 89 = .ok (.getfield 40, 3) := by decide +kernel
theorem dX12_back_92 : decode cX12_back 92 = .ok (.sipush 200, 3) := by decide +kernel
theorem dX12_back_95 : decode cX12_back 95 = .ok (.iload_n 1, 1) := by decide +kernel
theorem dX12_back_96 : decode cX12_back 96 = .ok (.iconst 1, 1) := by decide +kernel
theorem dX12_back_97 : decode cX12_back 97 = .ok (.iadd, 1) := by decide +kernel
theorem dX12_back_98 : decode cX12_back 98 = .ok (.imul, 1) := by decide +kernel
theorem dX12_back_99 : decode cX12_back 99 = .ok (.iload_n 2, 1) := by decide +kernel
theorem dX12_back_100 : decode cX12_back 100 = .ok (.iadd, 1) := by decide +kernel
theorem dX12_back_101 : decode cX12_back 101 = .ok (.iaload, 1) := by decide +kernel
theorem dX12_back_102 : decode cX12_back 102 = .ok (.iastore, 1) := by decide +kernel
theorem dX12_back_103 : decode cX12_back 103 = .ok (.iinc 2 1, 3) := by decide +kernel
theorem dX12_back_106 : decode cX12_back 106 = .ok (.goto (-53), 3) := by decide +kernel
theorem dX12_back_109 : decode cX12_back 109 = .ok (.aload_n 0, 1) := by decide +kernel
theorem dX12_back_110 : decode cX12_back 110 = .ok (.getfield 40, 3) := by decide +kernel
theorem dX12_back_113 : decode cX12_back 113 = .ok (.sipush 192, 3) := by decide +kernel
theorem dX12_back_116 : decode cX12_back 116 = .ok (.iaload, 1) := by decide +kernel
theorem dX12_back_117 : decode cX12_back 117 = .ok (.ireturn, 1) := by decide +kernel
theorem dX12_sheet_0 : decode cX12_sheet 0 = .ok (.iload_n 1, 1) := by decide +kernel
theorem dX12_sheet_1 : decode cX12_sheet 1 = .ok (.i2l, 1) := by decide +kernel
theorem dX12_sheet_2 : decode cX12_sheet 2 = .ok (.lconst 0, 1) := by decide +kernel
theorem dX12_sheet_3 : decode cX12_sheet 3 = .ok (.ldc2_w 182, 3) := by decide +kernel
theorem dX12_sheet_6 : decode cX12_sheet 6 = .ok (.invokestatic 94, 3) := by decide +kernel
theorem dX12_sheet_9 : decode cX12_sheet 9 = .ok (.ifCond .eq 21, 3) := by decide +kernel
theorem dX12_sheet_12 : decode cX12_sheet 12 = .ok (.iload_n 2, 1) := by decide +kernel
theorem dX12_sheet_13 : decode cX12_sheet 13 = .ok (.i2l, 1) := by decide +kernel
theorem dX12_sheet_14 : decode cX12_sheet 14 = .ok (.lconst 0, 1) := by decide +kernel
theorem dX12_sheet_15 : decode cX12_sheet 15 = .ok (.ldc2_w 268, 3) := by decide +kernel
theorem dX12_sheet_18 : decode cX12_sheet 18 = .ok (.invokestatic 94, 3) := by decide +kernel
theorem dX12_sheet_21 : decode cX12_sheet 21 = .ok (.ifCond .eq 9, 3) := by decide +kernel
theorem dX12_sheet_24 : decode cX12_sheet 24 = .ok (.iload_n 3, 1) := by decide +kernel
theorem dX12_sheet_25 : decode cX12_sheet 25 = .ok (.bipush 48, 2) := by decide +kernel
theorem dX12_sheet_27 : decode cX12_sheet 27 = .ok (.if_icmp .le 5, 3) := by decide +kernel
theorem dX12_sheet_30 : decode cX12_sheet 30 = .ok (.iconst (-1), 1) := by decide +kernel
theorem dX12_sheet_31 : decode cX12_sheet 31 = .ok (.ireturn, 1) := by decide +kernel
theorem dX12_sheet_32 : decode cX12_sheet 32 = .ok (.iload_n 3, 1) := by decide +kernel
theorem dX12_sheet_33 : decode cX12_sheet 33 = .ok (.ifCond .ge 6, 3) := by decide +kernel
theorem dX12_sheet_36 : decode cX12_sheet 36 = .ok (.bipush (-14), 2) := by decide +kernel
theorem dX12_sheet_38 : decode cX12_sheet 38 = .ok (.ireturn, 1) := by decide +kernel
theorem dX12_sheet_39 : decode cX12_sheet 39 = .ok (.aload_n 0, 1) := by decide +kernel
theorem dX12_sheet_40 : decode cX12_sheet 40 = .ok (.getfield 81, 3) := by decide +kernel
theorem dX12_sheet_43 : decode cX12_sheet 43 = .ok (.iload_n 1, 1) := by decide +kernel
theorem dX12_sheet_44 : decode cX12_sheet 44 = .ok (.iload_n 2, 1) := by decide +kernel
theorem dX12_sheet_45 : decode cX12_sheet 45 = .ok (.iastore, 1) := by decide +kernel
theorem dX12_sheet_46 : decode cX12_sheet 46 = .ok (.aload_n 0, 1) := by decide +kernel
theorem dX12_sheet_47 : decode cX12_sheet 47 = .ok (.getfield 84, 3) := by decide +kernel
theorem dX12_sheet_50 : decode cX12_sheet 50 = .ok (.iload_n 1, 1) := by decide +kernel
theorem dX12_sheet_51 : decode cX12_sheet 51 = .ok (.iload_n 3, 1) := by decide +kernel
theorem dX12_sheet_52 : decode cX12_sheet 52 = .ok (.iastore, 1) := by decide +kernel
theorem dX12_sheet_53 : decode cX12_sheet 53 = .ok (.iconst 0, 1) := by decide +kernel
theorem dX12_sheet_54 : decode cX12_sheet 54 = .ok (.istore 4, 2) := by decide +kernel
theorem dX12_sheet_56 : decode cX12_sheet 56 = .ok (.iload 4, 2) := by decide +kernel
theorem dX12_sheet_58 : decode cX12_sheet 58 = .ok (.bipush 48, 2) := by decide +kernel
theorem dX12_sheet_60 : decode cX12_sheet 60 = .ok (.if_icmp .ge 22, 3) := by decide +kernel
theorem dX12_sheet_63 : decode cX12_sheet 63 = .ok (.aload_n 0, 1) := by decide +kernel
theorem dX12_sheet_64 : decode cX12_sheet 64 = .ok (.getfield 87, 3) := by decide +kernel
theorem dX12_sheet_67 : decode cX12_sheet 67 = .ok (.bipush 48, 2) := by decide +kernel
theorem dX12_sheet_69 : decode cX12_sheet 69 = .ok (.iload_n 1, 1) := by decide +kernel
theorem dX12_sheet_70 : decode cX12_sheet 70 = .ok (.imul, 1) := by decide +kernel
theorem dX12_sheet_71 : decode cX12_sheet 71 = .ok (.iload 4, 2) := by decide +kernel
theorem dX12_sheet_73 : decode cX12_sheet 73 = .ok (.iadd, 1) := by decide +kernel
theorem dX12_sheet_74 : decode cX12_sheet 74 = .ok (.iconst 0, 1) := by decide +kernel
theorem dX12_sheet_75 : decode cX12_sheet 75 = .ok (.iastore, 1) := by decide +kernel
theorem dX12_sheet_76 : decode cX12_sheet 76 = .ok (.iinc 4 1, 3) := by decide +kernel
theorem dX12_sheet_79 : decode cX12_sheet 79 = .ok (.goto (-23), 3) := by decide +kernel
theorem dX12_sheet_82 : decode cX12_sheet 82 = .ok (.iconst 1, 1) := by decide +kernel
theorem dX12_sheet_83 : decode cX12_sheet 83 = .ok (.ireturn, 1) := by decide +kernel
theorem dX12_lay_0 : decode cX12_lay 0 = .ok (.iload_n 1, 1) := by decide +kernel
theorem dX12_lay_1 : decode cX12_lay 1 = .ok (.i2l, 1) := by decide +kernel
theorem dX12_lay_2 : decode cX12_lay 2 = .ok (.lconst 0, 1) := by decide +kernel
theorem dX12_lay_3 : decode cX12_lay 3 = .ok (.ldc2_w 182, 3) := by decide +kernel
theorem dX12_lay_6 : decode cX12_lay 6 = .ok (.invokestatic 94, 3) := by decide +kernel
theorem dX12_lay_9 : decode cX12_lay 9 = .ok (.ifCond .ne 5, 3) := by decide +kernel
theorem dX12_lay_12 : decode cX12_lay 12 = .ok (.iconst (-1), 1) := by decide +kernel
theorem dX12_lay_13 : decode cX12_lay 13 = .ok (.ireturn, 1) := by decide +kernel
theorem dX12_lay_14 : decode cX12_lay 14 = .ok (.aload_n 0, 1) := by decide +kernel
theorem dX12_lay_15 : decode cX12_lay 15 = .ok (.getfield 81, 3) := by decide +kernel
theorem dX12_lay_18 : decode cX12_lay 18 = .ok (.iload_n 1, 1) := by decide +kernel
theorem dX12_lay_19 : decode cX12_lay 19 = .ok (.iaload, 1) := by decide +kernel
theorem dX12_lay_20 : decode cX12_lay 20 = .ok (.bipush (-4), 2) := by decide +kernel
theorem dX12_lay_22 : decode cX12_lay 22 = .ok (.if_icmp .ne 6, 3) := by decide +kernel
theorem dX12_lay_25 : decode cX12_lay 25 = .ok (.bipush (-11), 2) := by decide +kernel
theorem dX12_lay_27 : decode cX12_lay 27 = .ok (.ireturn, 1) := by decide +kernel
theorem dX12_lay_28 : decode cX12_lay 28 = .ok (.iload_n 2, 1) := by decide +kernel
theorem dX12_lay_29 : decode cX12_lay 29 = .ok (.i2l, 1) := by decide +kernel
theorem dX12_lay_30 : decode cX12_lay 30 = .ok (.lconst 0, 1) := by decide +kernel
theorem dX12_lay_31 : decode cX12_lay 31 = .ok (.aload_n 0, 1) := by decide +kernel
theorem dX12_lay_32 : decode cX12_lay 32 = .ok (.getfield 84, 3) := by decide +kernel
theorem dX12_lay_35 : decode cX12_lay 35 = .ok (.iload_n 1, 1) := by decide +kernel
theorem dX12_lay_36 : decode cX12_lay 36 = .ok (.iaload, 1) := by decide +kernel
theorem dX12_lay_37 : decode cX12_lay 37 = .ok (.iconst 1, 1) := by decide +kernel
theorem dX12_lay_38 : decode cX12_lay 38 = .ok (.isub, 1) := by decide +kernel
theorem dX12_lay_39 : decode cX12_lay 39 = .ok (.i2l, 1) := by decide +kernel
theorem dX12_lay_40 : decode cX12_lay 40 = .ok (.invokestatic 94, 3) := by decide +kernel
theorem dX12_lay_43 : decode cX12_lay 43 = .ok (.ifCond .ne 6, 3) := by decide +kernel
theorem dX12_lay_46 : decode cX12_lay 46 = .ok (.bipush (-12), 2) := by decide +kernel
theorem dX12_lay_48 : decode cX12_lay 48 = .ok (.ireturn, 1) := by decide +kernel
theorem dX12_lay_49 : decode cX12_lay 49 = .ok (.aload_n 0, 1) := by decide +kernel
theorem dX12_lay_50 : decode cX12_lay 50 = .ok (.getfield 87, 3) := by decide +kernel
theorem dX12_lay_53 : decode cX12_lay 53 = .ok (.bipush 48, 2) := by decide +kernel
theorem dX12_lay_55 : decode cX12_lay 55 = .ok (.iload_n 1, 1) := by decide +kernel
theorem dX12_lay_56 : decode cX12_lay 56 = .ok (.imul, 1) := by decide +kernel
theorem dX12_lay_57 : decode cX12_lay 57 = .ok (.iload_n 2, 1) := by decide +kernel
theorem dX12_lay_58 : decode cX12_lay 58 = .ok (.iadd, 1) := by decide +kernel
theorem dX12_lay_59 : decode cX12_lay 59 = .ok (.aload_n 0, 1) := by decide +kernel
theorem dX12_lay_60 : decode cX12_lay 60 = .ok (.getfield 81, 3) := by decide +kernel
theorem dX12_lay_63 : decode cX12_lay 63 = .ok (.iload_n 1, 1) := by decide +kernel
theorem dX12_lay_64 : decode cX12_lay 64 = .ok (.iaload, 1) := by decide +kernel
theorem dX12_lay_65 : decode cX12_lay 65 = .ok (.ifCond .ne 13, 3) := by decide +kernel
theorem dX12_lay_68 : decode cX12_lay 68 = .ok (.iload_n 3, 1) := by decide +kernel
theorem dX12_lay_69 : decode cX12_lay 69 = .ok (.bipush 24, 2) := by decide +kernel
theorem dX12_lay_71 : decode cX12_lay 71 = .ok (.ishl, 1) := by decide +kernel
theorem dX12_lay_72 : decode cX12_lay 72 = .ok (.bipush 24, 2) := by decide +kernel
theorem dX12_lay_74 : decode cX12_lay 74 = .ok (.ishr, 1) := by decide +kernel
theorem dX12_lay_75 : decode cX12_lay 75 = .ok (.goto 24, 3) := by decide +kernel
theorem dX12_lay_78 : decode cX12_lay 78 = .ok (.aload_n 0, 1) := by decide +kernel
theorem dX12_lay_79 : decode cX12_lay 79 = .ok (.getfield 81, 3) := by decide +kernel
theorem dX12_lay_82 : decode cX12_lay 82 = .ok (.iload_n 1, 1) := by decide +kernel
theorem dX12_lay_83 : decode cX12_lay 83 = .ok (.iaload, 1) := by decide +kernel
theorem dX12_lay_84 : decode cX12_lay 84 = .ok (.iconst 1, 1) := by decide +kernel
theorem dX12_lay_85 : decode cX12_lay 85 = .ok (.if_icmp .ne 13, 3) := by decide +kernel
theorem dX12_lay_88 : decode cX12_lay 88 = .ok (.iload_n 3, 1) := by decide +kernel
theorem dX12_lay_89 : decode cX12_lay 89 = .ok (.bipush 16, 2) := by decide +kernel
theorem dX12_lay_91 : decode cX12_lay 91 = .ok (.ishl, 1) := by decide +kernel
theorem dX12_lay_92 : decode cX12_lay 92 = .ok (.bipush 16, 2) := by decide +kernel
theorem dX12_lay_94 : decode cX12_lay 94 = .ok (.ishr, 1) := by decide +kernel
theorem dX12_lay_95 : decode cX12_lay 95 = .ok (.goto 4, 3) := by decide +kernel
theorem dX12_lay_98 : decode cX12_lay 98 = .ok (.iload_n 3, 1) := by decide +kernel
theorem dX12_lay_99 : decode cX12_lay 99 = .ok (.iastore, 1) := by decide +kernel
theorem dX12_lay_100 : decode cX12_lay 100 = .ok (.iconst 1, 1) := by decide +kernel
theorem dX12_lay_101 : decode cX12_lay 101 = .ok (.ireturn, 1) := by decide +kernel
theorem dX12_read_0 : decode cX12_read 0 = .ok (.iload_n 1, 1) := by decide +kernel
theorem dX12_read_1 : decode cX12_read 1 = .ok (.i2l, 1) := by decide +kernel
theorem dX12_read_2 : decode cX12_read 2 = .ok (.lconst 0, 1) := by decide +kernel
theorem dX12_read_3 : decode cX12_read 3 = .ok (.ldc2_w 182, 3) := by decide +kernel
theorem dX12_read_6 : decode cX12_read 6 = .ok (.invokestatic 94, 3) := by decide +kernel
theorem dX12_read_9 : decode cX12_read 9 = .ok (.ifCond .eq 28, 3) := by decide +kernel
theorem dX12_read_12 : decode cX12_read 12 = .ok (.iload_n 2, 1) := by decide +kernel
theorem dX12_read_13 : decode cX12_read 13 = .ok (.i2l, 1) := by decide +kernel
theorem dX12_read_14 : decode cX12_read 14 = .ok (.lconst 0, 1) := by decide +kernel
theorem dX12_read_15 : decode cX12_read 15 = .ok (.ldc2_w 268, 3) := by decide +kernel
theorem dX12_read_18 : decode cX12_read 18 = .ok (.invokestatic 94, 3) := by decide +kernel
theorem dX12_read_21 : decode cX12_read 21 = .ok (.ifCond .eq 16, 3) := by decide +kernel
theorem dX12_read_24 : decode cX12_read 24 = .ok (.iload 4, 2) := by decide +kernel
theorem dX12_read_26 : decode cX12_read 26 = .ok (.i2l, 1) := by decide +kernel
theorem dX12_read_27 : decode cX12_read 27 = .ok (.lconst 0, 1) := by decide +kernel
theorem dX12_read_28 : decode cX12_read 28 = .ok (.ldc2_w 332, 3) := by decide +kernel
theorem dX12_read_31 : decode cX12_read 31 = .ok (.invokestatic 94, 3) := by decide +kernel
theorem dX12_read_34 : decode cX12_read 34 = .ok (.ifCond .ne 5, 3) := by decide +kernel
theorem dX12_read_37 : decode cX12_read 37 = .ok (.iconst (-1), 1) := by decide +kernel
theorem dX12_read_38 : decode cX12_read 38 = .ok (.ireturn, 1) := by decide +kernel
theorem dX12_read_39 : decode cX12_read 39 = .ok (.iconst 0, 1) := by decide +kernel
theorem dX12_read_40 : decode cX12_read 40 = .ok (.istore 5, 2) := by decide +kernel
theorem dX12_read_42 : decode cX12_read 42 = .ok (.iconst 0, 1) := by decide +kernel
theorem dX12_read_43 : decode cX12_read 43 = .ok (.istore 6, 2) := by decide +kernel
theorem dX12_read_45 : decode cX12_read 45 = .ok (.iconst 0, 1) := by decide +kernel
theorem dX12_read_46 : decode cX12_read 46 = .ok (.istore 7, 2) := by decide +kernel
theorem dX12_read_48 : decode cX12_read 48 = .ok (.iload 7, 2) := by decide +kernel
theorem dX12_read_50 : decode cX12_read 50 = .ok (.iconst 2, 1) := by decide +kernel
theorem dX12_read_51 : decode cX12_read 51 = .ok (.iload 4, 2) := by decide +kernel
theorem dX12_read_53 : decode cX12_read 53 = .ok (.imul, 1) := by decide +kernel
theorem dX12_read_54 : decode cX12_read 54 = .ok (.if_icmp .ge 148, 3) := by decide +kernel
theorem dX12_read_57 : decode cX12_read 57 = .ok (.iload 5, 2) := by decide +kernel
theorem dX12_read_59 : decode cX12_read 59 = .ok (.ifCond .ne 143, 3) := by decide +kernel
theorem dX12_read_62 : decode cX12_read 62 = .ok (.aload_n 0, 1) := by decide +kernel
theorem dX12_read_63 : decode cX12_read 63 = .ok (.getfield 81, 3) := by decide +kernel
theorem dX12_read_66 : decode cX12_read 66 = .ok (.iload_n 1, 1) := by decide +kernel
theorem dX12_read_67 : decode cX12_read 67 = .ok (.iaload, 1) := by decide +kernel
theorem dX12_read_68 : decode cX12_read 68 = .ok (.bipush (-4), 2) := by decide +kernel
theorem dX12_read_70 : decode cX12_read 70 = .ok (.if_icmp .ne 7, 3) := by decide +kernel
theorem dX12_read_73 : decode cX12_read 73 = .ok (.iconst 1, 1) := by decide +kernel
theorem dX12_read_74 : decode cX12_read 74 = .ok (.goto 44, 3) := by decide +kernel
theorem dX12_read_77 : decode cX12_read 77 = .ok (.aload_n 0, 1) := by decide +kernel
theorem dX12_read_78 : decode cX12_read 78 = .ok (.getfield 81, 3) := by decide +kernel
theorem dX12_read_81 : decode cX12_read 81 = .ok (.iload_n 1, 1) := by decide +kernel
theorem dX12_read_82 : decode cX12_read 82 = .ok (.iaload, 1) := by decide +kernel
theorem dX12_read_83 : decode cX12_read 83 = .ok (.iload_n 2, 1) := by decide +kernel
theorem dX12_read_84 : decode cX12_read 84 = .ok (.if_icmp .eq 7, 3) := by decide +kernel
theorem dX12_read_87 : decode cX12_read 87 = .ok (.iconst 3, 1) := by decide +kernel
theorem dX12_read_88 : decode cX12_read 88 = .ok (.goto 30, 3) := by decide +kernel
theorem dX12_read_91 : decode cX12_read 91 = .ok (.iload_n 3, 1) := by decide +kernel
theorem dX12_read_92 : decode cX12_read 92 = .ok (.i2l, 1) := by decide +kernel
theorem dX12_read_93 : decode cX12_read 93 = .ok (.iload 7, 2) := by decide +kernel
theorem dX12_read_95 : decode cX12_read 95 = .ok (.i2l, 1) := by decide +kernel
theorem dX12_read_96 : decode cX12_read 96 = .ok (.ladd, 1) := by decide +kernel
theorem dX12_read_97 : decode cX12_read 97 = .ok (.lconst 0, 1) := by decide +kernel
theorem dX12_read_98 : decode cX12_read 98 = .ok (.aload_n 0, 1) := by decide +kernel
theorem dX12_read_99 : decode cX12_read 99 = .ok (.getfield 84, 3) := by decide +kernel
theorem dX12_read_102 : decode cX12_read 102 = .ok (.iload_n 1, 1) := by decide +kernel
theorem dX12_read_103 : decode cX12_read 103 = .ok (.iaload, 1) := by decide +kernel
theorem dX12_read_104 : decode cX12_read 104 = .ok (.iconst 1, 1) := by decide +kernel
theorem dX12_read_105 : decode cX12_read 105 = .ok (.isub, 1) := by decide +kernel
theorem dX12_read_106 : decode cX12_read 106 = .ok (.i2l, 1) := by decide +kernel
theorem dX12_read_107 : decode cX12_read 107 = .ok (.invokestatic 94, 3) := by decide +kernel
theorem dX12_read_110 : decode cX12_read 110 = .ok (.ifCond .ne 7, 3) := by decide +kernel
theorem dX12_read_113 : decode cX12_read 113 = .ok (.iconst 2, 1) := by decide +kernel
theorem dX12_read_114 : decode cX12_read 114 = .ok (.goto 4, 3) := by decide +kernel
theorem dX12_read_117 : decode cX12_read 117 = .ok (.iconst 0, 1) := by decide +kernel
theorem dX12_read_118 : decode cX12_read 118 = .ok (.istore 5, 2) := by decide +kernel
theorem dX12_read_120 : decode cX12_read 120 = .ok (.iload 5, 2) := by decide +kernel
theorem dX12_read_122 : decode cX12_read 122 = .ok (.ifCond .ne 74, 3) := by decide +kernel
theorem dX12_read_125 : decode cX12_read 125 = .ok (.iload 7, 2) := by decide +kernel
theorem dX12_read_127 : decode cX12_read 127 = .ok (.iconst 2, 1) := by decide +kernel
theorem dX12_read_128 : decode cX12_read 128 = .ok (.irem, 1) := by decide +kernel
theorem dX12_read_129 : decode cX12_read 129 = .ok (.iconst 1, 1) := by decide +kernel
theorem dX12_read_130 : decode cX12_read 130 = .ok (.if_icmp .ne 66, 3) := by decide +kernel
theorem dX12_read_133 : decode cX12_read 133 = .ok (.bipush 48, 2) := by decide +kernel
theorem dX12_read_135 : decode cX12_read 135 = .ok (.iload_n 1, 1) := by decide +kernel
theorem dX12_read_136 : decode cX12_read 136 = .ok (.imul, 1) := by decide +kernel
theorem dX12_read_137 : decode cX12_read 137 = .ok (.iload_n 3, 1) := by decide +kernel
theorem dX12_read_138 : decode cX12_read 138 = .ok (.iadd, 1) := by decide +kernel
theorem dX12_read_139 : decode cX12_read 139 = .ok (.iload 7, 2) := by decide +kernel
theorem dX12_read_141 : decode cX12_read 141 = .ok (.iadd, 1) := by decide +kernel
theorem dX12_read_142 : decode cX12_read 142 = .ok (.iconst 1, 1) := by decide +kernel
theorem dX12_read_143 : decode cX12_read 143 = .ok (.isub, 1) := by decide +kernel
theorem dX12_read_144 : decode cX12_read 144 = .ok (.istore 8, 2) := by decide +kernel
theorem dX12_read_146 : decode cX12_read 146 = .ok (.aload_n 0, 1) := by decide +kernel
theorem dX12_read_147 : decode cX12_read 147 = .ok (.getfield 87, 3) := by decide +kernel
theorem dX12_read_150 : decode cX12_read 150 = .ok (.iload 8, 2) := by decide +kernel
theorem dX12_read_152 : decode cX12_read 152 = .ok (.iaload, 1) := by decide +kernel
theorem dX12_read_153 : decode cX12_read 153 = .ok (.aload_n 0, 1) := by decide +kernel
theorem dX12_read_154 : decode cX12_read 154 = .ok (.getfield 87, 3) := by decide +kernel
theorem dX12_read_157 : decode cX12_read 157 = .ok (.iload 8, 2) := by decide +kernel
theorem dX12_read_159 : decode cX12_read 159 = .ok (.iconst 1, 1) := by decide +kernel
theorem dX12_read_160 : decode cX12_read 160 = .ok (.iadd, 1) := by decide +kernel
theorem dX12_read_161 : decode cX12_read 161 = .ok (.iaload, 1) := by decide +kernel
theorem dX12_read_162 : decode cX12_read 162 = .ok (.invokestatic 188, 3) := by decide +kernel
theorem dX12_read_165 : decode cX12_read 165 = .ok (.ifCond .ne 9, 3) := by decide +kernel
theorem dX12_read_168 : decode cX12_read 168 = .ok (.bipush (-20), 2) := by decide +kernel
theorem dX12_read_170 : decode cX12_read 170 = .ok (.iload 6, 2) := by decide +kernel
theorem dX12_read_172 : decode cX12_read 172 = .ok (.isub, 1) := by decide +kernel
theorem dX12_read_173 : decode cX12_read 173 = .ok (.ireturn, 1) := by decide +kernel
theorem dX12_read_174 : decode cX12_read 174 = .ok (.aload_n 0, 1) := by decide +kernel
theorem dX12_read_175 : decode cX12_read 175 = .ok (.getfield 40, 3) := by decide +kernel
theorem dX12_read_178 : decode cX12_read 178 = .ok (.sipush 192, 3) := by decide +kernel
theorem dX12_read_181 : decode cX12_read 181 = .ok (.iaload, 1) := by decide +kernel
theorem dX12_read_182 : decode cX12_read 182 = .ok (.iload 6, 2) := by decide +kernel
theorem dX12_read_184 : decode cX12_read 184 = .ok (.iadd, 1) := by decide +kernel
theorem dX12_read_185 : decode cX12_read 185 = .ok (.bipush 24, 2) := by decide +kernel
theorem dX12_read_187 : decode cX12_read 187 = .ok (.if_icmp .ne 6, 3) := by decide +kernel
theorem dX12_read_190 : decode cX12_read 190 = .ok (.bipush (-3), 2) := by decide +kernel
theorem dX12_read_192 : decode cX12_read 192 = .ok (.ireturn, 1) := by decide +kernel
theorem dX12_read_193 : decode cX12_read 193 = .ok (.iinc 6 1, 3) := by decide +kernel
theorem dX12_read_196 : decode cX12_read 196 = .ok (.iinc 7 1, 3) := by decide +kernel
theorem dX12_read_199 : decode cX12_read 199 = .ok (.goto (-151), 3) := by decide +kernel
theorem dX12_read_202 : decode cX12_read 202 = .ok (.iconst 0, 1) := by decide +kernel
theorem dX12_read_203 : decode cX12_read 203 = .ok (.istore 7, 2) := by decide +kernel
theorem dX12_read_205 : decode cX12_read 205 = .ok (.iload 7, 2) := by decide +kernel
theorem dX12_read_207 : decode cX12_read 207 = .ok (.iload 6, 2) := by decide +kernel
theorem dX12_read_209 : decode cX12_read 209 = .ok (.if_icmp .ge 47, 3) := by decide +kernel
theorem dX12_read_212 : decode cX12_read 212 = .ok (.aload_n 0, 1) := by decide +kernel
theorem dX12_read_213 : decode cX12_read 213 = .ok (.aload_n 0, 1) := by decide +kernel
theorem dX12_read_214 : decode cX12_read 214 = .ok (.getfield 87, 3) := by decide +kernel
theorem dX12_read_217 : decode cX12_read 217 = .ok (.bipush 48, 2) := by decide +kernel
theorem dX12_read_219 : decode cX12_read 219 = .ok (.iload_n 1, 1) := by decide +kernel
theorem dX12_read_220 : decode cX12_read 220 = .ok (.imul, 1) := by decide +kernel
theorem dX12_read_221 : decode cX12_read 221 = .ok (.iload_n 3, 1) := by decide +kernel
theorem dX12_read_222 : decode cX12_read 222 = .ok (.iadd, 1) := by decide +kernel
theorem dX12_read_223 : decode cX12_read 223 = .ok (.iconst 2, 1) := by decide +kernel
theorem dX12_read_224 : decode cX12_read 224 = .ok (.iload 7, 2) := by decide +kernel
theorem dX12_read_226 : decode cX12_read 226 = .ok (.imul, 1) := by decide +kernel
theorem dX12_read_227 : decode cX12_read 227 = .ok (.iadd, 1) := by decide +kernel
theorem dX12_read_228 : decode cX12_read 228 = .ok (.iaload, 1) := by decide +kernel
theorem dX12_read_229 : decode cX12_read 229 = .ok (.aload_n 0, 1) := by decide +kernel
theorem dX12_read_230 : decode cX12_read 230 = .ok (.getfield 87, 3) := by decide +kernel
theorem dX12_read_233 : decode cX12_read 233 = .ok (.bipush 48, 2) := by decide +kernel
theorem dX12_read_235 : decode cX12_read 235 = .ok (.iload_n 1, 1) := by decide +kernel
theorem dX12_read_236 : decode cX12_read 236 = .ok (.imul, 1) := by decide +kernel
theorem dX12_read_237 : decode cX12_read 237 = .ok (.iload_n 3, 1) := by decide +kernel
theorem dX12_read_238 : decode cX12_read 238 = .ok (.iadd, 1) := by decide +kernel
theorem dX12_read_239 : decode cX12_read 239 = .ok (.iconst 2, 1) := by decide +kernel
theorem dX12_read_240 : decode cX12_read 240 = .ok (.iload 7, 2) := by decide +kernel
theorem dX12_read_242 : decode cX12_read 242 = .ok (.imul, 1) := by decide +kernel
theorem dX12_read_243 : decode cX12_read 243 = .ok (.iadd, 1) := by decide +kernel
theorem dX12_read_244 : decode cX12_read 244 = .ok (.iconst 1, 1) := by decide +kernel
theorem dX12_read_245 : decode cX12_read 245 = .ok (.iadd, 1) := by decide +kernel
theorem dX12_read_246 : decode cX12_read 246 = .ok (.iaload, 1) := by decide +kernel
theorem dX12_read_247 : decode cX12_read 247 = .ok (.invokevirtual 192, 3) := by decide +kernel
theorem dX12_read_250 : decode cX12_read 250 = .ok (.iinc 7 1, 3) := by decide +kernel
theorem dX12_read_253 : decode cX12_read 253 = .ok (.goto (-48), 3) := by decide +kernel
theorem dX12_read_256 : decode cX12_read 256 = .ok (.aload_n 0, 1) := by decide +kernel
theorem dX12_read_257 : decode cX12_read 257 = .ok (.iload 5, 2) := by decide +kernel
theorem dX12_read_259 : decode cX12_read 259 = .ok (.putfield 334, 3) := by decide +kernel
theorem dX12_read_262 : decode cX12_read 262 = .ok (.iload 6, 2) := by decide +kernel
theorem dX12_read_264 : decode cX12_read 264 = .ok (.ireturn, 1) := by decide +kernel
theorem dX12_torn_0 : decode cX12_torn 0 = .ok (.aload_n 0, 1) := by decide +kernel
theorem dX12_torn_1 : decode cX12_torn 1 = .ok (.getfield 334, 3) := by decide +kernel
theorem dX12_torn_4 : decode cX12_torn 4 = .ok (.ireturn, 1) := by decide +kernel
theorem dX12_count_0 : decode cX12_count 0 = .ok (.aload_n 0, 1) := by decide +kernel
theorem dX12_count_1 : decode cX12_count 1 = .ok (.invokevirtual 175, 3) := by decide +kernel
theorem dX12_count_4 : decode cX12_count 4 = .ok (.iconst 0, 1) := by decide +kernel
theorem dX12_count_5 : decode cX12_count 5 = .ok (.istore_n 2, 1) := by decide +kernel
theorem dX12_count_6 : decode cX12_count 6 = .ok (.iconst 0, 1) := by decide +kernel
theorem dX12_count_7 : decode cX12_count 7 = .ok (.istore_n 3, 1) := by decide +kernel
theorem dX12_count_8 : decode cX12_count 8 = .ok (.iconst 0, 1) := by decide +kernel
theorem dX12_count_9 : decode cX12_count 9 = .ok (.istore 4, 2) := by decide +kernel
theorem dX12_count_11 : decode cX12_count 11 = .ok (.iload 4, 2) := by decide +kernel
theorem dX12_count_13 : decode cX12_count 13 = .ok (.bipush 36, 2) := by decide +kernel
theorem dX12_count_15 : decode cX12_count 15 = .ok (.if_icmp .ge 41, 3) := by decide +kernel
theorem dX12_count_18 : decode cX12_count 18 = .ok (.iload_n 2, 1) := by decide +kernel
theorem dX12_count_19 : decode cX12_count 19 = .ok (.aload_n 0, 1) := by decide +kernel
theorem dX12_count_20 : decode cX12_count 20 = .ok (.getfield 40, 3) := by decide +kernel
theorem dX12_count_23 : decode cX12_count 23 = .ok (.iload 4, 2) := by decide +kernel
theorem dX12_count_25 : decode cX12_count 25 = .ok (.iaload, 1) := by decide +kernel
theorem dX12_count_26 : decode cX12_count 26 = .ok (.iconst 2, 1) := by decide +kernel
theorem dX12_count_27 : decode cX12_count 27 = .ok (.if_icmp .ne 7, 3) := by decide +kernel
theorem dX12_count_30 : decode cX12_count 30 = .ok (.iconst 1, 1) := by decide +kernel
theorem dX12_count_31 : decode cX12_count 31 = .ok (.goto 4, 3) := by decide +kernel
theorem dX12_count_34 : decode cX12_count 34 = .ok (.iconst 0, 1) := by decide +kernel
theorem dX12_count_35 : decode cX12_count 35 = .ok (.iadd, 1) := by decide +kernel
theorem dX12_count_36 : decode cX12_count 36 = .ok (.istore_n 2, 1) := by decide +kernel
theorem dX12_count_37 : decode cX12_count 37 = .ok (.iload_n 3, 1) := by decide +kernel
theorem dX12_count_38 : decode cX12_count 38 = .ok (.aload_n 0, 1) := by decide +kernel
theorem dX12_count_39 : decode cX12_count 39 = .ok (.getfield 40, 3) := by decide +kernel
theorem dX12_count_42 : decode cX12_count 42 = .ok (.bipush 36, 2) := by decide +kernel
theorem dX12_count_44 : decode cX12_count 44 = .ok (.iload 4, 2) := by decide +kernel
theorem dX12_count_46 : decode cX12_count 46 = .ok (.iadd, 1) := by decide +kernel
theorem dX12_count_47 : decode cX12_count 47 = .ok (.iaload, 1) := by decide +kernel
theorem dX12_count_48 : decode cX12_count 48 = .ok (.iadd, 1) := by decide +kernel
theorem dX12_count_49 : decode cX12_count 49 = .ok (.istore_n 3, 1) := by decide +kernel
theorem dX12_count_50 : decode cX12_count 50 = .ok (.iinc 4 1, 3) := by decide +kernel
theorem dX12_count_53 : decode cX12_count 53 = .ok (.goto (-42), 3) := by decide +kernel
theorem dX12_count_56 : decode cX12_count 56 = .ok (.iload_n 1, 1) := by decide +kernel
theorem dX12_count_57 : decode cX12_count 57 = .ok (.tableswitch 119 0 6 #[43, 48, 50, 59, 89, 94, 117], 43) := by decide +kernel
theorem dX12_count_100 : decode cX12_count 100 = .ok (.aload_n 0, 1) := by decide +kernel
theorem dX12_count_101 : decode cX12_count 101 = .ok (.invokevirtual 262, 3) := by decide +kernel
theorem dX12_count_104 : decode cX12_count 104 = .ok (.ireturn, 1) := by decide +kernel
theorem dX12_count_105 : decode cX12_count 105 = .ok (.iload_n 2, 1) := by decide +kernel
theorem dX12_count_106 : decode cX12_count 106 = .ok (.ireturn, 1) := by decide +kernel
theorem dX12_count_107 : decode cX12_count 107 = .ok (.aload_n 0, 1) := by decide +kernel
theorem dX12_count_108 : decode cX12_count 108 = .ok (.getfield 40, 3) := by decide +kernel
theorem dX12_count_111 : decode cX12_count 111 = .ok (.sipush 192, 3) := by decide +kernel
theorem dX12_count_114 : decode cX12_count 114 = .ok (.iaload, 1) := by decide +kernel
theorem dX12_count_115 : decode cX12_count 115 = .ok (.ireturn, 1) := by decide +kernel
theorem dX12_count_116 : decode cX12_count 116 = .ok (.aload_n 0, 1) := by decide +kernel
theorem dX12_count_117 : decode cX12_count 117 = .ok (.getfield 77, 3) := by decide +kernel
theorem dX12_count_120 : decode cX12_count 120 = .ok (.iconst 0, 1) := by decide +kernel
theorem dX12_count_121 : decode cX12_count 121 = .ok (.baload, 1) := by decide +kernel
theorem dX12_count_122 : decode cX12_count 122 = .ok (.ifCond .eq 7, 3) := by decide +kernel
theorem dX12_count_125 : decode cX12_count 125 = .ok (.iconst 1, 1) := by decide +kernel
theorem dX12_count_126 : decode cX12_count 126 = .ok (.goto 4, 3) := by decide +kernel
theorem dX12_count_129 : decode cX12_count 129 = .ok (.iconst 0, 1) := by decide +kernel
theorem dX12_count_130 : decode cX12_count 130 = .ok (.aload_n 0, 1) := by decide +kernel
theorem dX12_count_131 : decode cX12_count 131 = .ok (.getfield 77, 3) := by decide +kernel
theorem dX12_count_134 : decode cX12_count 134 = .ok (.iconst 1, 1) := by decide +kernel
theorem dX12_count_135 : decode cX12_count 135 = .ok (.baload, 1) := by decide +kernel
theorem dX12_count_136 : decode cX12_count 136 = .ok (.ifCond .eq 7, 3) := by decide +kernel
theorem dX12_count_139 : decode cX12_count 139 = .ok (.iconst 1, 1) := by decide +kernel
theorem dX12_count_140 : decode cX12_count 140 = .ok (.goto 4, 3) := by decide +kernel
theorem dX12_count_143 : decode cX12_count 143 = .ok (.iconst 0, 1) := by decide +kernel
theorem dX12_count_144 : decode cX12_count 144 = .ok (.iadd, 1) := by decide +kernel
theorem dX12_count_145 : decode cX12_count 145 = .ok (.ireturn, 1) := by decide +kernel
theorem dX12_count_146 : decode cX12_count 146 = .ok (.aload_n 0, 1) := by decide +kernel
theorem dX12_count_147 : decode cX12_count 147 = .ok (.getfield 90, 3) := by decide +kernel
theorem dX12_count_150 : decode cX12_count 150 = .ok (.ireturn, 1) := by decide +kernel
theorem dX12_count_151 : decode cX12_count 151 = .ok (.aload_n 0, 1) := by decide +kernel
theorem dX12_count_152 : decode cX12_count 152 = .ok (.getfield 81, 3) := by decide +kernel
theorem dX12_count_155 : decode cX12_count 155 = .ok (.iconst 0, 1) := by decide +kernel
theorem dX12_count_156 : decode cX12_count 156 = .ok (.iaload, 1) := by decide +kernel
theorem dX12_count_157 : decode cX12_count 157 = .ok (.bipush (-4), 2) := by decide +kernel
theorem dX12_count_159 : decode cX12_count 159 = .ok (.if_icmp .ne 8, 3) := by decide +kernel
theorem dX12_count_162 : decode cX12_count 162 = .ok (.bipush (-4), 2) := by decide +kernel
theorem dX12_count_164 : decode cX12_count 164 = .ok (.goto 9, 3) := by decide +kernel
theorem dX12_count_167 : decode cX12_count 167 = .ok (.aload_n 0, 1) := by decide +kernel
theorem dX12_count_168 : decode cX12_count 168 = .ok (.getfield 84, 3) := by decide +kernel
theorem dX12_count_171 : decode cX12_count 171 = .ok (.iconst 0, 1) := by decide +kernel
theorem dX12_count_172 : decode cX12_count 172 = .ok (.iaload, 1) := by decide +kernel
theorem dX12_count_173 : decode cX12_count 173 = .ok (.ireturn, 1) := by decide +kernel
theorem dX12_count_174 : decode cX12_count 174 = .ok (.iload_n 3, 1) := by decide +kernel
theorem dX12_count_175 : decode cX12_count 175 = .ok (.ireturn, 1) := by decide +kernel
theorem dX12_count_176 : decode cX12_count 176 = .ok (.iconst (-1), 1) := by decide +kernel
theorem dX12_count_177 : decode cX12_count 177 = .ok (.ireturn, 1) := by decide +kernel
theorem dJ11_isValidCodePoint_9a6ad_0 : decode cJ11_isValidCodePoint_9a6ad 0 = .ok (.iload_n 0, 1) := by decide +kernel
theorem dJ11_isValidCodePoint_9a6ad_1 : decode cJ11_isValidCodePoint_9a6ad 1 = .ok (.bipush 16, 2) := by decide +kernel
theorem dJ11_isValidCodePoint_9a6ad_3 : decode cJ11_isValidCodePoint_9a6ad 3 = .ok (.iushr, 1) := by decide +kernel
theorem dJ11_isValidCodePoint_9a6ad_4 : decode cJ11_isValidCodePoint_9a6ad 4 = .ok (.istore_n 1, 1) := by decide +kernel
theorem dJ11_isValidCodePoint_9a6ad_5 : decode cJ11_isValidCodePoint_9a6ad 5 = .ok (.iload_n 1, 1) := by decide +kernel
theorem dJ11_isValidCodePoint_9a6ad_6 : decode cJ11_isValidCodePoint_9a6ad 6 = .ok (.bipush 17, 2) := by decide +kernel
theorem dJ11_isValidCodePoint_9a6ad_8 : decode cJ11_isValidCodePoint_9a6ad 8 = .ok (.if_icmp .ge 7, 3) := by decide +kernel
theorem dJ11_isValidCodePoint_9a6ad_11 : decode cJ11_isValidCodePoint_9a6ad 11 = .ok (.iconst 1, 1) := by decide +kernel
theorem dJ11_isValidCodePoint_9a6ad_12 : decode cJ11_isValidCodePoint_9a6ad 12 = .ok (.goto 4, 3) := by decide +kernel
theorem dJ11_isValidCodePoint_9a6ad_15 : decode cJ11_isValidCodePoint_9a6ad 15 = .ok (.iconst 0, 1) := by decide +kernel
theorem dJ11_isValidCodePoint_9a6ad_16 : decode cJ11_isValidCodePoint_9a6ad 16 = .ok (.ireturn, 1) := by decide +kernel
theorem dJ11_highSurrogate_5068e_0 : decode cJ11_highSurrogate_5068e 0 = .ok (.iload_n 0, 1) := by decide +kernel
theorem dJ11_highSurrogate_5068e_1 : decode cJ11_highSurrogate_5068e 1 = .ok (.bipush 10, 2) := by decide +kernel
theorem dJ11_highSurrogate_5068e_3 : decode cJ11_highSurrogate_5068e 3 = .ok (.iushr, 1) := by decide +kernel
theorem dJ11_highSurrogate_5068e_4 : decode cJ11_highSurrogate_5068e 4 = .ok (.ldc 110, 2) := by decide +kernel
theorem dJ11_highSurrogate_5068e_6 : decode cJ11_highSurrogate_5068e 6 = .ok (.iadd, 1) := by decide +kernel
theorem dJ11_highSurrogate_5068e_7 : decode cJ11_highSurrogate_5068e 7 = .ok (.i2c, 1) := by decide +kernel
theorem dJ11_highSurrogate_5068e_8 : decode cJ11_highSurrogate_5068e 8 = .ok (.ireturn, 1) := by decide +kernel
theorem dJ11_lowSurrogate_5068e_0 : decode cJ11_lowSurrogate_5068e 0 = .ok (.iload_n 0, 1) := by decide +kernel
theorem dJ11_lowSurrogate_5068e_1 : decode cJ11_lowSurrogate_5068e 1 = .ok (.sipush 1023, 3) := by decide +kernel
theorem dJ11_lowSurrogate_5068e_4 : decode cJ11_lowSurrogate_5068e 4 = .ok (.iand, 1) := by decide +kernel
theorem dJ11_lowSurrogate_5068e_5 : decode cJ11_lowSurrogate_5068e 5 = .ok (.ldc 76, 2) := by decide +kernel
theorem dJ11_lowSurrogate_5068e_7 : decode cJ11_lowSurrogate_5068e 7 = .ok (.iadd, 1) := by decide +kernel
theorem dJ11_lowSurrogate_5068e_8 : decode cJ11_lowSurrogate_5068e 8 = .ok (.i2c, 1) := by decide +kernel
theorem dJ11_lowSurrogate_5068e_9 : decode cJ11_lowSurrogate_5068e 9 = .ok (.ireturn, 1) := by decide +kernel
theorem dJ13_bitCount_95d88_0 : decode cJ13_bitCount_95d88 0 = .ok (.lload_n 0, 1) := by decide +kernel
theorem dJ13_bitCount_95d88_1 : decode cJ13_bitCount_95d88 1 = .ok (.lload_n 0, 1) := by decide +kernel
theorem dJ13_bitCount_95d88_2 : decode cJ13_bitCount_95d88 2 = .ok (.iconst 1, 1) := by decide +kernel
theorem dJ13_bitCount_95d88_3 : decode cJ13_bitCount_95d88 3 = .ok (.lushr, 1) := by decide +kernel
theorem dJ13_bitCount_95d88_4 : decode cJ13_bitCount_95d88 4 = .ok (.ldc2_w 314, 3) := by decide +kernel
theorem dJ13_bitCount_95d88_7 : decode cJ13_bitCount_95d88 7 = .ok (.land, 1) := by decide +kernel
theorem dJ13_bitCount_95d88_8 : decode cJ13_bitCount_95d88 8 = .ok (.lsub, 1) := by decide +kernel
theorem dJ13_bitCount_95d88_9 : decode cJ13_bitCount_95d88 9 = .ok (.lstore_n 0, 1) := by decide +kernel
theorem dJ13_bitCount_95d88_10 : decode cJ13_bitCount_95d88 10 = .ok (.lload_n 0, 1) := by decide +kernel
theorem dJ13_bitCount_95d88_11 : decode cJ13_bitCount_95d88 11 = .ok (.ldc2_w 316, 3) := by decide +kernel
theorem dJ13_bitCount_95d88_14 : decode cJ13_bitCount_95d88 14 = .ok (.land, 1) := by decide +kernel
theorem dJ13_bitCount_95d88_15 : decode cJ13_bitCount_95d88 15 = .ok (.lload_n 0, 1) := by decide +kernel
theorem dJ13_bitCount_95d88_16 : decode cJ13_bitCount_95d88 16 = .ok (.iconst 2, 1) := by decide +kernel
theorem dJ13_bitCount_95d88_17 : decode cJ13_bitCount_95d88 17 = .ok (.lushr, 1) := by decide +kernel
theorem dJ13_bitCount_95d88_18 : decode cJ13_bitCount_95d88 18 = .ok (.ldc2_w 316, 3) := by decide +kernel
theorem dJ13_bitCount_95d88_21 : decode cJ13_bitCount_95d88 21 = .ok (.land, 1) := by decide +kernel
theorem dJ13_bitCount_95d88_22 : decode cJ13_bitCount_95d88 22 = .ok (.ladd, 1) := by decide +kernel
theorem dJ13_bitCount_95d88_23 : decode cJ13_bitCount_95d88 23 = .ok (.lstore_n 0, 1) := by decide +kernel
theorem dJ13_bitCount_95d88_24 : decode cJ13_bitCount_95d88 24 = .ok (.lload_n 0, 1) := by decide +kernel
theorem dJ13_bitCount_95d88_25 : decode cJ13_bitCount_95d88 25 = .ok (.lload_n 0, 1) := by decide +kernel
theorem dJ13_bitCount_95d88_26 : decode cJ13_bitCount_95d88 26 = .ok (.iconst 4, 1) := by decide +kernel
theorem dJ13_bitCount_95d88_27 : decode cJ13_bitCount_95d88 27 = .ok (.lushr, 1) := by decide +kernel
theorem dJ13_bitCount_95d88_28 : decode cJ13_bitCount_95d88 28 = .ok (.ladd, 1) := by decide +kernel
theorem dJ13_bitCount_95d88_29 : decode cJ13_bitCount_95d88 29 = .ok (.ldc2_w 318, 3) := by decide +kernel
theorem dJ13_bitCount_95d88_32 : decode cJ13_bitCount_95d88 32 = .ok (.land, 1) := by decide +kernel
theorem dJ13_bitCount_95d88_33 : decode cJ13_bitCount_95d88 33 = .ok (.lstore_n 0, 1) := by decide +kernel
theorem dJ13_bitCount_95d88_34 : decode cJ13_bitCount_95d88 34 = .ok (.lload_n 0, 1) := by decide +kernel
theorem dJ13_bitCount_95d88_35 : decode cJ13_bitCount_95d88 35 = .ok (.lload_n 0, 1) := by decide +kernel
theorem dJ13_bitCount_95d88_36 : decode cJ13_bitCount_95d88 36 = .ok (.bipush 8, 2) := by decide +kernel
theorem dJ13_bitCount_95d88_38 : decode cJ13_bitCount_95d88 38 = .ok (.lushr, 1) := by decide +kernel
theorem dJ13_bitCount_95d88_39 : decode cJ13_bitCount_95d88 39 = .ok (.ladd, 1) := by decide +kernel
theorem dJ13_bitCount_95d88_40 : decode cJ13_bitCount_95d88 40 = .ok (.lstore_n 0, 1) := by decide +kernel
theorem dJ13_bitCount_95d88_41 : decode cJ13_bitCount_95d88 41 = .ok (.lload_n 0, 1) := by decide +kernel
theorem dJ13_bitCount_95d88_42 : decode cJ13_bitCount_95d88 42 = .ok (.lload_n 0, 1) := by decide +kernel
theorem dJ13_bitCount_95d88_43 : decode cJ13_bitCount_95d88 43 = .ok (.bipush 16, 2) := by decide +kernel
theorem dJ13_bitCount_95d88_45 : decode cJ13_bitCount_95d88 45 = .ok (.lushr, 1) := by decide +kernel
theorem dJ13_bitCount_95d88_46 : decode cJ13_bitCount_95d88 46 = .ok (.ladd, 1) := by decide +kernel
theorem dJ13_bitCount_95d88_47 : decode cJ13_bitCount_95d88 47 = .ok (.lstore_n 0, 1) := by decide +kernel
theorem dJ13_bitCount_95d88_48 : decode cJ13_bitCount_95d88 48 = .ok (.lload_n 0, 1) := by decide +kernel
theorem dJ13_bitCount_95d88_49 : decode cJ13_bitCount_95d88 49 = .ok (.lload_n 0, 1) := by decide +kernel
theorem dJ13_bitCount_95d88_50 : decode cJ13_bitCount_95d88 50 = .ok (.bipush 32, 2) := by decide +kernel
theorem dJ13_bitCount_95d88_52 : decode cJ13_bitCount_95d88 52 = .ok (.lushr, 1) := by decide +kernel
theorem dJ13_bitCount_95d88_53 : decode cJ13_bitCount_95d88 53 = .ok (.ladd, 1) := by decide +kernel
theorem dJ13_bitCount_95d88_54 : decode cJ13_bitCount_95d88 54 = .ok (.lstore_n 0, 1) := by decide +kernel
theorem dJ13_bitCount_95d88_55 : decode cJ13_bitCount_95d88 55 = .ok (.lload_n 0, 1) := by decide +kernel
theorem dJ13_bitCount_95d88_56 : decode cJ13_bitCount_95d88 56 = .ok (.l2i, 1) := by decide +kernel
theorem dJ13_bitCount_95d88_57 : decode cJ13_bitCount_95d88 57 = .ok (.bipush 127, 2) := by decide +kernel
theorem dJ13_bitCount_95d88_59 : decode cJ13_bitCount_95d88 59 = .ok (.iand, 1) := by decide +kernel
theorem dJ13_bitCount_95d88_60 : decode cJ13_bitCount_95d88 60 = .ok (.ireturn, 1) := by decide +kernel
theorem dJ9_max_7cf53_0 : decode cJ9_max_7cf53 0 = .ok (.iload_n 0, 1) := by decide +kernel
theorem dJ9_max_7cf53_1 : decode cJ9_max_7cf53 1 = .ok (.iload_n 1, 1) := by decide +kernel
theorem dJ9_max_7cf53_2 : decode cJ9_max_7cf53 2 = .ok (.if_icmp .lt 7, 3) := by decide +kernel
theorem dJ9_max_7cf53_5 : decode cJ9_max_7cf53 5 = .ok (.iload_n 0, 1) := by decide +kernel
theorem dJ9_max_7cf53_6 : decode cJ9_max_7cf53 6 = .ok (.goto 4, 3) := by decide +kernel
theorem dJ9_max_7cf53_9 : decode cJ9_max_7cf53 9 = .ok (.iload_n 1, 1) := by decide +kernel
theorem dJ9_max_7cf53_10 : decode cJ9_max_7cf53 10 = .ok (.ireturn, 1) := by decide +kernel
theorem dJ9_min_7cf53_0 : decode cJ9_min_7cf53 0 = .ok (.iload_n 0, 1) := by decide +kernel
theorem dJ9_min_7cf53_1 : decode cJ9_min_7cf53 1 = .ok (.iload_n 1, 1) := by decide +kernel
theorem dJ9_min_7cf53_2 : decode cJ9_min_7cf53 2 = .ok (.if_icmp .gt 7, 3) := by decide +kernel
theorem dJ9_min_7cf53_5 : decode cJ9_min_7cf53 5 = .ok (.iload_n 0, 1) := by decide +kernel
theorem dJ9_min_7cf53_6 : decode cJ9_min_7cf53 6 = .ok (.goto 4, 3) := by decide +kernel
theorem dJ9_min_7cf53_9 : decode cJ9_min_7cf53 9 = .ok (.iload_n 1, 1) := by decide +kernel
theorem dJ9_min_7cf53_10 : decode cJ9_min_7cf53 10 = .ok (.ireturn, 1) := by decide +kernel
theorem dJ0_length_8abf5_0 : decode cJ0_length_8abf5 0 = .ok (.aload_n 0, 1) := by decide +kernel
theorem dJ0_length_8abf5_1 : decode cJ0_length_8abf5 1 = .ok (.getfield 9, 3) := by decide +kernel
theorem dJ0_length_8abf5_4 : decode cJ0_length_8abf5 4 = .ok (.arraylength, 1) := by decide +kernel
theorem dJ0_length_8abf5_5 : decode cJ0_length_8abf5 5 = .ok (.aload_n 0, 1) := by decide +kernel
theorem dJ0_length_8abf5_6 : decode cJ0_length_8abf5 6 = .ok (.invokevirtual 335, 3) := by decide +kernel
theorem dJ0_length_8abf5_9 : decode cJ0_length_8abf5 9 = .ok (.ishr, 1) := by decide +kernel
theorem dJ0_length_8abf5_10 : decode cJ0_length_8abf5 10 = .ok (.ireturn, 1) := by decide +kernel
theorem dJ0_charAt_5068e_0 : decode cJ0_charAt_5068e 0 = .ok (.aload_n 0, 1) := by decide +kernel
theorem dJ0_charAt_5068e_1 : decode cJ0_charAt_5068e 1 = .ok (.invokevirtual 492, 3) := by decide +kernel
theorem dJ0_charAt_5068e_4 : decode cJ0_charAt_5068e 4 = .ok (.ifCond .eq 12, 3) := by decide +kernel
theorem dJ0_charAt_5068e_7 : decode cJ0_charAt_5068e 7 = .ok (.aload_n 0, 1) := by decide +kernel
theorem dJ0_charAt_5068e_8 : decode cJ0_charAt_5068e 8 = .ok (.getfield 9, 3) := by decide +kernel
theorem dJ0_charAt_5068e_11 : decode cJ0_charAt_5068e 11 = .ok (.iload_n 1, 1) := by decide +kernel
theorem dJ0_charAt_5068e_12 : decode cJ0_charAt_5068e 12 = .ok (.invokestatic 495, 3) := by decide +kernel
theorem dJ0_charAt_5068e_15 : decode cJ0_charAt_5068e 15 = .ok (.ireturn, 1) := by decide +kernel
theorem dJ0_charAt_5068e_16 : decode cJ0_charAt_5068e 16 = .ok (.aload_n 0, 1) := by decide +kernel
theorem dJ0_charAt_5068e_17 : decode cJ0_charAt_5068e 17 = .ok (.getfield 9, 3) := by decide +kernel
theorem dJ0_charAt_5068e_20 : decode cJ0_charAt_5068e 20 = .ok (.iload_n 1, 1) := by decide +kernel
theorem dJ0_charAt_5068e_21 : decode cJ0_charAt_5068e 21 = .ok (.invokestatic 498, 3) := by decide +kernel
theorem dJ0_charAt_5068e_24 : decode cJ0_charAt_5068e 24 = .ok (.ireturn, 1) := by decide +kernel
theorem dJ0_indexOf_0f7a4_0 : decode cJ0_indexOf_0f7a4 0 = .ok (.aload_n 0, 1) := by decide +kernel
theorem dJ0_indexOf_0f7a4_1 : decode cJ0_indexOf_0f7a4 1 = .ok (.iload_n 1, 1) := by decide +kernel
theorem dJ0_indexOf_0f7a4_2 : decode cJ0_indexOf_0f7a4 2 = .ok (.iconst 0, 1) := by decide +kernel
theorem dJ0_indexOf_0f7a4_3 : decode cJ0_indexOf_0f7a4 3 = .ok (.invokevirtual 633, 3) := by decide +kernel
theorem dJ0_indexOf_0f7a4_6 : decode cJ0_indexOf_0f7a4 6 = .ok (.ireturn, 1) := by decide +kernel
theorem dJ0_indexOf_7cf53_0 : decode cJ0_indexOf_7cf53 0 = .ok (.aload_n 0, 1) := by decide +kernel
theorem dJ0_indexOf_7cf53_1 : decode cJ0_indexOf_7cf53 1 = .ok (.invokevirtual 492, 3) := by decide +kernel
theorem dJ0_indexOf_7cf53_4 : decode cJ0_indexOf_7cf53 4 = .ok (.ifCond .eq 19, 3) := by decide +kernel
theorem dJ0_indexOf_7cf53_7 : decode cJ0_indexOf_7cf53 7 = .ok (.aload_n 0, 1) := by decide +kernel
theorem dJ0_indexOf_7cf53_8 : decode cJ0_indexOf_7cf53 8 = .ok (.getfield 9, 3) := by decide +kernel
theorem dJ0_indexOf_7cf53_11 : decode cJ0_indexOf_7cf53 11 = .ok (.iload_n 1, 1) := by decide +kernel
theorem dJ0_indexOf_7cf53_12 : decode cJ0_indexOf_7cf53 12 = .ok (.iload_n 2, 1) := by decide +kernel
theorem dJ0_indexOf_7cf53_13 : decode cJ0_indexOf_7cf53 13 = .ok (.aload_n 0, 1) := by decide +kernel
theorem dJ0_indexOf_7cf53_14 : decode cJ0_indexOf_7cf53 14 = .ok (.invokevirtual 505, 3) := by decide +kernel
theorem dJ0_indexOf_7cf53_17 : decode cJ0_indexOf_7cf53 17 = .ok (.invokestatic 637, 3) := by decide +kernel
theorem dJ0_indexOf_7cf53_20 : decode cJ0_indexOf_7cf53 20 = .ok (.goto 16, 3) := by decide +kernel
theorem dJ0_indexOf_7cf53_23 : decode cJ0_indexOf_7cf53 23 = .ok (.aload_n 0, 1) := by decide +kernel
theorem dJ0_indexOf_7cf53_24 : decode cJ0_indexOf_7cf53 24 = .ok (.getfield 9, 3) := by decide +kernel
theorem dJ0_indexOf_7cf53_27 : decode cJ0_indexOf_7cf53 27 = .ok (.iload_n 1, 1) := by decide +kernel
theorem dJ0_indexOf_7cf53_28 : decode cJ0_indexOf_7cf53 28 = .ok (.iload_n 2, 1) := by decide +kernel
theorem dJ0_indexOf_7cf53_29 : decode cJ0_indexOf_7cf53 29 = .ok (.aload_n 0, 1) := by decide +kernel
theorem dJ0_indexOf_7cf53_30 : decode cJ0_indexOf_7cf53 30 = .ok (.invokevirtual 505, 3) := by decide +kernel
theorem dJ0_indexOf_7cf53_33 : decode cJ0_indexOf_7cf53 33 = .ok (.invokestatic 640, 3) := by decide +kernel
theorem dJ0_indexOf_7cf53_36 : decode cJ0_indexOf_7cf53 36 = .ok (.ireturn, 1) := by decide +kernel
theorem dJ0_coder_7d493_0 : decode cJ0_coder_7d493 0 = .ok (.getstatic 38, 3) := by decide +kernel
theorem dJ0_coder_7d493_3 : decode cJ0_coder_7d493 3 = .ok (.ifCond .eq 10, 3) := by decide +kernel
theorem dJ0_coder_7d493_6 : decode cJ0_coder_7d493 6 = .ok (.aload_n 0, 1) := by decide +kernel
theorem dJ0_coder_7d493_7 : decode cJ0_coder_7d493 7 = .ok (.getfield 15, 3) := by decide +kernel
theorem dJ0_coder_7d493_10 : decode cJ0_coder_7d493 10 = .ok (.goto 4, 3) := by decide +kernel
theorem dJ0_coder_7d493_13 : decode cJ0_coder_7d493 13 = .ok (.iconst 1, 1) := by decide +kernel
theorem dJ0_coder_7d493_14 : decode cJ0_coder_7d493 14 = .ok (.ireturn, 1) := by decide +kernel
theorem dJ0_isLatin1_aae02_0 : decode cJ0_isLatin1_aae02 0 = .ok (.getstatic 38, 3) := by decide +kernel
theorem dJ0_isLatin1_aae02_3 : decode cJ0_isLatin1_aae02 3 = .ok (.ifCond .eq 14, 3) := by decide +kernel
theorem dJ0_isLatin1_aae02_6 : decode cJ0_isLatin1_aae02 6 = .ok (.aload_n 0, 1) := by decide +kernel
theorem dJ0_isLatin1_aae02_7 : decode cJ0_isLatin1_aae02 7 = .ok (.getfield 15, 3) := by decide +kernel
theorem dJ0_isLatin1_aae02_10 : decode cJ0_isLatin1_aae02 10 = .ok (.ifCond .ne 7, 3) := by decide +kernel
theorem dJ0_isLatin1_aae02_13 : decode cJ0_isLatin1_aae02 13 = .ok (.iconst 1, 1) := by decide +kernel
theorem dJ0_isLatin1_aae02_14 : decode cJ0_isLatin1_aae02 14 = .ok (.goto 4, 3) := by decide +kernel
theorem dJ0_isLatin1_aae02_17 : decode cJ0_isLatin1_aae02 17 = .ok (.iconst 0, 1) := by decide +kernel
theorem dJ0_isLatin1_aae02_18 : decode cJ0_isLatin1_aae02 18 = .ok (.ireturn, 1) := by decide +kernel
theorem dJ0_checkIndex_df160_0 : decode cJ0_checkIndex_df160 0 = .ok (.iload_n 0, 1) := by decide +kernel
theorem dJ0_checkIndex_df160_1 : decode cJ0_checkIndex_df160 1 = .ok (.iload_n 1, 1) := by decide +kernel
theorem dJ0_checkIndex_df160_2 : decode cJ0_checkIndex_df160 2 = .ok (.getstatic 1053, 3) := by decide +kernel
theorem dJ0_checkIndex_df160_5 : decode cJ0_checkIndex_df160 5 = .ok (.invokestatic 1059, 3) := by decide +kernel
theorem dJ0_checkIndex_df160_8 : decode cJ0_checkIndex_df160 8 = .ok (.pop, 1) := by decide +kernel
theorem dJ0_checkIndex_df160_9 : decode cJ0_checkIndex_df160 9 = .ok (.return_, 1) := by decide +kernel
theorem dJ0_checkBoundsBeginEnd_23922_0 : decode cJ0_checkBoundsBeginEnd_23922 0 = .ok (.iload_n 0, 1) := by decide +kernel
theorem dJ0_checkBoundsBeginEnd_23922_1 : decode cJ0_checkBoundsBeginEnd_23922 1 = .ok (.iload_n 1, 1) := by decide +kernel
theorem dJ0_checkBoundsBeginEnd_23922_2 : decode cJ0_checkBoundsBeginEnd_23922 2 = .ok (.iload_n 2, 1) := by decide +kernel
theorem dJ0_checkBoundsBeginEnd_23922_3 : decode cJ0_checkBoundsBeginEnd_23922 3 = .ok (.getstatic 1053, 3) := by decide +kernel
theorem dJ0_checkBoundsBeginEnd_23922_6 : decode cJ0_checkBoundsBeginEnd_23922 6 = .ok (.invokestatic 1062, 3) := by decide +kernel
theorem dJ0_checkBoundsBeginEnd_23922_9 : decode cJ0_checkBoundsBeginEnd_23922 9 = .ok (.pop, 1) := by decide +kernel
theorem dJ0_checkBoundsBeginEnd_23922_10 : decode cJ0_checkBoundsBeginEnd_23922 10 = .ok (.return_, 1) := by decide +kernel
theorem dJ1_charAt_3b067_0 : decode cJ1_charAt_3b067 0 = .ok (.iload_n 1, 1) := by decide +kernel
theorem dJ1_charAt_3b067_1 : decode cJ1_charAt_3b067 1 = .ok (.aload_n 0, 1) := by decide +kernel
theorem dJ1_charAt_3b067_2 : decode cJ1_charAt_3b067 2 = .ok (.arraylength, 1) := by decide +kernel
theorem dJ1_charAt_3b067_3 : decode cJ1_charAt_3b067 3 = .ok (.invokestatic 9, 3) := by decide +kernel
theorem dJ1_charAt_3b067_6 : decode cJ1_charAt_3b067 6 = .ok (.aload_n 0, 1) := by decide +kernel
theorem dJ1_charAt_3b067_7 : decode cJ1_charAt_3b067 7 = .ok (.iload_n 1, 1) := by decide +kernel
theorem dJ1_charAt_3b067_8 : decode cJ1_charAt_3b067 8 = .ok (.baload, 1) := by decide +kernel
theorem dJ1_charAt_3b067_9 : decode cJ1_charAt_3b067 9 = .ok (.sipush 255, 3) := by decide +kernel
theorem dJ1_charAt_3b067_12 : decode cJ1_charAt_3b067 12 = .ok (.iand, 1) := by decide +kernel
theorem dJ1_charAt_3b067_13 : decode cJ1_charAt_3b067 13 = .ok (.i2c, 1) := by decide +kernel
theorem dJ1_charAt_3b067_14 : decode cJ1_charAt_3b067 14 = .ok (.ireturn, 1) := by decide +kernel
theorem dJ1_canEncode_9a6ad_0 : decode cJ1_canEncode_9a6ad 0 = .ok (.iload_n 0, 1) := by decide +kernel
theorem dJ1_canEncode_9a6ad_1 : decode cJ1_canEncode_9a6ad 1 = .ok (.ifCond .lt 14, 3) := by decide +kernel
theorem dJ1_canEncode_9a6ad_4 : decode cJ1_canEncode_9a6ad 4 = .ok (.iload_n 0, 1) := by decide +kernel
theorem dJ1_canEncode_9a6ad_5 : decode cJ1_canEncode_9a6ad 5 = .ok (.sipush 255, 3) := by decide +kernel
theorem dJ1_canEncode_9a6ad_8 : decode cJ1_canEncode_9a6ad 8 = .ok (.if_icmp .gt 7, 3) := by decide +kernel
theorem dJ1_canEncode_9a6ad_11 : decode cJ1_canEncode_9a6ad 11 = .ok (.iconst 1, 1) := by decide +kernel
theorem dJ1_canEncode_9a6ad_12 : decode cJ1_canEncode_9a6ad 12 = .ok (.goto 4, 3) := by decide +kernel
theorem dJ1_canEncode_9a6ad_15 : decode cJ1_canEncode_9a6ad 15 = .ok (.iconst 0, 1) := by decide +kernel
theorem dJ1_canEncode_9a6ad_16 : decode cJ1_canEncode_9a6ad 16 = .ok (.ireturn, 1) := by decide +kernel
theorem dJ1_indexOf_4cfef_0 : decode cJ1_indexOf_4cfef 0 = .ok (.iload_n 1, 1) := by decide +kernel
theorem dJ1_indexOf_4cfef_1 : decode cJ1_indexOf_4cfef 1 = .ok (.invokestatic 88, 3) := by decide +kernel
theorem dJ1_indexOf_4cfef_4 : decode cJ1_indexOf_4cfef 4 = .ok (.ifCond .ne 5, 3) := by decide +kernel
theorem dJ1_indexOf_4cfef_7 : decode cJ1_indexOf_4cfef 7 = .ok (.iconst (-1), 1) := by decide +kernel
theorem dJ1_indexOf_4cfef_8 : decode cJ1_indexOf_4cfef 8 = .ok (.ireturn, 1) := by decide +kernel
theorem dJ1_indexOf_4cfef_9 : decode cJ1_indexOf_4cfef 9 = .ok (.iload_n 2, 1) := by decide +kernel
theorem dJ1_indexOf_4cfef_10 : decode cJ1_indexOf_4cfef 10 = .ok (.iconst 0, 1) := by decide +kernel
theorem dJ1_indexOf_4cfef_11 : decode cJ1_indexOf_4cfef 11 = .ok (.invokestatic 92, 3) := by decide +kernel
theorem dJ1_indexOf_4cfef_14 : decode cJ1_indexOf_4cfef 14 = .ok (.istore_n 2, 1) := by decide +kernel
theorem dJ1_indexOf_4cfef_15 : decode cJ1_indexOf_4cfef 15 = .ok (.iload_n 3, 1) := by decide +kernel
theorem dJ1_indexOf_4cfef_16 : decode cJ1_indexOf_4cfef 16 = .ok (.aload_n 0, 1) := by decide +kernel
theorem dJ1_indexOf_4cfef_17 : decode cJ1_indexOf_4cfef 17 = .ok (.arraylength, 1) := by decide +kernel
theorem dJ1_indexOf_4cfef_18 : decode cJ1_indexOf_4cfef 18 = .ok (.invokestatic 38, 3) := by decide +kernel
theorem dJ1_indexOf_4cfef_21 : decode cJ1_indexOf_4cfef 21 = .ok (.istore_n 3, 1) := by decide +kernel
theorem dJ1_indexOf_4cfef_22 : decode cJ1_indexOf_4cfef 22 = .ok (.iload_n 2, 1) := by decide +kernel
theorem dJ1_indexOf_4cfef_23 : decode cJ1_indexOf_4cfef 23 = .ok (.iload_n 3, 1) := by decide +kernel
theorem dJ1_indexOf_4cfef_24 : decode cJ1_indexOf_4cfef 24 = .ok (.if_icmp .lt 5, 3) := by decide +kernel
theorem dJ1_indexOf_4cfef_27 : decode cJ1_indexOf_4cfef 27 = .ok (.iconst (-1), 1) := by decide +kernel
theorem dJ1_indexOf_4cfef_28 : decode cJ1_indexOf_4cfef 28 = .ok (.ireturn, 1) := by decide +kernel
theorem dJ1_indexOf_4cfef_29 : decode cJ1_indexOf_4cfef 29 = .ok (.aload_n 0, 1) := by decide +kernel
theorem dJ1_indexOf_4cfef_30 : decode cJ1_indexOf_4cfef 30 = .ok (.iload_n 1, 1) := by decide +kernel
theorem dJ1_indexOf_4cfef_31 : decode cJ1_indexOf_4cfef 31 = .ok (.iload_n 2, 1) := by decide +kernel
theorem dJ1_indexOf_4cfef_32 : decode cJ1_indexOf_4cfef 32 = .ok (.iload_n 3, 1) := by decide +kernel
theorem dJ1_indexOf_4cfef_33 : decode cJ1_indexOf_4cfef 33 = .ok (.invokestatic 95, 3) := by decide +kernel
theorem dJ1_indexOf_4cfef_36 : decode cJ1_indexOf_4cfef 36 = .ok (.ireturn, 1) := by decide +kernel
theorem dJ1_indexOfChar_4cfef_0 : decode cJ1_indexOfChar_4cfef 0 = .ok (.iload_n 1, 1) := by decide +kernel
theorem dJ1_indexOfChar_4cfef_1 : decode cJ1_indexOfChar_4cfef 1 = .ok (.i2b, 1) := by decide +kernel
theorem dJ1_indexOfChar_4cfef_2 : decode cJ1_indexOfChar_4cfef 2 = .ok (.istore 4, 2) := by decide +kernel
theorem dJ1_indexOfChar_4cfef_4 : decode cJ1_indexOfChar_4cfef 4 = .ok (.iload_n 2, 1) := by decide +kernel
theorem dJ1_indexOfChar_4cfef_5 : decode cJ1_indexOfChar_4cfef 5 = .ok (.istore 5, 2) := by decide +kernel
theorem dJ1_indexOfChar_4cfef_7 : decode cJ1_indexOfChar_4cfef 7 = .ok (.iload 5, 2) := by decide +kernel
theorem dJ1_indexOfChar_4cfef_9 : decode cJ1_indexOfChar_4cfef 9 = .ok (.iload_n 3, 1) := by decide +kernel
theorem dJ1_indexOfChar_4cfef_10 : decode cJ1_indexOfChar_4cfef 10 = .ok (.if_icmp .ge 21, 3) := by decide +kernel
theorem dJ1_indexOfChar_4cfef_13 : decode cJ1_indexOfChar_4cfef 13 = .ok (.aload_n 0, 1) := by decide +kernel
theorem dJ1_indexOfChar_4cfef_14 : decode cJ1_indexOfChar_4cfef 14 = .ok (.iload 5, 2) := by decide +kernel
theorem dJ1_indexOfChar_4cfef_16 : decode cJ1_indexOfChar_4cfef 16 = .ok (.baload, 1) := by decide +kernel
theorem dJ1_indexOfChar_4cfef_17 : decode cJ1_indexOfChar_4cfef 17 = .ok (.iload 4, 2) := by decide +kernel
theorem dJ1_indexOfChar_4cfef_19 : decode cJ1_indexOfChar_4cfef 19 = .ok (.if_icmp .ne 6, 3) := by decide +kernel
theorem dJ1_indexOfChar_4cfef_22 : decode cJ1_indexOfChar_4cfef 22 = .ok (.iload 5, 2) := by decide +kernel
theorem dJ1_indexOfChar_4cfef_24 : decode cJ1_indexOfChar_4cfef 24 = .ok (.ireturn, 1) := by decide +kernel
theorem dJ1_indexOfChar_4cfef_25 : decode cJ1_indexOfChar_4cfef 25 = .ok (.iinc 5 1, 3) := by decide +kernel
theorem dJ1_indexOfChar_4cfef_28 : decode cJ1_indexOfChar_4cfef 28 = .ok (.goto (-21), 3) := by decide +kernel
theorem dJ1_indexOfChar_4cfef_31 : decode cJ1_indexOfChar_4cfef 31 = .ok (.iconst (-1), 1) := by decide +kernel
theorem dJ1_indexOfChar_4cfef_32 : decode cJ1_indexOfChar_4cfef 32 = .ok (.ireturn, 1) := by decide +kernel
theorem dJ2_getChar_3b067_0 : decode cJ2_getChar_3b067 0 = .ok (.getstatic 44, 3) := by decide +kernel
theorem dJ2_getChar_3b067_3 : decode cJ2_getChar_3b067 3 = .ok (.ifCond .ne 25, 3) := by decide +kernel
theorem dJ2_getChar_3b067_6 : decode cJ2_getChar_3b067 6 = .ok (.iload_n 1, 1) := by decide +kernel
theorem dJ2_getChar_3b067_7 : decode cJ2_getChar_3b067 7 = .ok (.ifCond .lt 11, 3) := by decide +kernel
theorem dJ2_getChar_3b067_10 : decode cJ2_getChar_3b067 10 = .ok (.iload_n 1, 1) := by decide +kernel
theorem dJ2_getChar_3b067_11 : decode cJ2_getChar_3b067 11 = .ok (.aload_n 0, 1) := by decide +kernel
theorem dJ2_getChar_3b067_12 : decode cJ2_getChar_3b067 12 = .ok (.invokestatic 48, 3) := by decide +kernel
theorem dJ2_getChar_3b067_15 : decode cJ2_getChar_3b067 15 = .ok (.if_icmp .lt 13, 3) := by decide +kernel
theorem dJ2_getChar_3b067_18 : decode cJ2_getChar_3b067 18 = .ok (.new 52, 3) := by decide +kernel
theorem dJ2_getChar_3b067_21 : decode cJ2_getChar_3b067 21 = .ok (.dup, 1) := by decide +kernel
theorem dJ2_getChar_3b067_22 : decode cJ2_getChar_3b067 22 = .ok (.ldc 54, 2) := by decide +kernel
theorem dJ2_getChar_3b067_24 : decode cJ2_getChar_3b067 24 = .ok (.invokespecial 56, 3) := by decide +kernel
theorem dJ2_getChar_3b067_27 : decode cJ2_getChar_3b067 27 = .ok (.athrow, 1) := by decide +kernel
theorem dJ2_getChar_3b067_28 : decode cJ2_getChar_3b067 28 = .ok (.iload_n 1, 1) := by decide +kernel
theorem dJ2_getChar_3b067_29 : decode cJ2_getChar_3b067 29 = .ok (.iconst 1, 1) := by decide +kernel
theorem dJ2_getChar_3b067_30 : decode cJ2_getChar_3b067 30 = .ok (.ishl, 1) := by decide +kernel
theorem dJ2_getChar_3b067_31 : decode cJ2_getChar_3b067 31 = .ok (.istore_n 1, 1) := by decide +kernel
theorem dJ2_getChar_3b067_32 : decode cJ2_getChar_3b067 32 = .ok (.aload_n 0, 1) := by decide +kernel
theorem dJ2_getChar_3b067_33 : decode cJ2_getChar_3b067 33 = .ok (.iload_n 1, 1) := by decide +kernel
theorem dJ2_getChar_3b067_34 : decode cJ2_getChar_3b067 34 = .ok (.iinc 1 1, 3) := by decide +kernel
theorem dJ2_getChar_3b067_37 : decode cJ2_getChar_3b067 37 = .ok (.baload, 1) := by decide +kernel
theorem dJ2_getChar_3b067_38 : decode cJ2_getChar_3b067 38 = .ok (.sipush 255, 3) := by decide +kernel
theorem dJ2_getChar_3b067_41 : decode cJ2_getChar_3b067 41 = .ok (.iand, 1) := by decide +kernel
theorem dJ2_getChar_3b067_42 : decode cJ2_getChar_3b067 42 = .ok (.getstatic 59, 3) := by decide +kernel
theorem dJ2_getChar_3b067_45 : decode cJ2_getChar_3b067 45 = .ok (.ishl, 1) := by decide +kernel
theorem dJ2_getChar_3b067_46 : decode cJ2_getChar_3b067 46 = .ok (.aload_n 0, 1) := by decide +kernel
theorem dJ2_getChar_3b067_47 : decode cJ2_getChar_3b067 47 = .ok (.iload_n 1, 1) := by decide +kernel
theorem dJ2_getChar_3b067_48 : decode cJ2_getChar_3b067 48 = .ok (.baload, 1) := by decide +kernel
theorem dJ2_getChar_3b067_49 : decode cJ2_getChar_3b067 49 = .ok (.sipush 255, 3) := by decide +kernel
theorem dJ2_getChar_3b067_52 : decode cJ2_getChar_3b067 52 = .ok (.iand, 1) := by decide +kernel
theorem dJ2_getChar_3b067_53 : decode cJ2_getChar_3b067 53 = .ok (.getstatic 63, 3) := by decide +kernel
theorem dJ2_getChar_3b067_56 : decode cJ2_getChar_3b067 56 = .ok (.ishl, 1) := by decide +kernel
theorem dJ2_getChar_3b067_57 : decode cJ2_getChar_3b067 57 = .ok (.ior, 1) := by decide +kernel
theorem dJ2_getChar_3b067_58 : decode cJ2_getChar_3b067 58 = .ok (.i2c, 1) := by decide +kernel
theorem dJ2_getChar_3b067_59 : decode cJ2_getChar_3b067 59 = .ok (.ireturn, 1) := by decide +kernel
theorem dJ2_length_9d52b_0 : decode cJ2_length_9d52b 0 = .ok (.aload_n 0, 1) := by decide +kernel
theorem dJ2_length_9d52b_1 : decode cJ2_length_9d52b 1 = .ok (.arraylength, 1) := by decide +kernel
theorem dJ2_length_9d52b_2 : decode cJ2_length_9d52b 2 = .ok (.iconst 1, 1) := by decide +kernel
theorem dJ2_length_9d52b_3 : decode cJ2_length_9d52b 3 = .ok (.ishr, 1) := by decide +kernel
theorem dJ2_length_9d52b_4 : decode cJ2_length_9d52b 4 = .ok (.ireturn, 1) := by decide +kernel
theorem dJ2_indexOf_4cfef_0 : decode cJ2_indexOf_4cfef 0 = .ok (.iload_n 2, 1) := by decide +kernel
theorem dJ2_indexOf_4cfef_1 : decode cJ2_indexOf_4cfef 1 = .ok (.iconst 0, 1) := by decide +kernel
theorem dJ2_indexOf_4cfef_2 : decode cJ2_indexOf_4cfef 2 = .ok (.invokestatic 224, 3) := by decide +kernel
theorem dJ2_indexOf_4cfef_5 : decode cJ2_indexOf_4cfef 5 = .ok (.istore_n 2, 1) := by decide +kernel
theorem dJ2_indexOf_4cfef_6 : decode cJ2_indexOf_4cfef 6 = .ok (.iload_n 3, 1) := by decide +kernel
theorem dJ2_indexOf_4cfef_7 : decode cJ2_indexOf_4cfef 7 = .ok (.aload_n 0, 1) := by decide +kernel
theorem dJ2_indexOf_4cfef_8 : decode cJ2_indexOf_4cfef 8 = .ok (.arraylength, 1) := by decide +kernel
theorem dJ2_indexOf_4cfef_9 : decode cJ2_indexOf_4cfef 9 = .ok (.iconst 1, 1) := by decide +kernel
theorem dJ2_indexOf_4cfef_10 : decode cJ2_indexOf_4cfef 10 = .ok (.ishr, 1) := by decide +kernel
theorem dJ2_indexOf_4cfef_11 : decode cJ2_indexOf_4cfef 11 = .ok (.invokestatic 183, 3) := by decide +kernel
theorem dJ2_indexOf_4cfef_14 : decode cJ2_indexOf_4cfef 14 = .ok (.istore_n 3, 1) := by decide +kernel
theorem dJ2_indexOf_4cfef_15 : decode cJ2_indexOf_4cfef 15 = .ok (.iload_n 2, 1) := by decide +kernel
theorem dJ2_indexOf_4cfef_16 : decode cJ2_indexOf_4cfef 16 = .ok (.iload_n 3, 1) := by decide +kernel
theorem dJ2_indexOf_4cfef_17 : decode cJ2_indexOf_4cfef 17 = .ok (.if_icmp .lt 5, 3) := by decide +kernel
theorem dJ2_indexOf_4cfef_20 : decode cJ2_indexOf_4cfef 20 = .ok (.iconst (-1), 1) := by decide +kernel
theorem dJ2_indexOf_4cfef_21 : decode cJ2_indexOf_4cfef 21 = .ok (.ireturn, 1) := by decide +kernel
theorem dJ2_indexOf_4cfef_22 : decode cJ2_indexOf_4cfef 22 = .ok (.iload_n 1, 1) := by decide +kernel
theorem dJ2_indexOf_4cfef_23 : decode cJ2_indexOf_4cfef 23 = .ok (.ldc 227, 2) := by decide +kernel
theorem dJ2_indexOf_4cfef_25 : decode cJ2_indexOf_4cfef 25 = .ok (.if_icmp .ge 11, 3) := by decide +kernel
theorem dJ2_indexOf_4cfef_28 : decode cJ2_indexOf_4cfef 28 = .ok (.aload_n 0, 1) := by decide +kernel
theorem dJ2_indexOf_4cfef_29 : decode cJ2_indexOf_4cfef 29 = .ok (.iload_n 1, 1) := by decide +kernel
theorem dJ2_indexOf_4cfef_30 : decode cJ2_indexOf_4cfef 30 = .ok (.iload_n 2, 1) := by decide +kernel
theorem dJ2_indexOf_4cfef_31 : decode cJ2_indexOf_4cfef 31 = .ok (.iload_n 3, 1) := by decide +kernel
theorem dJ2_indexOf_4cfef_32 : decode cJ2_indexOf_4cfef 32 = .ok (.invokestatic 228, 3) := by decide +kernel
theorem dJ2_indexOf_4cfef_35 : decode cJ2_indexOf_4cfef 35 = .ok (.ireturn, 1) := by decide +kernel
theorem dJ2_indexOf_4cfef_36 : decode cJ2_indexOf_4cfef 36 = .ok (.aload_n 0, 1) := by decide +kernel
theorem dJ2_indexOf_4cfef_37 : decode cJ2_indexOf_4cfef 37 = .ok (.iload_n 1, 1) := by decide +kernel
theorem dJ2_indexOf_4cfef_38 : decode cJ2_indexOf_4cfef 38 = .ok (.iload_n 2, 1) := by decide +kernel
theorem dJ2_indexOf_4cfef_39 : decode cJ2_indexOf_4cfef 39 = .ok (.iload_n 3, 1) := by decide +kernel
theorem dJ2_indexOf_4cfef_40 : decode cJ2_indexOf_4cfef 40 = .ok (.invokestatic 232, 3) := by decide +kernel
theorem dJ2_indexOf_4cfef_43 : decode cJ2_indexOf_4cfef 43 = .ok (.ireturn, 1) := by decide +kernel
theorem dJ2_indexOfChar_4cfef_0 : decode cJ2_indexOfChar_4cfef 0 = .ok (.iload_n 2, 1) := by decide +kernel
theorem dJ2_indexOfChar_4cfef_1 : decode cJ2_indexOfChar_4cfef 1 = .ok (.iload_n 3, 1) := by decide +kernel
theorem dJ2_indexOfChar_4cfef_2 : decode cJ2_indexOfChar_4cfef 2 = .ok (.aload_n 0, 1) := by decide +kernel
theorem dJ2_indexOfChar_4cfef_3 : decode cJ2_indexOfChar_4cfef 3 = .ok (.invokestatic 96, 3) := by decide +kernel
theorem dJ2_indexOfChar_4cfef_6 : decode cJ2_indexOfChar_4cfef 6 = .ok (.aload_n 0, 1) := by decide +kernel
theorem dJ2_indexOfChar_4cfef_7 : decode cJ2_indexOfChar_4cfef 7 = .ok (.iload_n 1, 1) := by decide +kernel
theorem dJ2_indexOfChar_4cfef_8 : decode cJ2_indexOfChar_4cfef 8 = .ok (.iload_n 2, 1) := by decide +kernel
theorem dJ2_indexOfChar_4cfef_9 : decode cJ2_indexOfChar_4cfef 9 = .ok (.iload_n 3, 1) := by decide +kernel
theorem dJ2_indexOfChar_4cfef_10 : decode cJ2_indexOfChar_4cfef 10 = .ok (.invokestatic 244, 3) := by decide +kernel
theorem dJ2_indexOfChar_4cfef_13 : decode cJ2_indexOfChar_4cfef 13 = .ok (.ireturn, 1) := by decide +kernel
theorem dJ2_indexOfCharUnsafe_4cfef_0 : decode cJ2_indexOfCharUnsafe_4cfef 0 = .ok (.iload_n 2, 1) := by decide +kernel
theorem dJ2_indexOfCharUnsafe_4cfef_1 : decode cJ2_indexOfCharUnsafe_4cfef 1 = .ok (.istore 4, 2) := by decide +kernel
theorem dJ2_indexOfCharUnsafe_4cfef_3 : decode cJ2_indexOfCharUnsafe_4cfef 3 = .ok (.iload 4, 2) := by decide +kernel
theorem dJ2_indexOfCharUnsafe_4cfef_5 : decode cJ2_indexOfCharUnsafe_4cfef 5 = .ok (.iload_n 3, 1) := by decide +kernel
theorem dJ2_indexOfCharUnsafe_4cfef_6 : decode cJ2_indexOfCharUnsafe_4cfef 6 = .ok (.if_icmp .ge 22, 3) := by decide +kernel
theorem dJ2_indexOfCharUnsafe_4cfef_9 : decode cJ2_indexOfCharUnsafe_4cfef 9 = .ok (.aload_n 0, 1) := by decide +kernel
theorem dJ2_indexOfCharUnsafe_4cfef_10 : decode cJ2_indexOfCharUnsafe_4cfef 10 = .ok (.iload 4, 2) := by decide +kernel
theorem dJ2_indexOfCharUnsafe_4cfef_12 : decode cJ2_indexOfCharUnsafe_4cfef 12 = .ok (.invokestatic 71, 3) := by decide +kernel
theorem dJ2_indexOfCharUnsafe_4cfef_15 : decode cJ2_indexOfCharUnsafe_4cfef 15 = .ok (.iload_n 1, 1) := by decide +kernel
theorem dJ2_indexOfCharUnsafe_4cfef_16 : decode cJ2_indexOfCharUnsafe_4cfef 16 = .ok (.if_icmp .ne 6, 3) := by decide +kernel
theorem dJ2_indexOfCharUnsafe_4cfef_19 : decode cJ2_indexOfCharUnsafe_4cfef 19 = .ok (.iload 4, 2) := by decide +kernel
theorem dJ2_indexOfCharUnsafe_4cfef_21 : decode cJ2_indexOfCharUnsafe_4cfef 21 = .ok (.ireturn, 1) := by decide +kernel
theorem dJ2_indexOfCharUnsafe_4cfef_22 : decode cJ2_indexOfCharUnsafe_4cfef 22 = .ok (.iinc 4 1, 3) := by decide +kernel
theorem dJ2_indexOfCharUnsafe_4cfef_25 : decode cJ2_indexOfCharUnsafe_4cfef 25 = .ok (.goto (-22), 3) := by decide +kernel
theorem dJ2_indexOfCharUnsafe_4cfef_28 : decode cJ2_indexOfCharUnsafe_4cfef 28 = .ok (.iconst (-1), 1) := by decide +kernel
theorem dJ2_indexOfCharUnsafe_4cfef_29 : decode cJ2_indexOfCharUnsafe_4cfef 29 = .ok (.ireturn, 1) := by decide +kernel
theorem dJ2_indexOfSupplementary_4cfef_0 : decode cJ2_indexOfSupplementary_4cfef 0 = .ok (.iload_n 1, 1) := by decide +kernel
theorem dJ2_indexOfSupplementary_4cfef_1 : decode cJ2_indexOfSupplementary_4cfef 1 = .ok (.invokestatic 164, 3) := by decide +kernel
theorem dJ2_indexOfSupplementary_4cfef_4 : decode cJ2_indexOfSupplementary_4cfef 4 = .ok (.ifCond .eq 65, 3) := by decide +kernel
theorem dJ2_indexOfSupplementary_4cfef_7 : decode cJ2_indexOfSupplementary_4cfef 7 = .ok (.iload_n 1, 1) := by decide +kernel
theorem dJ2_indexOfSupplementary_4cfef_8 : decode cJ2_indexOfSupplementary_4cfef 8 = .ok (.invokestatic 157, 3) := by decide +kernel
theorem dJ2_indexOfSupplementary_4cfef_11 : decode cJ2_indexOfSupplementary_4cfef 11 = .ok (.istore 4, 2) := by decide +kernel
theorem dJ2_indexOfSupplementary_4cfef_13 : decode cJ2_indexOfSupplementary_4cfef 13 = .ok (.iload_n 1, 1) := by decide +kernel
theorem dJ2_indexOfSupplementary_4cfef_14 : decode cJ2_indexOfSupplementary_4cfef 14 = .ok (.invokestatic 161, 3) := by decide +kernel
theorem dJ2_indexOfSupplementary_4cfef_17 : decode cJ2_indexOfSupplementary_4cfef 17 = .ok (.istore 5, 2) := by decide +kernel
theorem dJ2_indexOfSupplementary_4cfef_19 : decode cJ2_indexOfSupplementary_4cfef 19 = .ok (.iload_n 2, 1) := by decide +kernel
theorem dJ2_indexOfSupplementary_4cfef_20 : decode cJ2_indexOfSupplementary_4cfef 20 = .ok (.iload_n 3, 1) := by decide +kernel
theorem dJ2_indexOfSupplementary_4cfef_21 : decode cJ2_indexOfSupplementary_4cfef 21 = .ok (.aload_n 0, 1) := by decide +kernel
theorem dJ2_indexOfSupplementary_4cfef_22 : decode cJ2_indexOfSupplementary_4cfef 22 = .ok (.invokestatic 96, 3) := by decide +kernel
theorem dJ2_indexOfSupplementary_4cfef_25 : decode cJ2_indexOfSupplementary_4cfef 25 = .ok (.iload_n 2, 1) := by decide +kernel
theorem dJ2_indexOfSupplementary_4cfef_26 : decode cJ2_indexOfSupplementary_4cfef 26 = .ok (.istore 6, 2) := by decide +kernel
theorem dJ2_indexOfSupplementary_4cfef_28 : decode cJ2_indexOfSupplementary_4cfef 28 = .ok (.iload 6, 2) := by decide +kernel
theorem dJ2_indexOfSupplementary_4cfef_30 : decode cJ2_indexOfSupplementary_4cfef 30 = .ok (.iload_n 3, 1) := by decide +kernel
theorem dJ2_indexOfSupplementary_4cfef_31 : decode cJ2_indexOfSupplementary_4cfef 31 = .ok (.iconst 1, 1) := by decide +kernel
theorem dJ2_indexOfSupplementary_4cfef_32 : decode cJ2_indexOfSupplementary_4cfef 32 = .ok (.isub, 1) := by decide +kernel
theorem dJ2_indexOfSupplementary_4cfef_33 : decode cJ2_indexOfSupplementary_4cfef 33 = .ok (.if_icmp .ge 36, 3) := by decide +kernel
theorem dJ2_indexOfSupplementary_4cfef_36 : decode cJ2_indexOfSupplementary_4cfef 36 = .ok (.aload_n 0, 1) := by decide +kernel
theorem dJ2_indexOfSupplementary_4cfef_37 : decode cJ2_indexOfSupplementary_4cfef 37 = .ok (.iload 6, 2) := by decide +kernel
theorem dJ2_indexOfSupplementary_4cfef_39 : decode cJ2_indexOfSupplementary_4cfef 39 = .ok (.invokestatic 71, 3) := by decide +kernel
theorem dJ2_indexOfSupplementary_4cfef_42 : decode cJ2_indexOfSupplementary_4cfef 42 = .ok (.iload 4, 2) := by decide +kernel
theorem dJ2_indexOfSupplementary_4cfef_44 : decode cJ2_indexOfSupplementary_4cfef 44 = .ok (.if_icmp .ne 19, 3) := by decide +kernel
theorem dJ2_indexOfSupplementary_4cfef_47 : decode cJ2_indexOfSupplementary_4cfef 47 = .ok (.aload_n 0, 1) := by decide +kernel
theorem dJ2_indexOfSupplementary_4cfef_48 : decode cJ2_indexOfSupplementary_4cfef 48 = .ok (.iload 6, 2) := by decide +kernel
theorem dJ2_indexOfSupplementary_4cfef_50 : decode cJ2_indexOfSupplementary_4cfef 50 = .ok (.iconst 1, 1) := by decide +kernel
theorem dJ2_indexOfSupplementary_4cfef_51 : decode cJ2_indexOfSupplementary_4cfef 51 = .ok (.iadd, 1) := by decide +kernel
theorem dJ2_indexOfSupplementary_4cfef_52 : decode cJ2_indexOfSupplementary_4cfef 52 = .ok (.invokestatic 71, 3) := by decide +kernel
theorem dJ2_indexOfSupplementary_4cfef_55 : decode cJ2_indexOfSupplementary_4cfef 55 = .ok (.iload 5, 2) := by decide +kernel
theorem dJ2_indexOfSupplementary_4cfef_57 : decode cJ2_indexOfSupplementary_4cfef 57 = .ok (.if_icmp .ne 6, 3) := by decide +kernel
theorem dJ2_indexOfSupplementary_4cfef_60 : decode cJ2_indexOfSupplementary_4cfef 60 = .ok (.iload 6, 2) := by decide +kernel
theorem dJ2_indexOfSupplementary_4cfef_62 : decode cJ2_indexOfSupplementary_4cfef 62 = .ok (.ireturn, 1) := by decide +kernel
theorem dJ2_indexOfSupplementary_4cfef_63 : decode cJ2_indexOfSupplementary_4cfef 63 = .ok (.iinc 6 1, 3) := by decide +kernel
theorem dJ2_indexOfSupplementary_4cfef_66 : decode cJ2_indexOfSupplementary_4cfef 66 = .ok (.goto (-38), 3) := by decide +kernel
theorem dJ2_indexOfSupplementary_4cfef_69 : decode cJ2_indexOfSupplementary_4cfef 69 = .ok (.iconst (-1), 1) := by decide +kernel
theorem dJ2_indexOfSupplementary_4cfef_70 : decode cJ2_indexOfSupplementary_4cfef 70 = .ok (.ireturn, 1) := by decide +kernel
theorem dJ2_charAt_3b067_0 : decode cJ2_charAt_3b067 0 = .ok (.iload_n 1, 1) := by decide +kernel
theorem dJ2_charAt_3b067_1 : decode cJ2_charAt_3b067 1 = .ok (.aload_n 0, 1) := by decide +kernel
theorem dJ2_charAt_3b067_2 : decode cJ2_charAt_3b067 2 = .ok (.invokestatic 67, 3) := by decide +kernel
theorem dJ2_charAt_3b067_5 : decode cJ2_charAt_3b067 5 = .ok (.aload_n 0, 1) := by decide +kernel
theorem dJ2_charAt_3b067_6 : decode cJ2_charAt_3b067 6 = .ok (.iload_n 1, 1) := by decide +kernel
theorem dJ2_charAt_3b067_7 : decode cJ2_charAt_3b067 7 = .ok (.invokestatic 71, 3) := by decide +kernel
theorem dJ2_charAt_3b067_10 : decode cJ2_charAt_3b067 10 = .ok (.ireturn, 1) := by decide +kernel
theorem dJ2_checkIndex_2214a_0 : decode cJ2_checkIndex_2214a 0 = .ok (.iload_n 0, 1) := by decide +kernel
theorem dJ2_checkIndex_2214a_1 : decode cJ2_checkIndex_2214a 1 = .ok (.aload_n 1, 1) := by decide +kernel
theorem dJ2_checkIndex_2214a_2 : decode cJ2_checkIndex_2214a 2 = .ok (.invokestatic 48, 3) := by decide +kernel
theorem dJ2_checkIndex_2214a_5 : decode cJ2_checkIndex_2214a 5 = .ok (.invokestatic 414, 3) := by decide +kernel
theorem dJ2_checkIndex_2214a_8 : decode cJ2_checkIndex_2214a 8 = .ok (.return_, 1) := by decide +kernel
theorem dJ2_checkBoundsBeginEnd_d044e_0 : decode cJ2_checkBoundsBeginEnd_d044e 0 = .ok (.iload_n 0, 1) := by decide +kernel
theorem dJ2_checkBoundsBeginEnd_d044e_1 : decode cJ2_checkBoundsBeginEnd_d044e 1 = .ok (.iload_n 1, 1) := by decide +kernel
theorem dJ2_checkBoundsBeginEnd_d044e_2 : decode cJ2_checkBoundsBeginEnd_d044e 2 = .ok (.aload_n 2, 1) := by decide +kernel
theorem dJ2_checkBoundsBeginEnd_d044e_3 : decode cJ2_checkBoundsBeginEnd_d044e 3 = .ok (.invokestatic 48, 3) := by decide +kernel
theorem dJ2_checkBoundsBeginEnd_d044e_6 : decode cJ2_checkBoundsBeginEnd_d044e 6 = .ok (.invokestatic 241, 3) := by decide +kernel
theorem dJ2_checkBoundsBeginEnd_d044e_9 : decode cJ2_checkBoundsBeginEnd_d044e 9 = .ok (.return_, 1) := by decide +kernel
theorem dJ7_fill_d0a16_0 : decode cJ7_fill_d0a16 0 = .ok (.iconst 0, 1) := by decide +kernel
theorem dJ7_fill_d0a16_1 : decode cJ7_fill_d0a16 1 = .ok (.istore_n 3, 1) := by decide +kernel
theorem dJ7_fill_d0a16_2 : decode cJ7_fill_d0a16 2 = .ok (.aload_n 0, 1) := by decide +kernel
theorem dJ7_fill_d0a16_3 : decode cJ7_fill_d0a16 3 = .ok (.arraylength, 1) := by decide +kernel
theorem dJ7_fill_d0a16_4 : decode cJ7_fill_d0a16 4 = .ok (.istore 4, 2) := by decide +kernel
theorem dJ7_fill_d0a16_6 : decode cJ7_fill_d0a16 6 = .ok (.iload_n 3, 1) := by decide +kernel
theorem dJ7_fill_d0a16_7 : decode cJ7_fill_d0a16 7 = .ok (.iload 4, 2) := by decide +kernel
theorem dJ7_fill_d0a16_9 : decode cJ7_fill_d0a16 9 = .ok (.if_icmp .ge 13, 3) := by decide +kernel
theorem dJ7_fill_d0a16_12 : decode cJ7_fill_d0a16 12 = .ok (.aload_n 0, 1) := by decide +kernel
theorem dJ7_fill_d0a16_13 : decode cJ7_fill_d0a16 13 = .ok (.iload_n 3, 1) := by decide +kernel
theorem dJ7_fill_d0a16_14 : decode cJ7_fill_d0a16 14 = .ok (.lload_n 1, 1) := by decide +kernel
theorem dJ7_fill_d0a16_15 : decode cJ7_fill_d0a16 15 = .ok (.lastore, 1) := by decide +kernel
theorem dJ7_fill_d0a16_16 : decode cJ7_fill_d0a16 16 = .ok (.iinc 3 1, 3) := by decide +kernel
theorem dJ7_fill_d0a16_19 : decode cJ7_fill_d0a16 19 = .ok (.goto (-13), 3) := by decide +kernel
theorem dJ7_fill_d0a16_22 : decode cJ7_fill_d0a16 22 = .ok (.return_, 1) := by decide +kernel
theorem dJ7_fill_53178_0 : decode cJ7_fill_53178 0 = .ok (.iconst 0, 1) := by decide +kernel
theorem dJ7_fill_53178_1 : decode cJ7_fill_53178 1 = .ok (.istore_n 2, 1) := by decide +kernel
theorem dJ7_fill_53178_2 : decode cJ7_fill_53178 2 = .ok (.aload_n 0, 1) := by decide +kernel
theorem dJ7_fill_53178_3 : decode cJ7_fill_53178 3 = .ok (.arraylength, 1) := by decide +kernel
theorem dJ7_fill_53178_4 : decode cJ7_fill_53178 4 = .ok (.istore_n 3, 1) := by decide +kernel
theorem dJ7_fill_53178_5 : decode cJ7_fill_53178 5 = .ok (.iload_n 2, 1) := by decide +kernel
theorem dJ7_fill_53178_6 : decode cJ7_fill_53178 6 = .ok (.iload_n 3, 1) := by decide +kernel
theorem dJ7_fill_53178_7 : decode cJ7_fill_53178 7 = .ok (.if_icmp .ge 13, 3) := by decide +kernel
theorem dJ7_fill_53178_10 : decode cJ7_fill_53178 10 = .ok (.aload_n 0, 1) := by decide +kernel
theorem dJ7_fill_53178_11 : decode cJ7_fill_53178 11 = .ok (.iload_n 2, 1) := by decide +kernel
theorem dJ7_fill_53178_12 : decode cJ7_fill_53178 12 = .ok (.iload_n 1, 1) := by decide +kernel
theorem dJ7_fill_53178_13 : decode cJ7_fill_53178 13 = .ok (.iastore, 1) := by decide +kernel
theorem dJ7_fill_53178_14 : decode cJ7_fill_53178 14 = .ok (.iinc 2 1, 3) := by decide +kernel
theorem dJ7_fill_53178_17 : decode cJ7_fill_53178 17 = .ok (.goto (-12), 3) := by decide +kernel
theorem dJ7_fill_53178_20 : decode cJ7_fill_53178 20 = .ok (.return_, 1) := by decide +kernel
theorem dJ3_checkIndex_8e157_0 : decode cJ3_checkIndex_8e157 0 = .ok (.iload_n 0, 1) := by decide +kernel
theorem dJ3_checkIndex_8e157_1 : decode cJ3_checkIndex_8e157 1 = .ok (.ifCond .lt 8, 3) := by decide +kernel
theorem dJ3_checkIndex_8e157_4 : decode cJ3_checkIndex_8e157 4 = .ok (.iload_n 0, 1) := by decide +kernel
theorem dJ3_checkIndex_8e157_5 : decode cJ3_checkIndex_8e157 5 = .ok (.iload_n 1, 1) := by decide +kernel
theorem dJ3_checkIndex_8e157_6 : decode cJ3_checkIndex_8e157 6 = .ok (.if_icmp .lt 10, 3) := by decide +kernel
theorem dJ3_checkIndex_8e157_9 : decode cJ3_checkIndex_8e157 9 = .ok (.aload_n 2, 1) := by decide +kernel
theorem dJ3_checkIndex_8e157_10 : decode cJ3_checkIndex_8e157 10 = .ok (.iload_n 0, 1) := by decide +kernel
theorem dJ3_checkIndex_8e157_11 : decode cJ3_checkIndex_8e157 11 = .ok (.iload_n 1, 1) := by decide +kernel
theorem dJ3_checkIndex_8e157_12 : decode cJ3_checkIndex_8e157 12 = .ok (.invokestatic 95, 3) := by decide +kernel
theorem dJ3_checkIndex_8e157_15 : decode cJ3_checkIndex_8e157 15 = .ok (.athrow, 1) := by decide +kernel
theorem dJ3_checkIndex_8e157_16 : decode cJ3_checkIndex_8e157 16 = .ok (.iload_n 0, 1) := by decide +kernel
theorem dJ3_checkIndex_8e157_17 : decode cJ3_checkIndex_8e157 17 = .ok (.ireturn, 1) := by decide +kernel
theorem dJ3_checkFromToIndex_8c36e_0 : decode cJ3_checkFromToIndex_8c36e 0 = .ok (.iload_n 0, 1) := by decide +kernel
theorem dJ3_checkFromToIndex_8c36e_1 : decode cJ3_checkFromToIndex_8c36e 1 = .ok (.ifCond .lt 13, 3) := by decide +kernel
theorem dJ3_checkFromToIndex_8c36e_4 : decode cJ3_checkFromToIndex_8c36e 4 = .ok (.iload_n 0, 1) := by decide +kernel
theorem dJ3_checkFromToIndex_8c36e_5 : decode cJ3_checkFromToIndex_8c36e 5 = .ok (.iload_n 1, 1) := by decide +kernel
theorem dJ3_checkFromToIndex_8c36e_6 : decode cJ3_checkFromToIndex_8c36e 6 = .ok (.if_icmp .gt 8, 3) := by decide +kernel
theorem dJ3_checkFromToIndex_8c36e_9 : decode cJ3_checkFromToIndex_8c36e 9 = .ok (.iload_n 1, 1) := by decide +kernel
theorem dJ3_checkFromToIndex_8c36e_10 : decode cJ3_checkFromToIndex_8c36e 10 = .ok (.iload_n 2, 1) := by decide +kernel
theorem dJ3_checkFromToIndex_8c36e_11 : decode cJ3_checkFromToIndex_8c36e 11 = .ok (.if_icmp .le 11, 3) := by decide +kernel
theorem dJ3_checkFromToIndex_8c36e_14 : decode cJ3_checkFromToIndex_8c36e 14 = .ok (.aload_n 3, 1) := by decide +kernel
theorem dJ3_checkFromToIndex_8c36e_15 : decode cJ3_checkFromToIndex_8c36e 15 = .ok (.iload_n 0, 1) := by decide +kernel
theorem dJ3_checkFromToIndex_8c36e_16 : decode cJ3_checkFromToIndex_8c36e 16 = .ok (.iload_n 1, 1) := by decide +kernel
theorem dJ3_checkFromToIndex_8c36e_17 : decode cJ3_checkFromToIndex_8c36e 17 = .ok (.iload_n 2, 1) := by decide +kernel
theorem dJ3_checkFromToIndex_8c36e_18 : decode cJ3_checkFromToIndex_8c36e 18 = .ok (.invokestatic 99, 3) := by decide +kernel
theorem dJ3_checkFromToIndex_8c36e_21 : decode cJ3_checkFromToIndex_8c36e 21 = .ok (.athrow, 1) := by decide +kernel
theorem dJ3_checkFromToIndex_8c36e_22 : decode cJ3_checkFromToIndex_8c36e 22 = .ok (.iload_n 0, 1) := by decide +kernel
theorem dJ3_checkFromToIndex_8c36e_23 : decode cJ3_checkFromToIndex_8c36e 23 = .ok (.ireturn, 1) := by decide +kernel
theorem dL_law_0 : decode cL_law 0 = .ok (.new 7, 3) := by decide +kernel
theorem dL_law_3 : decode cL_law 3 = .ok (.dup, 1) := by decide +kernel
theorem dL_law_4 : decode cL_law 4 = .ok (.invokespecial 9, 3) := by decide +kernel
theorem dL_law_7 : decode cL_law 7 = .ok (.astore_n 1, 1) := by decide +kernel
theorem dL_law_8 : decode cL_law 8 = .ok (.new 10, 3) := by decide +kernel
theorem dL_law_11 : decode cL_law 11 = .ok (.dup, 1) := by decide +kernel
theorem dL_law_12 : decode cL_law 12 = .ok (.invokespecial 12, 3) := by decide +kernel
theorem dL_law_15 : decode cL_law 15 = .ok (.astore_n 2, 1) := by decide +kernel
theorem dL_law_16 : decode cL_law 16 = .ok (.iconst 0, 1) := by decide +kernel
theorem dL_law_17 : decode cL_law 17 = .ok (.istore_n 3, 1) := by decide +kernel
theorem dL_law_18 : decode cL_law 18 = .ok (.iload_n 3, 1) := by decide +kernel
theorem dL_law_19 : decode cL_law 19 = .ok (.aload_n 0, 1) := by decide +kernel
theorem dL_law_20 : decode cL_law 20 = .ok (.arraylength, 1) := by decide +kernel
theorem dL_law_21 : decode cL_law 21 = .ok (.bipush 7, 2) := by decide +kernel
theorem dL_law_23 : decode cL_law 23 = .ok (.isub, 1) := by decide +kernel
theorem dL_law_24 : decode cL_law 24 = .ok (.if_icmp .gt 1403, 3) := by decide +kernel
theorem dL_law_27 : decode cL_law 27 = .ok (.aload_n 0, 1) := by decide +kernel
theorem dL_law_28 : decode cL_law 28 = .ok (.iload_n 3, 1) := by decide +kernel
theorem dL_law_29 : decode cL_law 29 = .ok (.iaload, 1) := by decide +kernel
theorem dL_law_30 : decode cL_law 30 = .ok (.bipush 63, 2) := by decide +kernel
theorem dL_law_32 : decode cL_law 32 = .ok (.iand, 1) := by decide +kernel
theorem dL_law_33 : decode cL_law 33 = .ok (.tableswitch 1388 0 38 #[171, 224, 247, 260, 273, 296, 329, 362, 395, 408, 441, 474, 497, 531, 554, 567, 590, 613, 636, 659, 672, 705, 719, 742, 818, 893, 937, 1000, 1064, 1087, 1121, 1144, 1167, 1190, 1213, 1256, 1299, 1352, 1365], 171) := by decide +kernel
theorem dL_law_204 : decode cL_law 204 = .ok (.aload_n 1, 1) := by decide +kernel
theorem dL_law_205 : decode cL_law 205 = .ok (.aload_n 0, 1) := by decide +kernel
theorem dL_law_206 : decode cL_law 206 = .ok (.iload_n 3, 1) := by decide +kernel
theorem dL_law_207 : decode cL_law 207 = .ok (.iconst 1, 1) := by decide +kernel
theorem dL_law_208 : decode cL_law 208 = .ok (.iadd, 1) := by decide +kernel
theorem dL_law_209 : decode cL_law 209 = .ok (.iaload, 1) := by decide +kernel
theorem dL_law_210 : decode cL_law 210 = .ok (.i2l, 1) := by decide +kernel
theorem dL_law_211 : decode cL_law 211 = .ok (.bipush 32, 2) := by decide +kernel
theorem dL_law_213 : decode cL_law 213 = .ok (.lshl, 1) := by decide +kernel
theorem dL_law_214 : decode cL_law 214 = .ok (.aload_n 0, 1) := by decide +kernel
theorem dL_law_215 : decode cL_law 215 = .ok (.iload_n 3, 1) := by decide +kernel
theorem dL_law_216 : decode cL_law 216 = .ok (.iconst 2, 1) := by decide +kernel
theorem dL_law_217 : decode cL_law 217 = .ok (.iadd, 1) := by decide +kernel
theorem dL_law_218 : decode cL_law 218 = .ok (.iaload, 1) := by decide +kernel
theorem dL_law_219 : decode cL_law 219 = .ok (.i2l, 1) := by decide +kernel
theorem dL_law_220 : decode cL_law 220 = .ok (.ldc2_w 13, 3) := by decide +kernel
theorem dL_law_223 : decode cL_law 223 = .ok (.land, 1) := by decide +kernel
theorem dL_law_224 : decode cL_law 224 = .ok (.lor, 1) := by decide +kernel
theorem dL_law_225 : decode cL_law 225 = .ok (.invokevirtual 15, 3) := by decide +kernel
theorem dL_law_228 : decode cL_law 228 = .ok (.aload_n 2, 1) := by decide +kernel
theorem dL_law_229 : decode cL_law 229 = .ok (.aload_n 0, 1) := by decide +kernel
theorem dL_law_230 : decode cL_law 230 = .ok (.iload_n 3, 1) := by decide +kernel
theorem dL_law_231 : decode cL_law 231 = .ok (.iconst 1, 1) := by decide +kernel
theorem dL_law_232 : decode cL_law 232 = .ok (.iadd, 1) := by decide +kernel
theorem dL_law_233 : decode cL_law 233 = .ok (.iaload, 1) := by decide +kernel
theorem dL_law_234 : decode cL_law 234 = .ok (.i2l, 1) := by decide +kernel
theorem dL_law_235 : decode cL_law 235 = .ok (.bipush 32, 2) := by decide +kernel
theorem dL_law_237 : decode cL_law 237 = .ok (.lshl, 1) := by decide +kernel
theorem dL_law_238 : decode cL_law 238 = .ok (.aload_n 0, 1) := by decide +kernel
theorem dL_law_239 : decode cL_law 239 = .ok (.iload_n 3, 1) := by decide +kernel
theorem dL_law_240 : decode cL_law 240 = .ok (.iconst 2, 1) := by decide +kernel
theorem dL_law_241 : decode cL_law 241 = .ok (.iadd, 1) := by decide +kernel
theorem dL_law_242 : decode cL_law 242 = .ok (.iaload, 1) := by decide +kernel
theorem dL_law_243 : decode cL_law 243 = .ok (.i2l, 1) := by decide +kernel
theorem dL_law_244 : decode cL_law 244 = .ok (.ldc2_w 13, 3) := by decide +kernel
theorem dL_law_247 : decode cL_law 247 = .ok (.land, 1) := by decide +kernel
theorem dL_law_248 : decode cL_law 248 = .ok (.lor, 1) := by decide +kernel
theorem dL_law_249 : decode cL_law 249 = .ok (.invokevirtual 19, 3) := by decide +kernel
theorem dL_law_252 : decode cL_law 252 = .ok (.if_icmp .eq 1169, 3) := by decide +kernel
theorem dL_law_255 : decode cL_law 255 = .ok (.iconst 0, 1) := by decide +kernel
theorem dL_law_256 : decode cL_law 256 = .ok (.ireturn, 1) := by decide +kernel
theorem dL_law_257 : decode cL_law 257 = .ok (.aload_n 1, 1) := by decide +kernel
theorem dL_law_258 : decode cL_law 258 = .ok (.aload_n 0, 1) := by decide +kernel
theorem dL_law_259 : decode cL_law 259 = .ok (.iload_n 3, 1) := by decide +kernel
theorem dL_law_260 : decode cL_law 260 = .ok (.iconst 1, 1) := by decide +kernel
theorem dL_law_261 : decode cL_law 261 = .ok (.iadd, 1) := by decide +kernel
theorem dL_law_262 : decode cL_law 262 = .ok (.iaload, 1) := by decide +kernel
theorem dL_law_263 : decode cL_law 263 = .ok (.invokevirtual 20, 3) := by decide +kernel
theorem dL_law_266 : decode cL_law 266 = .ok (.aload_n 2, 1) := by decide +kernel
theorem dL_law_267 : decode cL_law 267 = .ok (.aload_n 0, 1) := by decide +kernel
theorem dL_law_268 : decode cL_law 268 = .ok (.iload_n 3, 1) := by decide +kernel
theorem dL_law_269 : decode cL_law 269 = .ok (.iconst 1, 1) := by decide +kernel
theorem dL_law_270 : decode cL_law 270 = .ok (.iadd, 1) := by decide +kernel
theorem dL_law_271 : decode cL_law 271 = .ok (.iaload, 1) := by decide +kernel
theorem dL_law_272 : decode cL_law 272 = .ok (.invokevirtual 24, 3) := by decide +kernel
theorem dL_law_275 : decode cL_law 275 = .ok (.if_icmp .eq 1146, 3) := by decide +kernel
theorem dL_law_278 : decode cL_law 278 = .ok (.iconst 0, 1) := by decide +kernel
theorem dL_law_279 : decode cL_law 279 = .ok (.ireturn, 1) := by decide +kernel
theorem dL_law_280 : decode cL_law 280 = .ok (.aload_n 1, 1) := by decide +kernel
theorem dL_law_281 : decode cL_law 281 = .ok (.invokevirtual 25, 3) := by decide +kernel
theorem dL_law_284 : decode cL_law 284 = .ok (.aload_n 2, 1) := by decide +kernel
theorem dL_law_285 : decode cL_law 285 = .ok (.invokevirtual 29, 3) := by decide +kernel
theorem dL_law_288 : decode cL_law 288 = .ok (.if_icmp .eq 1133, 3) := by decide +kernel
theorem dL_law_291 : decode cL_law 291 = .ok (.iconst 0, 1) := by decide +kernel
theorem dL_law_292 : decode cL_law 292 = .ok (.ireturn, 1) := by decide +kernel
theorem dL_law_293 : decode cL_law 293 = .ok (.aload_n 1, 1) := by decide +kernel
theorem dL_law_294 : decode cL_law 294 = .ok (.invokevirtual 30, 3) := by decide +kernel
theorem dL_law_297 : decode cL_law 297 = .ok (.aload_n 2, 1) := by decide +kernel
theorem dL_law_298 : decode cL_law 298 = .ok (.invokevirtual 33, 3) := by decide +kernel
theorem dL_law_301 : decode cL_law 301 = .ok (.if_icmp .eq 1120, 3) := by decide +kernel
theorem dL_law_304 : decode cL_law 304 = .ok (.iconst 0, 1) := by decide +kernel
theorem dL_law_305 : decode cL_law 305 = .ok (.ireturn, 1) := by decide +kernel
theorem dL_law_306 : decode cL_law 306 = .ok (.aload_n 1, 1) := by decide +kernel
theorem dL_law_307 : decode cL_law 307 = .ok (.aload_n 0, 1) := by decide +kernel
theorem dL_law_308 : decode cL_law 308 = .ok (.iload_n 3, 1) := by decide +kernel
theorem dL_law_309 : decode cL_law 309 = .ok (.iconst 1, 1) := by decide +kernel
theorem dL_law_310 : decode cL_law 310 = .ok (.iadd, 1) := by decide +kernel
theorem dL_law_311 : decode cL_law 311 = .ok (.iaload, 1) := by decide +kernel
theorem dL_law_312 : decode cL_law 312 = .ok (.invokevirtual 34, 3) := by decide +kernel
theorem dL_law_315 : decode cL_law 315 = .ok (.aload_n 2, 1) := by decide +kernel
theorem dL_law_316 : decode cL_law 316 = .ok (.aload_n 0, 1) := by decide +kernel
theorem dL_law_317 : decode cL_law 317 = .ok (.iload_n 3, 1) := by decide +kernel
theorem dL_law_318 : decode cL_law 318 = .ok (.iconst 1, 1) := by decide +kernel
theorem dL_law_319 : decode cL_law 319 = .ok (.iadd, 1) := by decide +kernel
theorem dL_law_320 : decode cL_law 320 = .ok (.iaload, 1) := by decide +kernel
theorem dL_law_321 : decode cL_law 321 = .ok (.invokevirtual 37, 3) := by decide +kernel
theorem dL_law_324 : decode cL_law 324 = .ok (.if_icmp .eq 1097, 3) := by decide +kernel
theorem dL_law_327 : decode cL_law 327 = .ok (.iconst 0, 1) := by decide +kernel
theorem dL_law_328 : decode cL_law 328 = .ok (.ireturn, 1) := by decide +kernel
theorem dL_law_329 : decode cL_law 329 = .ok (.aload_n 1, 1) := by decide +kernel
theorem dL_law_330 : decode cL_law 330 = .ok (.aload_n 0, 1) := by decide +kernel
theorem dL_law_331 : decode cL_law 331 = .ok (.iload_n 3, 1) := by decide +kernel
theorem dL_law_332 : decode cL_law 332 = .ok (.iconst 1, 1) := by decide +kernel
theorem dL_law_333 : decode cL_law 333 = .ok (.iadd, 1) := by decide +kernel
theorem dL_law_334 : decode cL_law 334 = .ok (.iaload, 1) := by decide +kernel
theorem dL_law_335 : decode cL_law 335 = .ok (.aload_n 0, 1) := by decide +kernel
theorem dL_law_336 : decode cL_law 336 = .ok (.iload_n 3, 1) := by decide +kernel
theorem dL_law_337 : decode cL_law 337 = .ok (.iconst 2, 1) := by decide +kernel
theorem dL_law_338 : decode cL_law 338 = .ok (.iadd, 1) := by decide +kernel
theorem dL_law_339 : decode cL_law 339 = .ok (.iaload, 1) := by decide +kernel
theorem dL_law_340 : decode cL_law 340 = .ok (.invokevirtual 38, 3) := by decide +kernel
theorem dL_law_343 : decode cL_law 343 = .ok (.aload_n 2, 1) := by decide +kernel
theorem dL_law_344 : decode cL_law 344 = .ok (.aload_n 0, 1) := by decide +kernel
theorem dL_law_345 : decode cL_law 345 = .ok (.iload_n 3, 1) := by decide +kernel
theorem dL_law_346 : decode cL_law 346 = .ok (.iconst 1, 1) := by decide +kernel
theorem dL_law_347 : decode cL_law 347 = .ok (.iadd, 1) := by decide +kernel
theorem dL_law_348 : decode cL_law 348 = .ok (.iaload, 1) := by decide +kernel
theorem dL_law_349 : decode cL_law 349 = .ok (.aload_n 0, 1) := by decide +kernel
theorem dL_law_350 : decode cL_law 350 = .ok (.iload_n 3, 1) := by decide +kernel
theorem dL_law_351 : decode cL_law 351 = .ok (.iconst 2, 1) := by decide +kernel
theorem dL_law_352 : decode cL_law 352 = .ok (.iadd, 1) := by decide +kernel
theorem dL_law_353 : decode cL_law 353 = .ok (.iaload, 1) := by decide +kernel
theorem dL_law_354 : decode cL_law 354 = .ok (.invokevirtual 42, 3) := by decide +kernel
theorem dL_law_357 : decode cL_law 357 = .ok (.if_icmp .eq 1064, 3) := by decide +kernel
theorem dL_law_360 : decode cL_law 360 = .ok (.iconst 0, 1) := by decide +kernel
theorem dL_law_361 : decode cL_law 361 = .ok (.ireturn, 1) := by decide +kernel
theorem dL_law_362 : decode cL_law 362 = .ok (.aload_n 1, 1) := by decide +kernel
theorem dL_law_363 : decode cL_law 363 = .ok (.aload_n 0, 1) := by decide +kernel
theorem dL_law_364 : decode cL_law 364 = .ok (.iload_n 3, 1) := by decide +kernel
theorem dL_law_365 : decode cL_law 365 = .ok (.iconst 1, 1) := by decide +kernel
theorem dL_law_366 : decode cL_law 366 = .ok (.iadd, 1) := by decide +kernel
theorem dL_law_367 : decode cL_law 367 = .ok (.iaload, 1) := by decide +kernel
theorem dL_law_368 : decode cL_law 368 = .ok (.aload_n 0, 1) := by decide +kernel
theorem dL_law_369 : decode cL_law 369 = .ok (.iload_n 3, 1) := by decide +kernel
theorem dL_law_370 : decode cL_law 370 = .ok (.iconst 2, 1) := by decide +kernel
theorem dL_law_371 : decode cL_law 371 = .ok (.iadd, 1) := by decide +kernel
theorem dL_law_372 : decode cL_law 372 = .ok (.iaload, 1) := by decide +kernel
theorem dL_law_373 : decode cL_law 373 = .ok (.invokevirtual 43, 3) := by decide +kernel
theorem dL_law_376 : decode cL_law 376 = .ok (.aload_n 2, 1) := by decide +kernel
theorem dL_law_377 : decode cL_law 377 = .ok (.aload_n 0, 1) := by decide +kernel
theorem dL_law_378 : decode cL_law 378 = .ok (.iload_n 3, 1) := by decide +kernel
theorem dL_law_379 : decode cL_law 379 = .ok (.iconst 1, 1) := by decide +kernel
theorem dL_law_380 : decode cL_law 380 = .ok (.iadd, 1) := by decide +kernel
theorem dL_law_381 : decode cL_law 381 = .ok (.iaload, 1) := by decide +kernel
theorem dL_law_382 : decode cL_law 382 = .ok (.aload_n 0, 1) := by decide +kernel
theorem dL_law_383 : decode cL_law 383 = .ok (.iload_n 3, 1) := by decide +kernel
theorem dL_law_384 : decode cL_law 384 = .ok (.iconst 2, 1) := by decide +kernel
theorem dL_law_385 : decode cL_law 385 = .ok (.iadd, 1) := by decide +kernel
theorem dL_law_386 : decode cL_law 386 = .ok (.iaload, 1) := by decide +kernel
theorem dL_law_387 : decode cL_law 387 = .ok (.invokevirtual 46, 3) := by decide +kernel
theorem dL_law_390 : decode cL_law 390 = .ok (.if_icmp .eq 1031, 3) := by decide +kernel
theorem dL_law_393 : decode cL_law 393 = .ok (.iconst 0, 1) := by decide +kernel
theorem dL_law_394 : decode cL_law 394 = .ok (.ireturn, 1) := by decide +kernel
theorem dL_law_395 : decode cL_law 395 = .ok (.aload_n 1, 1) := by decide +kernel
theorem dL_law_396 : decode cL_law 396 = .ok (.aload_n 0, 1) := by decide +kernel
theorem dL_law_397 : decode cL_law 397 = .ok (.iload_n 3, 1) := by decide +kernel
theorem dL_law_398 : decode cL_law 398 = .ok (.iconst 1, 1) := by decide +kernel
theorem dL_law_399 : decode cL_law 399 = .ok (.iadd, 1) := by decide +kernel
theorem dL_law_400 : decode cL_law 400 = .ok (.iaload, 1) := by decide +kernel
theorem dL_law_401 : decode cL_law 401 = .ok (.aload_n 0, 1) := by decide +kernel
theorem dL_law_402 : decode cL_law 402 = .ok (.iload_n 3, 1) := by decide +kernel
theorem dL_law_403 : decode cL_law 403 = .ok (.iconst 2, 1) := by decide +kernel
theorem dL_law_404 : decode cL_law 404 = .ok (.iadd, 1) := by decide +kernel
theorem dL_law_405 : decode cL_law 405 = .ok (.iaload, 1) := by decide +kernel
theorem dL_law_406 : decode cL_law 406 = .ok (.invokevirtual 47, 3) := by decide +kernel
theorem dL_law_409 : decode cL_law 409 = .ok (.aload_n 2, 1) := by decide +kernel
theorem dL_law_410 : decode cL_law 410 = .ok (.aload_n 0, 1) := by decide +kernel
theorem dL_law_411 : decode cL_law 411 = .ok (.iload_n 3, 1) := by decide +kernel
theorem dL_law_412 : decode cL_law 412 = .ok (.iconst 1, 1) := by decide +kernel
theorem dL_law_413 : decode cL_law 413 = .ok (.iadd, 1) := by decide +kernel
theorem dL_law_414 : decode cL_law 414 = .ok (.iaload, 1) := by decide +kernel
theorem dL_law_415 : decode cL_law 415 = .ok (.aload_n 0, 1) := by decide +kernel
theorem dL_law_416 : decode cL_law 416 = .ok (.iload_n 3, 1) := by decide +kernel
theorem dL_law_417 : decode cL_law 417 = .ok (.iconst 2, 1) := by decide +kernel
theorem dL_law_418 : decode cL_law 418 = .ok (.iadd, 1) := by decide +kernel
theorem dL_law_419 : decode cL_law 419 = .ok (.iaload, 1) := by decide +kernel
theorem dL_law_420 : decode cL_law 420 = .ok (.invokevirtual 50, 3) := by decide +kernel
theorem dL_law_423 : decode cL_law 423 = .ok (.if_icmp .eq 998, 3) := by decide +kernel
theorem dL_law_426 : decode cL_law 426 = .ok (.iconst 0, 1) := by decide +kernel
theorem dL_law_427 : decode cL_law 427 = .ok (.ireturn, 1) := by decide +kernel
theorem dL_law_428 : decode cL_law 428 = .ok (.aload_n 1, 1) := by decide +kernel
theorem dL_law_429 : decode cL_law 429 = .ok (.invokevirtual 51, 3) := by decide +kernel
theorem dL_law_432 : decode cL_law 432 = .ok (.aload_n 2, 1) := by decide +kernel
theorem dL_law_433 : decode cL_law 433 = .ok (.invokevirtual 54, 3) := by decide +kernel
theorem dL_law_436 : decode cL_law 436 = .ok (.if_icmp .eq 985, 3) := by decide +kernel
theorem dL_law_439 : decode cL_law 439 = .ok (.iconst 0, 1) := by decide +kernel
theorem dL_law_440 : decode cL_law 440 = .ok (.ireturn, 1) := by decide +kernel
theorem dL_law_441 : decode cL_law 441 = .ok (.aload_n 1, 1) := by decide +kernel
theorem dL_law_442 : decode cL_law 442 = .ok (.aload_n 0, 1) := by decide +kernel
theorem dL_law_443 : decode cL_law 443 = .ok (.iload_n 3, 1) := by decide +kernel
theorem dL_law_444 : decode cL_law 444 = .ok (.iconst 1, 1) := by decide +kernel
theorem dL_law_445 : decode cL_law 445 = .ok (.iadd, 1) := by decide +kernel
theorem dL_law_446 : decode cL_law 446 = .ok (.iaload, 1) := by decide +kernel
theorem dL_law_447 : decode cL_law 447 = .ok (.aload_n 0, 1) := by decide +kernel
theorem dL_law_448 : decode cL_law 448 = .ok (.iload_n 3, 1) := by decide +kernel
theorem dL_law_449 : decode cL_law 449 = .ok (.iconst 2, 1) := by decide +kernel
theorem dL_law_450 : decode cL_law 450 = .ok (.iadd, 1) := by decide +kernel
theorem dL_law_451 : decode cL_law 451 = .ok (.iaload, 1) := by decide +kernel
theorem dL_law_452 : decode cL_law 452 = .ok (.invokevirtual 55, 3) := by decide +kernel
theorem dL_law_455 : decode cL_law 455 = .ok (.aload_n 2, 1) := by decide +kernel
theorem dL_law_456 : decode cL_law 456 = .ok (.aload_n 0, 1) := by decide +kernel
theorem dL_law_457 : decode cL_law 457 = .ok (.iload_n 3, 1) := by decide +kernel
theorem dL_law_458 : decode cL_law 458 = .ok (.iconst 1, 1) := by decide +kernel
theorem dL_law_459 : decode cL_law 459 = .ok (.iadd, 1) := by decide +kernel
theorem dL_law_460 : decode cL_law 460 = .ok (.iaload, 1) := by decide +kernel
theorem dL_law_461 : decode cL_law 461 = .ok (.aload_n 0, 1) := by decide +kernel
theorem dL_law_462 : decode cL_law 462 = .ok (.iload_n 3, 1) := by decide +kernel
theorem dL_law_463 : decode cL_law 463 = .ok (.iconst 2, 1) := by decide +kernel
theorem dL_law_464 : decode cL_law 464 = .ok (.iadd, 1) := by decide +kernel
theorem dL_law_465 : decode cL_law 465 = .ok (.iaload, 1) := by decide +kernel
theorem dL_law_466 : decode cL_law 466 = .ok (.invokevirtual 58, 3) := by decide +kernel
theorem dL_law_469 : decode cL_law 469 = .ok (.if_icmp .eq 952, 3) := by decide +kernel
theorem dL_law_472 : decode cL_law 472 = .ok (.iconst 0, 1) := by decide +kernel
theorem dL_law_473 : decode cL_law 473 = .ok (.ireturn, 1) := by decide +kernel
theorem dL_law_474 : decode cL_law 474 = .ok (.aload_n 1, 1) := by decide +kernel
theorem dL_law_475 : decode cL_law 475 = .ok (.aload_n 0, 1) := by decide +kernel
theorem dL_law_476 : decode cL_law 476 = .ok (.iload_n 3, 1) := by decide +kernel
theorem dL_law_477 : decode cL_law 477 = .ok (.iconst 1, 1) := by decide +kernel
theorem dL_law_478 : decode cL_law 478 = .ok (.iadd, 1) := by decide +kernel
theorem dL_law_479 : decode cL_law 479 = .ok (.iaload, 1) := by decide +kernel
theorem dL_law_480 : decode cL_law 480 = .ok (.aload_n 0, 1) := by decide +kernel
theorem dL_law_481 : decode cL_law 481 = .ok (.iload_n 3, 1) := by decide +kernel
theorem dL_law_482 : decode cL_law 482 = .ok (.iconst 2, 1) := by decide +kernel
theorem dL_law_483 : decode cL_law 483 = .ok (.iadd, 1) := by decide +kernel
theorem dL_law_484 : decode cL_law 484 = .ok (.iaload, 1) := by decide +kernel
theorem dL_law_485 : decode cL_law 485 = .ok (.invokevirtual 59, 3) := by decide +kernel
theorem dL_law_488 : decode cL_law 488 = .ok (.aload_n 2, 1) := by decide +kernel
theorem dL_law_489 : decode cL_law 489 = .ok (.aload_n 0, 1) := by decide +kernel
theorem dL_law_490 : decode cL_law 490 = .ok (.iload_n 3, 1) := by decide +kernel
theorem dL_law_491 : decode cL_law 491 = .ok (.iconst 1, 1) := by decide +kernel
theorem dL_law_492 : decode cL_law 492 = .ok (.iadd, 1) := by decide +kernel
theorem dL_law_493 : decode cL_law 493 = .ok (.iaload, 1) := by decide +kernel
theorem dL_law_494 : decode cL_law 494 = .ok (.aload_n 0, 1) := by decide +kernel
theorem dL_law_495 : decode cL_law 495 = .ok (.iload_n 3, 1) := by decide +kernel
theorem dL_law_496 : decode cL_law 496 = .ok (.iconst 2, 1) := by decide +kernel
theorem dL_law_497 : decode cL_law 497 = .ok (.iadd, 1) := by decide +kernel
theorem dL_law_498 : decode cL_law 498 = .ok (.iaload, 1) := by decide +kernel
theorem dL_law_499 : decode cL_law 499 = .ok (.invokevirtual 62, 3) := by decide +kernel
theorem dL_law_502 : decode cL_law 502 = .ok (.if_icmp .eq 919, 3) := by decide +kernel
theorem dL_law_505 : decode cL_law 505 = .ok (.iconst 0, 1) := by decide +kernel
theorem dL_law_506 : decode cL_law 506 = .ok (.ireturn, 1) := by decide +kernel
theorem dL_law_507 : decode cL_law 507 = .ok (.aload_n 1, 1) := by decide +kernel
theorem dL_law_508 : decode cL_law 508 = .ok (.aload_n 0, 1) := by decide +kernel
theorem dL_law_509 : decode cL_law 509 = .ok (.iload_n 3, 1) := by decide +kernel
theorem dL_law_510 : decode cL_law 510 = .ok (.iconst 1, 1) := by decide +kernel
theorem dL_law_511 : decode cL_law 511 = .ok (.iadd, 1) := by decide +kernel
theorem dL_law_512 : decode cL_law 512 = .ok (.iaload, 1) := by decide +kernel
theorem dL_law_513 : decode cL_law 513 = .ok (.invokevirtual 63, 3) := by decide +kernel
theorem dL_law_516 : decode cL_law 516 = .ok (.aload_n 2, 1) := by decide +kernel
theorem dL_law_517 : decode cL_law 517 = .ok (.aload_n 0, 1) := by decide +kernel
theorem dL_law_518 : decode cL_law 518 = .ok (.iload_n 3, 1) := by decide +kernel
theorem dL_law_519 : decode cL_law 519 = .ok (.iconst 1, 1) := by decide +kernel
theorem dL_law_520 : decode cL_law 520 = .ok (.iadd, 1) := by decide +kernel
theorem dL_law_521 : decode cL_law 521 = .ok (.iaload, 1) := by decide +kernel
theorem dL_law_522 : decode cL_law 522 = .ok (.invokevirtual 66, 3) := by decide +kernel
theorem dL_law_525 : decode cL_law 525 = .ok (.if_icmp .eq 896, 3) := by decide +kernel
theorem dL_law_528 : decode cL_law 528 = .ok (.iconst 0, 1) := by decide +kernel
theorem dL_law_529 : decode cL_law 529 = .ok (.ireturn, 1) := by decide +kernel
theorem dL_law_530 : decode cL_law 530 = .ok (.aload_n 1, 1) := by decide +kernel
theorem dL_law_531 : decode cL_law 531 = .ok (.aload_n 0, 1) := by decide +kernel
theorem dL_law_532 : decode cL_law 532 = .ok (.iload_n 3, 1) := by decide +kernel
theorem dL_law_533 : decode cL_law 533 = .ok (.iconst 1, 1) := by decide +kernel
theorem dL_law_534 : decode cL_law 534 = .ok (.iadd, 1) := by decide +kernel
theorem dL_law_535 : decode cL_law 535 = .ok (.iaload, 1) := by decide +kernel
theorem dL_law_536 : decode cL_law 536 = .ok (.aload_n 0, 1) := by decide +kernel
theorem dL_law_537 : decode cL_law 537 = .ok (.iload_n 3, 1) := by decide +kernel
theorem dL_law_538 : decode cL_law 538 = .ok (.iconst 2, 1) := by decide +kernel
theorem dL_law_539 : decode cL_law 539 = .ok (.iadd, 1) := by decide +kernel
theorem dL_law_540 : decode cL_law 540 = .ok (.iaload, 1) := by decide +kernel
theorem dL_law_541 : decode cL_law 541 = .ok (.invokevirtual 67, 3) := by decide +kernel
theorem dL_law_544 : decode cL_law 544 = .ok (.aload_n 2, 1) := by decide +kernel
theorem dL_law_545 : decode cL_law 545 = .ok (.aload_n 0, 1) := by decide +kernel
theorem dL_law_546 : decode cL_law 546 = .ok (.iload_n 3, 1) := by decide +kernel
theorem dL_law_547 : decode cL_law 547 = .ok (.iconst 1, 1) := by decide +kernel
theorem dL_law_548 : decode cL_law 548 = .ok (.iadd, 1) := by decide +kernel
theorem dL_law_549 : decode cL_law 549 = .ok (.iaload, 1) := by decide +kernel
theorem dL_law_550 : decode cL_law 550 = .ok (.aload_n 0, 1) := by decide +kernel
theorem dL_law_551 : decode cL_law 551 = .ok (.iload_n 3, 1) := by decide +kernel
theorem dL_law_552 : decode cL_law 552 = .ok (.iconst 2, 1) := by decide +kernel
theorem dL_law_553 : decode cL_law 553 = .ok (.iadd, 1) := by decide +kernel
theorem dL_law_554 : decode cL_law 554 = .ok (.iaload, 1) := by decide +kernel
theorem dL_law_555 : decode cL_law 555 = .ok (.invokevirtual 71, 3) := by decide +kernel
theorem dL_law_558 : decode cL_law 558 = .ok (.lcmp, 1) := by decide +kernel
theorem dL_law_559 : decode cL_law 559 = .ok (.ifCond .eq 862, 3) := by decide +kernel
theorem dL_law_562 : decode cL_law 562 = .ok (.iconst 0, 1) := by decide +kernel
theorem dL_law_563 : decode cL_law 563 = .ok (.ireturn, 1) := by decide +kernel
theorem dL_law_564 : decode cL_law 564 = .ok (.aload_n 1, 1) := by decide +kernel
theorem dL_law_565 : decode cL_law 565 = .ok (.aload_n 0, 1) := by decide +kernel
theorem dL_law_566 : decode cL_law 566 = .ok (.iload_n 3, 1) := by decide +kernel
theorem dL_law_567 : decode cL_law 567 = .ok (.iconst 1, 1) := by decide +kernel
theorem dL_law_568 : decode cL_law 568 = .ok (.iadd, 1) := by decide +kernel
theorem dL_law_569 : decode cL_law 569 = .ok (.iaload, 1) := by decide +kernel
theorem dL_law_570 : decode cL_law 570 = .ok (.invokevirtual 72, 3) := by decide +kernel
theorem dL_law_573 : decode cL_law 573 = .ok (.aload_n 2, 1) := by decide +kernel
theorem dL_law_574 : decode cL_law 574 = .ok (.aload_n 0, 1) := by decide +kernel
theorem dL_law_575 : decode cL_law 575 = .ok (.iload_n 3, 1) := by decide +kernel
theorem dL_law_576 : decode cL_law 576 = .ok (.iconst 1, 1) := by decide +kernel
theorem dL_law_577 : decode cL_law 577 = .ok (.iadd, 1) := by decide +kernel
theorem dL_law_578 : decode cL_law 578 = .ok (.iaload, 1) := by decide +kernel
theorem dL_law_579 : decode cL_law 579 = .ok (.invokevirtual 75, 3) := by decide +kernel
theorem dL_law_582 : decode cL_law 582 = .ok (.if_icmp .eq 839, 3) := by decide +kernel
theorem dL_law_585 : decode cL_law 585 = .ok (.iconst 0, 1) := by decide +kernel
theorem dL_law_586 : decode cL_law 586 = .ok (.ireturn, 1) := by decide +kernel
theorem dL_law_587 : decode cL_law 587 = .ok (.aload_n 1, 1) := by decide +kernel
theorem dL_law_588 : decode cL_law 588 = .ok (.invokevirtual 76, 3) := by decide +kernel
theorem dL_law_591 : decode cL_law 591 = .ok (.aload_n 2, 1) := by decide +kernel
theorem dL_law_592 : decode cL_law 592 = .ok (.invokevirtual 79, 3) := by decide +kernel
theorem dL_law_595 : decode cL_law 595 = .ok (.if_icmp .eq 826, 3) := by decide +kernel
theorem dL_law_598 : decode cL_law 598 = .ok (.iconst 0, 1) := by decide +kernel
theorem dL_law_599 : decode cL_law 599 = .ok (.ireturn, 1) := by decide +kernel
theorem dL_law_600 : decode cL_law 600 = .ok (.aload_n 1, 1) := by decide +kernel
theorem dL_law_601 : decode cL_law 601 = .ok (.aload_n 0, 1) := by decide +kernel
theorem dL_law_602 : decode cL_law 602 = .ok (.iload_n 3, 1) := by decide +kernel
theorem dL_law_603 : decode cL_law 603 = .ok (.iconst 1, 1) := by decide +kernel
theorem dL_law_604 : decode cL_law 604 = .ok (.iadd, 1) := by decide +kernel
theorem dL_law_605 : decode cL_law 605 = .ok (.iaload, 1) := by decide +kernel
theorem dL_law_606 : decode cL_law 606 = .ok (.invokevirtual 80, 3) := by decide +kernel
theorem dL_law_609 : decode cL_law 609 = .ok (.aload_n 2, 1) := by decide +kernel
theorem dL_law_610 : decode cL_law 610 = .ok (.aload_n 0, 1) := by decide +kernel
theorem dL_law_611 : decode cL_law 611 = .ok (.iload_n 3, 1) := by decide +kernel
theorem dL_law_612 : decode cL_law 612 = .ok (.iconst 1, 1) := by decide +kernel
theorem dL_law_613 : decode cL_law 613 = .ok (.iadd, 1) := by decide +kernel
theorem dL_law_614 : decode cL_law 614 = .ok (.iaload, 1) := by decide +kernel
theorem dL_law_615 : decode cL_law 615 = .ok (.invokevirtual 83, 3) := by decide +kernel
theorem dL_law_618 : decode cL_law 618 = .ok (.if_icmp .eq 803, 3) := by decide +kernel
theorem dL_law_621 : decode cL_law 621 = .ok (.iconst 0, 1) := by decide +kernel
theorem dL_law_622 : decode cL_law 622 = .ok (.ireturn, 1) := by decide +kernel
theorem dL_law_623 : decode cL_law 623 = .ok (.aload_n 1, 1) := by decide +kernel
theorem dL_law_624 : decode cL_law 624 = .ok (.aload_n 0, 1) := by decide +kernel
theorem dL_law_625 : decode cL_law 625 = .ok (.iload_n 3, 1) := by decide +kernel
theorem dL_law_626 : decode cL_law 626 = .ok (.iconst 1, 1) := by decide +kernel
theorem dL_law_627 : decode cL_law 627 = .ok (.iadd, 1) := by decide +kernel
theorem dL_law_628 : decode cL_law 628 = .ok (.iaload, 1) := by decide +kernel
theorem dL_law_629 : decode cL_law 629 = .ok (.invokevirtual 84, 3) := by decide +kernel
theorem dL_law_632 : decode cL_law 632 = .ok (.aload_n 2, 1) := by decide +kernel
theorem dL_law_633 : decode cL_law 633 = .ok (.aload_n 0, 1) := by decide +kernel
theorem dL_law_634 : decode cL_law 634 = .ok (.iload_n 3, 1) := by decide +kernel
theorem dL_law_635 : decode cL_law 635 = .ok (.iconst 1, 1) := by decide +kernel
theorem dL_law_636 : decode cL_law 636 = .ok (.iadd, 1) := by decide +kernel
theorem dL_law_637 : decode cL_law 637 = .ok (.iaload, 1) := by decide +kernel
theorem dL_law_638 : decode cL_law 638 = .ok (.invokevirtual 87, 3) := by decide +kernel
theorem dL_law_641 : decode cL_law 641 = .ok (.if_icmp .eq 780, 3) := by decide +kernel
theorem dL_law_644 : decode cL_law 644 = .ok (.iconst 0, 1) := by decide +kernel
theorem dL_law_645 : decode cL_law 645 = .ok (.ireturn, 1) := by decide +kernel
theorem dL_law_646 : decode cL_law 646 = .ok (.aload_n 1, 1) := by decide +kernel
theorem dL_law_647 : decode cL_law 647 = .ok (.aload_n 0, 1) := by decide +kernel
theorem dL_law_648 : decode cL_law 648 = .ok (.iload_n 3, 1) := by decide +kernel
theorem dL_law_649 : decode cL_law 649 = .ok (.iconst 1, 1) := by decide +kernel
theorem dL_law_650 : decode cL_law 650 = .ok (.iadd, 1) := by decide +kernel
theorem dL_law_651 : decode cL_law 651 = .ok (.iaload, 1) := by decide +kernel
theorem dL_law_652 : decode cL_law 652 = .ok (.invokevirtual 88, 3) := by decide +kernel
theorem dL_law_655 : decode cL_law 655 = .ok (.aload_n 2, 1) := by decide +kernel
theorem dL_law_656 : decode cL_law 656 = .ok (.aload_n 0, 1) := by decide +kernel
theorem dL_law_657 : decode cL_law 657 = .ok (.iload_n 3, 1) := by decide +kernel
theorem dL_law_658 : decode cL_law 658 = .ok (.iconst 1, 1) := by decide +kernel
theorem dL_law_659 : decode cL_law 659 = .ok (.iadd, 1) := by decide +kernel
theorem dL_law_660 : decode cL_law 660 = .ok (.iaload, 1) := by decide +kernel
theorem dL_law_661 : decode cL_law 661 = .ok (.invokevirtual 91, 3) := by decide +kernel
theorem dL_law_664 : decode cL_law 664 = .ok (.if_icmp .eq 757, 3) := by decide +kernel
theorem dL_law_667 : decode cL_law 667 = .ok (.iconst 0, 1) := by decide +kernel
theorem dL_law_668 : decode cL_law 668 = .ok (.ireturn, 1) := by decide +kernel
theorem dL_law_669 : decode cL_law 669 = .ok (.aload_n 1, 1) := by decide +kernel
theorem dL_law_670 : decode cL_law 670 = .ok (.aload_n 0, 1) := by decide +kernel
theorem dL_law_671 : decode cL_law 671 = .ok (.iload_n 3, 1) := by decide +kernel
theorem dL_law_672 : decode cL_law 672 = .ok (.iconst 1, 1) := by decide +kernel
theorem dL_law_673 : decode cL_law 673 = .ok (.iadd, 1) := by decide +kernel
theorem dL_law_674 : decode cL_law 674 = .ok (.iaload, 1) := by decide +kernel
theorem dL_law_675 : decode cL_law 675 = .ok (.invokevirtual 92, 3) := by decide +kernel
theorem dL_law_678 : decode cL_law 678 = .ok (.aload_n 2, 1) := by decide +kernel
theorem dL_law_679 : decode cL_law 679 = .ok (.aload_n 0, 1) := by decide +kernel
theorem dL_law_680 : decode cL_law 680 = .ok (.iload_n 3, 1) := by decide +kernel
theorem dL_law_681 : decode cL_law 681 = .ok (.iconst 1, 1) := by decide +kernel
theorem dL_law_682 : decode cL_law 682 = .ok (.iadd, 1) := by decide +kernel
theorem dL_law_683 : decode cL_law 683 = .ok (.iaload, 1) := by decide +kernel
theorem dL_law_684 : decode cL_law 684 = .ok (.invokevirtual 95, 3) := by decide +kernel
theorem dL_law_687 : decode cL_law 687 = .ok (.if_icmp .eq 734, 3) := by decide +kernel
theorem dL_law_690 : decode cL_law 690 = .ok (.iconst 0, 1) := by decide +kernel
theorem dL_law_691 : decode cL_law 691 = .ok (.ireturn, 1) := by decide +kernel
theorem dL_law_692 : decode cL_law 692 = .ok (.aload_n 1, 1) := by decide +kernel
theorem dL_law_693 : decode cL_law 693 = .ok (.invokevirtual 96, 3) := by decide +kernel
theorem dL_law_696 : decode cL_law 696 = .ok (.aload_n 2, 1) := by decide +kernel
theorem dL_law_697 : decode cL_law 697 = .ok (.invokevirtual 99, 3) := by decide +kernel
theorem dL_law_700 : decode cL_law 700 = .ok (.if_icmp .eq 721, 3) := by decide +kernel
theorem dL_law_703 : decode cL_law 703 = .ok (.iconst 0, 1) := by decide +kernel
theorem dL_law_704 : decode cL_law 704 = .ok (.ireturn, 1) := by decide +kernel
theorem dL_law_705 : decode cL_law 705 = .ok (.aload_n 1, 1) := by decide +kernel
theorem dL_law_706 : decode cL_law 706 = .ok (.aload_n 0, 1) := by decide +kernel
theorem dL_law_707 : decode cL_law 707 = .ok (.iload_n 3, 1) := by decide +kernel
theorem dL_law_708 : decode cL_law 708 = .ok (.iconst 1, 1) := by decide +kernel
theorem dL_law_709 : decode cL_law 709 = .ok (.iadd, 1) := by decide +kernel
theorem dL_law_710 : decode cL_law 710 = .ok (.iaload, 1) := by decide +kernel
theorem dL_law_711 : decode cL_law 711 = .ok (.aload_n 0, 1) := by decide +kernel
theorem dL_law_712 : decode cL_law 712 = .ok (.iload_n 3, 1) := by decide +kernel
theorem dL_law_713 : decode cL_law 713 = .ok (.iconst 2, 1) := by decide +kernel
theorem dL_law_714 : decode cL_law 714 = .ok (.iadd, 1) := by decide +kernel
theorem dL_law_715 : decode cL_law 715 = .ok (.iaload, 1) := by decide +kernel
theorem dL_law_716 : decode cL_law 716 = .ok (.invokevirtual 100, 3) := by decide +kernel
theorem dL_law_719 : decode cL_law 719 = .ok (.aload_n 2, 1) := by decide +kernel
theorem dL_law_720 : decode cL_law 720 = .ok (.aload_n 0, 1) := by decide +kernel
theorem dL_law_721 : decode cL_law 721 = .ok (.iload_n 3, 1) := by decide +kernel
theorem dL_law_722 : decode cL_law 722 = .ok (.iconst 1, 1) := by decide +kernel
theorem dL_law_723 : decode cL_law 723 = .ok (.iadd, 1) := by decide +kernel
theorem dL_law_724 : decode cL_law 724 = .ok (.iaload, 1) := by decide +kernel
theorem dL_law_725 : decode cL_law 725 = .ok (.aload_n 0, 1) := by decide +kernel
theorem dL_law_726 : decode cL_law 726 = .ok (.iload_n 3, 1) := by decide +kernel
theorem dL_law_727 : decode cL_law 727 = .ok (.iconst 2, 1) := by decide +kernel
theorem dL_law_728 : decode cL_law 728 = .ok (.iadd, 1) := by decide +kernel
theorem dL_law_729 : decode cL_law 729 = .ok (.iaload, 1) := by decide +kernel
theorem dL_law_730 : decode cL_law 730 = .ok (.invokevirtual 103, 3) := by decide +kernel
