theorem dX0_init_0 : decode cX0_init 0 = .ok (.aload_n 0, 1) := by decide +kernel
theorem dX0_init_1 : decode cX0_init 1 = .ok (.invokespecial 3, 3) := by decide +kernel
theorem dX0_init_4 : decode cX0_init 4 = .ok (.aload_n 0, 1) := by decide +kernel
theorem dX0_init_5 : decode cX0_init 5 = .ok (.new 9, 3) := by decide +kernel
theorem dX0_init_8 : decode cX0_init 8 = .ok (.dup, 1) := by decide +kernel
theorem dX0_init_9 : decode cX0_init 9 = .ok (.invokespecial 11, 3) := by decide +kernel
theorem dX0_init_12 : decode cX0_init 12 = .ok (.putfield 12, 3) := by decide +kernel
theorem dX0_init_15 : decode cX0_init 15 = .ok (.aload_n 0, 1) := by decide +kernel
theorem dX0_init_16 : decode cX0_init 16 = .ok (.bipush 40, 2) := by decide +kernel
theorem dX0_init_18 : decode cX0_init 18 = .ok (.newarray .int, 2) := by decide +kernel
theorem dX0_init_20 : decode cX0_init 20 = .ok (.putfield 18, 3) := by decide +kernel
theorem dX0_init_23 : decode cX0_init 23 = .ok (.aload_n 0, 1) := by decide +kernel
theorem dX0_init_24 : decode cX0_init 24 = .ok (.sipush 4096, 3) := by decide +kernel
theorem dX0_init_27 : decode cX0_init 27 = .ok (.newarray .byte, 2) := by decide +kernel
theorem dX0_init_29 : decode cX0_init 29 = .ok (.putfield 22, 3) := by decide +kernel
theorem dX0_init_32 : decode cX0_init 32 = .ok (.return_, 1) := by decide +kernel
theorem dX0_aimAt_0 : decode cX0_aimAt 0 = .ok (.aload_n 0, 1) := by decide +kernel
theorem dX0_aimAt_1 : decode cX0_aimAt 1 = .ok (.aload_n 1, 1) := by decide +kernel
theorem dX0_aimAt_2 : decode cX0_aimAt 2 = .ok (.putfield 12, 3) := by decide +kernel
theorem dX0_aimAt_5 : decode cX0_aimAt 5 = .ok (.aload_n 0, 1) := by decide +kernel
theorem dX0_aimAt_6 : decode cX0_aimAt 6 = .ok (.iload_n 2, 1) := by decide +kernel
theorem dX0_aimAt_7 : decode cX0_aimAt 7 = .ok (.putfield 26, 3) := by decide +kernel
theorem dX0_aimAt_10 : decode cX0_aimAt 10 = .ok (.aload_n 0, 1) := by decide +kernel
theorem dX0_aimAt_11 : decode cX0_aimAt 11 = .ok (.iload_n 3, 1) := by decide +kernel
theorem dX0_aimAt_12 : decode cX0_aimAt 12 = .ok (.putfield 30, 3) := by decide +kernel
theorem dX0_aimAt_15 : decode cX0_aimAt 15 = .ok (.aload_n 0, 1) := by decide +kernel
theorem dX0_aimAt_16 : decode cX0_aimAt 16 = .ok (.iload 4, 2) := by decide +kernel
theorem dX0_aimAt_18 : decode cX0_aimAt 18 = .ok (.putfield 33, 3) := by decide +kernel
theorem dX0_aimAt_21 : decode cX0_aimAt 21 = .ok (.aload_n 0, 1) := by decide +kernel
theorem dX0_aimAt_22 : decode cX0_aimAt 22 = .ok (.iload 5, 2) := by decide +kernel
theorem dX0_aimAt_24 : decode cX0_aimAt 24 = .ok (.putfield 36, 3) := by decide +kernel
theorem dX0_aimAt_27 : decode cX0_aimAt 27 = .ok (.aload_n 0, 1) := by decide +kernel
theorem dX0_aimAt_28 : decode cX0_aimAt 28 = .ok (.getfield 22, 3) := by decide +kernel
theorem dX0_aimAt_31 : decode cX0_aimAt 31 = .ok (.iconst 0, 1) := by decide +kernel
theorem dX0_aimAt_32 : decode cX0_aimAt 32 = .ok (.invokestatic 39, 3) := by decide +kernel
theorem dX0_aimAt_35 : decode cX0_aimAt 35 = .ok (.iload_n 2, 1) := by decide +kernel
theorem dX0_aimAt_36 : decode cX0_aimAt 36 = .ok (.istore 6, 2) := by decide +kernel
theorem dX0_aimAt_38 : decode cX0_aimAt 38 = .ok (.iload 6, 2) := by decide +kernel
theorem dX0_aimAt_40 : decode cX0_aimAt 40 = .ok (.iload_n 3, 1) := by decide +kernel
theorem dX0_aimAt_41 : decode cX0_aimAt 41 = .ok (.if_icmp .ge 81, 3) := by decide +kernel
theorem dX0_aimAt_44 : decode cX0_aimAt 44 = .ok (.iconst 0, 1) := by decide +kernel
theorem dX0_aimAt_45 : decode cX0_aimAt 45 = .ok (.istore 7, 2) := by decide +kernel
theorem dX0_aimAt_47 : decode cX0_aimAt 47 = .ok (.iload 7, 2) := by decide +kernel
theorem dX0_aimAt_49 : decode cX0_aimAt 49 = .ok (.aload_n 0, 1) := by decide +kernel
theorem dX0_aimAt_50 : decode cX0_aimAt 50 = .ok (.getfield 12, 3) := by decide +kernel
theorem dX0_aimAt_53 : decode cX0_aimAt 53 = .ok (.getfield 45, 3) := by decide +kernel
theorem dX0_aimAt_56 : decode cX0_aimAt 56 = .ok (.if_icmp .ge 60, 3) := by decide +kernel
theorem dX0_aimAt_59 : decode cX0_aimAt 59 = .ok (.aload_n 0, 1) := by decide +kernel
theorem dX0_aimAt_60 : decode cX0_aimAt 60 = .ok (.getfield 12, 3) := by decide +kernel
theorem dX0_aimAt_63 : decode cX0_aimAt 63 = .ok (.iload 7, 2) := by decide +kernel
theorem dX0_aimAt_65 : decode cX0_aimAt 65 = .ok (.invokevirtual 48, 3) := by decide +kernel
theorem dX0_aimAt_68 : decode cX0_aimAt 68 = .ok (.iconst 0, 1) := by decide +kernel
theorem dX0_aimAt_69 : decode cX0_aimAt 69 = .ok (.aload_n 0, 1) := by decide +kernel
theorem dX0_aimAt_70 : decode cX0_aimAt 70 = .ok (.getfield 12, 3) := by decide +kernel
theorem dX0_aimAt_73 : decode cX0_aimAt 73 = .ok (.getfield 52, 3) := by decide +kernel
theorem dX0_aimAt_76 : decode cX0_aimAt 76 = .ok (.iload 6, 2) := by decide +kernel
theorem dX0_aimAt_78 : decode cX0_aimAt 78 = .ok (.iaload, 1) := by decide +kernel
theorem dX0_aimAt_79 : decode cX0_aimAt 79 = .ok (.invokestatic 55, 3) := by decide +kernel
theorem dX0_aimAt_82 : decode cX0_aimAt 82 = .ok (.istore 8, 2) := by decide +kernel
theorem dX0_aimAt_84 : decode cX0_aimAt 84 = .ok (.aload_n 0, 1) := by decide +kernel
theorem dX0_aimAt_85 : decode cX0_aimAt 85 = .ok (.getfield 18, 3) := by decide +kernel
theorem dX0_aimAt_88 : decode cX0_aimAt 88 = .ok (.iload 6, 2) := by decide +kernel
theorem dX0_aimAt_90 : decode cX0_aimAt 90 = .ok (.bipush 10, 2) := by decide +kernel
theorem dX0_aimAt_92 : decode cX0_aimAt 92 = .ok (.imul, 1) := by decide +kernel
theorem dX0_aimAt_93 : decode cX0_aimAt 93 = .ok (.iload 7, 2) := by decide +kernel
theorem dX0_aimAt_95 : decode cX0_aimAt 95 = .ok (.iadd, 1) := by decide +kernel
theorem dX0_aimAt_96 : decode cX0_aimAt 96 = .ok (.iload 8, 2) := by decide +kernel
theorem dX0_aimAt_98 : decode cX0_aimAt 98 = .ok (.iconst (-1), 1) := by decide +kernel
theorem dX0_aimAt_99 : decode cX0_aimAt 99 = .ok (.if_icmp .ne 8, 3) := by decide +kernel
theorem dX0_aimAt_102 : decode cX0_aimAt 102 = .ok (.ldc 59, 2) := by decide +kernel
theorem dX0_aimAt_104 : decode cX0_aimAt 104 = .ok (.goto 5, 3) := by decide +kernel
theorem dX0_aimAt_107 : decode cX0_aimAt 107 = .ok (.iload 8, 2) := by decide +kernel
theorem dX0_aimAt_109 : decode cX0_aimAt 109 = .ok (.iastore, 1) := by decide +kernel
theorem dX0_aimAt_110 : decode cX0_aimAt 110 = .ok (.iinc 7 1, 3) := by decide +kernel
theorem dX0_aimAt_113 : decode cX0_aimAt 113 = .ok (.goto (-66), 3) := by decide +kernel
theorem dX0_aimAt_116 : decode cX0_aimAt 116 = .ok (.iinc 6 1, 3) := by decide +kernel
theorem dX0_aimAt_119 : decode cX0_aimAt 119 = .ok (.goto (-81), 3) := by decide +kernel
theorem dX0_aimAt_122 : decode cX0_aimAt 122 = .ok (.return_, 1) := by decide +kernel
theorem dX0_addedBy_0 : decode cX0_addedBy 0 = .ok (.aload_n 1, 1) := by decide +kernel
theorem dX0_addedBy_1 : decode cX0_addedBy 1 = .ok (.getfield 60, 3) := by decide +kernel
theorem dX0_addedBy_4 : decode cX0_addedBy 4 = .ok (.iload_n 3, 1) := by decide +kernel
theorem dX0_addedBy_5 : decode cX0_addedBy 5 = .ok (.iaload, 1) := by decide +kernel
theorem dX0_addedBy_6 : decode cX0_addedBy 6 = .ok (.istore 4, 2) := by decide +kernel
theorem dX0_addedBy_8 : decode cX0_addedBy 8 = .ok (.aload_n 1, 1) := by decide +kernel
theorem dX0_addedBy_9 : decode cX0_addedBy 9 = .ok (.iload_n 2, 1) := by decide +kernel
theorem dX0_addedBy_10 : decode cX0_addedBy 10 = .ok (.iload_n 3, 1) := by decide +kernel
theorem dX0_addedBy_11 : decode cX0_addedBy 11 = .ok (.iload 4, 2) := by decide +kernel
theorem dX0_addedBy_13 : decode cX0_addedBy 13 = .ok (.aload_n 0, 1) := by decide +kernel
theorem dX0_addedBy_14 : decode cX0_addedBy 14 = .ok (.getfield 36, 3) := by decide +kernel
theorem dX0_addedBy_17 : decode cX0_addedBy 17 = .ok (.invokevirtual 63, 3) := by decide +kernel
theorem dX0_addedBy_20 : decode cX0_addedBy 20 = .ok (.ifCond .eq 12, 3) := by decide +kernel
theorem dX0_addedBy_23 : decode cX0_addedBy 23 = .ok (.lconst 1, 1) := by decide +kernel
theorem dX0_addedBy_24 : decode cX0_addedBy 24 = .ok (.iload 4, 2) := by decide +kernel
theorem dX0_addedBy_26 : decode cX0_addedBy 26 = .ok (.iconst 3, 1) := by decide +kernel
theorem dX0_addedBy_27 : decode cX0_addedBy 27 = .ok (.imul, 1) := by decide +kernel
theorem dX0_addedBy_28 : decode cX0_addedBy 28 = .ok (.lshl, 1) := by decide +kernel
theorem dX0_addedBy_29 : decode cX0_addedBy 29 = .ok (.goto 4, 3) := by decide +kernel
theorem dX0_addedBy_32 : decode cX0_addedBy 32 = .ok (.lconst 0, 1) := by decide +kernel
theorem dX0_addedBy_33 : decode cX0_addedBy 33 = .ok (.lreturn, 1) := by decide +kernel
theorem dX0_judge_0 : decode cX0_judge 0 = .ok (.aload_n 0, 1) := by decide +kernel
theorem dX0_judge_1 : decode cX0_judge 1 = .ok (.lload_n 1, 1) := by decide +kernel
theorem dX0_judge_2 : decode cX0_judge 2 = .ok (.invokevirtual 67, 3) := by decide +kernel
theorem dX0_judge_5 : decode cX0_judge 5 = .ok (.ifCond .eq 5, 3) := by decide +kernel
theorem dX0_judge_8 : decode cX0_judge 8 = .ok (.iconst 1, 1) := by decide +kernel
theorem dX0_judge_9 : decode cX0_judge 9 = .ok (.ireturn, 1) := by decide +kernel
theorem dX0_judge_10 : decode cX0_judge 10 = .ok (.aload_n 0, 1) := by decide +kernel
theorem dX0_judge_11 : decode cX0_judge 11 = .ok (.lload_n 3, 1) := by decide +kernel
theorem dX0_judge_12 : decode cX0_judge 12 = .ok (.invokevirtual 67, 3) := by decide +kernel
theorem dX0_judge_15 : decode cX0_judge 15 = .ok (.ifCond .eq 7, 3) := by decide +kernel
theorem dX0_judge_18 : decode cX0_judge 18 = .ok (.iconst 2, 1) := by decide +kernel
theorem dX0_judge_19 : decode cX0_judge 19 = .ok (.goto 4, 3) := by decide +kernel
theorem dX0_judge_22 : decode cX0_judge 22 = .ok (.iconst 0, 1) := by decide +kernel
theorem dX0_judge_23 : decode cX0_judge 23 = .ok (.ireturn, 1) := by decide +kernel
theorem dX0_allCome_0 : decode cX0_allCome 0 = .ok (.aload_n 0, 1) := by decide +kernel
theorem dX0_allCome_1 : decode cX0_allCome 1 = .ok (.getfield 26, 3) := by decide +kernel
theorem dX0_allCome_4 : decode cX0_allCome 4 = .ok (.istore_n 3, 1) := by decide +kernel
theorem dX0_allCome_5 : decode cX0_allCome 5 = .ok (.iload_n 3, 1) := by decide +kernel
theorem dX0_allCome_6 : decode cX0_allCome 6 = .ok (.aload_n 0, 1) := by decide +kernel
theorem dX0_allCome_7 : decode cX0_allCome 7 = .ok (.getfield 30, 3) := by decide +kernel
theorem dX0_allCome_10 : decode cX0_allCome 10 = .ok (.if_icmp .ge 148, 3) := by decide +kernel
theorem dX0_allCome_13 : decode cX0_allCome 13 = .ok (.iconst 0, 1) := by decide +kernel
theorem dX0_allCome_14 : decode cX0_allCome 14 = .ok (.istore 4, 2) := by decide +kernel
theorem dX0_allCome_16 : decode cX0_allCome 16 = .ok (.iconst 0, 1) := by decide +kernel
theorem dX0_allCome_17 : decode cX0_allCome 17 = .ok (.istore 5, 2) := by decide +kernel
theorem dX0_allCome_19 : decode cX0_allCome 19 = .ok (.iload 5, 2) := by decide +kernel
theorem dX0_allCome_21 : decode cX0_allCome 21 = .ok (.aload_n 0, 1) := by decide +kernel
theorem dX0_allCome_22 : decode cX0_allCome 22 = .ok (.getfield 12, 3) := by decide +kernel
theorem dX0_allCome_25 : decode cX0_allCome 25 = .ok (.getfield 45, 3) := by decide +kernel
theorem dX0_allCome_28 : decode cX0_allCome 28 = .ok (.if_icmp .ge 45, 3) := by decide +kernel
theorem dX0_allCome_31 : decode cX0_allCome 31 = .ok (.lload_n 1, 1) := by decide +kernel
theorem dX0_allCome_32 : decode cX0_allCome 32 = .ok (.iload 5, 2) := by decide +kernel
theorem dX0_allCome_34 : decode cX0_allCome 34 = .ok (.iconst 3, 1) := by decide +kernel
theorem dX0_allCome_35 : decode cX0_allCome 35 = .ok (.imul, 1) := by decide +kernel
theorem dX0_allCome_36 : decode cX0_allCome 36 = .ok (.lshr, 1) := by decide +kernel
theorem dX0_allCome_37 : decode cX0_allCome 37 = .ok (.ldc2_w 71, 3) := by decide +kernel
theorem dX0_allCome_40 : decode cX0_allCome 40 = .ok (.land, 1) := by decide +kernel
theorem dX0_allCome_41 : decode cX0_allCome 41 = .ok (.aload_n 0, 1) := by decide +kernel
theorem dX0_allCome_42 : decode cX0_allCome 42 = .ok (.getfield 18, 3) := by decide +kernel
theorem dX0_allCome_45 : decode cX0_allCome 45 = .ok (.iload_n 3, 1) := by decide +kernel
theorem dX0_allCome_46 : decode cX0_allCome 46 = .ok (.bipush 10, 2) := by decide +kernel
theorem dX0_allCome_48 : decode cX0_allCome 48 = .ok (.imul, 1) := by decide +kernel
theorem dX0_allCome_49 : decode cX0_allCome 49 = .ok (.iload 5, 2) := by decide +kernel
theorem dX0_allCome_51 : decode cX0_allCome 51 = .ok (.iadd, 1) := by decide +kernel
theorem dX0_allCome_52 : decode cX0_allCome 52 = .ok (.iaload, 1) := by decide +kernel
theorem dX0_allCome_53 : decode cX0_allCome 53 = .ok (.i2l, 1) := by decide +kernel
theorem dX0_allCome_54 : decode cX0_allCome 54 = .ok (.lcmp, 1) := by decide +kernel
theorem dX0_allCome_55 : decode cX0_allCome 55 = .ok (.ifCond .lt 12, 3) := by decide +kernel
theorem dX0_allCome_58 : decode cX0_allCome 58 = .ok (.iload 4, 2) := by decide +kernel
theorem dX0_allCome_60 : decode cX0_allCome 60 = .ok (.iconst 1, 1) := by decide +kernel
theorem dX0_allCome_61 : decode cX0_allCome 61 = .ok (.iload 5, 2) := by decide +kernel
theorem dX0_allCome_63 : decode cX0_allCome 63 = .ok (.ishl, 1) := by decide +kernel
theorem dX0_allCome_64 : decode cX0_allCome 64 = .ok (.ior, 1) := by decide +kernel
theorem dX0_allCome_65 : decode cX0_allCome 65 = .ok (.istore 4, 2) := by decide +kernel
theorem dX0_allCome_67 : decode cX0_allCome 67 = .ok (.iinc 5 1, 3) := by decide +kernel
theorem dX0_allCome_70 : decode cX0_allCome 70 = .ok (.goto (-51), 3) := by decide +kernel
theorem dX0_allCome_73 : decode cX0_allCome 73 = .ok (.iload_n 3, 1) := by decide +kernel
theorem dX0_allCome_74 : decode cX0_allCome 74 = .ok (.sipush 1024, 3) := by decide +kernel
theorem dX0_allCome_77 : decode cX0_allCome 77 = .ok (.imul, 1) := by decide +kernel
theorem dX0_allCome_78 : decode cX0_allCome 78 = .ok (.iload 4, 2) := by decide +kernel
theorem dX0_allCome_80 : decode cX0_allCome 80 = .ok (.iadd, 1) := by decide +kernel
theorem dX0_allCome_81 : decode cX0_allCome 81 = .ok (.istore 5, 2) := by decide +kernel
theorem dX0_allCome_83 : decode cX0_allCome 83 = .ok (.aload_n 0, 1) := by decide +kernel
theorem dX0_allCome_84 : decode cX0_allCome 84 = .ok (.getfield 22, 3) := by decide +kernel
theorem dX0_allCome_87 : decode cX0_allCome 87 = .ok (.iload 5, 2) := by decide +kernel
theorem dX0_allCome_89 : decode cX0_allCome 89 = .ok (.baload, 1) := by decide +kernel
theorem dX0_allCome_90 : decode cX0_allCome 90 = .ok (.ifCond .ne 49, 3) := by decide +kernel
theorem dX0_allCome_93 : decode cX0_allCome 93 = .ok (.aload_n 0, 1) := by decide +kernel
theorem dX0_allCome_94 : decode cX0_allCome 94 = .ok (.getfield 12, 3) := by decide +kernel
theorem dX0_allCome_97 : decode cX0_allCome 97 = .ok (.aload_n 0, 1) := by decide +kernel
theorem dX0_allCome_98 : decode cX0_allCome 98 = .ok (.getfield 12, 3) := by decide +kernel
theorem dX0_allCome_101 : decode cX0_allCome 101 = .ok (.getfield 73, 3) := by decide +kernel
theorem dX0_allCome_104 : decode cX0_allCome 104 = .ok (.iload_n 3, 1) := by decide +kernel
theorem dX0_allCome_105 : decode cX0_allCome 105 = .ok (.iaload, 1) := by decide +kernel
theorem dX0_allCome_106 : decode cX0_allCome 106 = .ok (.iload 4, 2) := by decide +kernel
theorem dX0_allCome_108 : decode cX0_allCome 108 = .ok (.invokevirtual 76, 3) := by decide +kernel
theorem dX0_allCome_111 : decode cX0_allCome 111 = .ok (.istore 6, 2) := by decide +kernel
theorem dX0_allCome_113 : decode cX0_allCome 113 = .ok (.aload_n 0, 1) := by decide +kernel
theorem dX0_allCome_114 : decode cX0_allCome 114 = .ok (.getfield 22, 3) := by decide +kernel
theorem dX0_allCome_117 : decode cX0_allCome 117 = .ok (.iload 5, 2) := by decide +kernel
theorem dX0_allCome_119 : decode cX0_allCome 119 = .ok (.iload 6, 2) := by decide +kernel
theorem dX0_allCome_121 : decode cX0_allCome 121 = .ok (.aload_n 0, 1) := by decide +kernel
theorem dX0_allCome_122 : decode cX0_allCome 122 = .ok (.getfield 33, 3) := by decide +kernel
theorem dX0_allCome_125 : decode cX0_allCome 125 = .ok (.ishr, 1) := by decide +kernel
theorem dX0_allCome_126 : decode cX0_allCome 126 = .ok (.iconst 1, 1) := by decide +kernel
theorem dX0_allCome_127 : decode cX0_allCome 127 = .ok (.iand, 1) := by decide +kernel
theorem dX0_allCome_128 : decode cX0_allCome 128 = .ok (.iconst 1, 1) := by decide +kernel
theorem dX0_allCome_129 : decode cX0_allCome 129 = .ok (.if_icmp .ne 7, 3) := by decide +kernel
theorem dX0_allCome_132 : decode cX0_allCome 132 = .ok (.iconst 1, 1) := by decide +kernel
theorem dX0_allCome_133 : decode cX0_allCome 133 = .ok (.goto 4, 3) := by decide +kernel
theorem dX0_allCome_136 : decode cX0_allCome 136 = .ok (.iconst 2, 1) := by decide +kernel
theorem dX0_allCome_137 : decode cX0_allCome 137 = .ok (.i2b, 1) := by decide +kernel
theorem dX0_allCome_138 : decode cX0_allCome 138 = .ok (.bastore, 1) := by decide +kernel
theorem dX0_allCome_139 : decode cX0_allCome 139 = .ok (.aload_n 0, 1) := by decide +kernel
theorem dX0_allCome_140 : decode cX0_allCome 140 = .ok (.getfield 22, 3) := by decide +kernel
theorem dX0_allCome_143 : decode cX0_allCome 143 = .ok (.iload 5, 2) := by decide +kernel
theorem dX0_allCome_145 : decode cX0_allCome 145 = .ok (.baload, 1) := by decide +kernel
theorem dX0_allCome_146 : decode cX0_allCome 146 = .ok (.iconst 2, 1) := by decide +kernel
theorem dX0_allCome_147 : decode cX0_allCome 147 = .ok (.if_icmp .ne 5, 3) := by decide +kernel
theorem dX0_allCome_150 : decode cX0_allCome 150 = .ok (.iconst 0, 1) := by decide +kernel
theorem dX0_allCome_151 : decode cX0_allCome 151 = .ok (.ireturn, 1) := by decide +kernel
theorem dX0_allCome_152 : decode cX0_allCome 152 = .ok (.iinc 3 1, 3) := by decide +kernel
theorem dX0_allCome_155 : decode cX0_allCome 155 = .ok (.goto (-150), 3) := by decide +kernel
theorem dX0_allCome_158 : decode cX0_allCome 158 = .ok (.iconst 1, 1) := by decide +kernel
theorem dX0_allCome_159 : decode cX0_allCome 159 = .ok (.ireturn, 1) := by decide +kernel
theorem dX1_init_0 : decode cX1_init 0 = .ok (.aload_n 0, 1) := by decide +kernel
theorem dX1_init_1 : decode cX1_init 1 = .ok (.invokespecial 1, 3) := by decide +kernel
theorem dX1_init_4 : decode cX1_init 4 = .ok (.return_, 1) := by decide +kernel
theorem dX2_init_0 : decode cX2_init 0 = .ok (.aload_n 0, 1) := by decide +kernel
theorem dX2_init_1 : decode cX2_init 1 = .ok (.invokespecial 3, 3) := by decide +kernel
theorem dX2_init_4 : decode cX2_init 4 = .ok (.aload_n 0, 1) := by decide +kernel
theorem dX2_init_5 : decode cX2_init 5 = .ok (.bipush 20, 2) := by decide +kernel
theorem dX2_init_7 : decode cX2_init 7 = .ok (.newarray .int, 2) := by decide +kernel
theorem dX2_init_9 : decode cX2_init 9 = .ok (.putfield 11, 3) := by decide +kernel
theorem dX2_init_12 : decode cX2_init 12 = .ok (.aload_n 0, 1) := by decide +kernel
theorem dX2_init_13 : decode cX2_init 13 = .ok (.bipush 20, 2) := by decide +kernel
theorem dX2_init_15 : decode cX2_init 15 = .ok (.newarray .int, 2) := by decide +kernel
theorem dX2_init_17 : decode cX2_init 17 = .ok (.putfield 15, 3) := by decide +kernel
theorem dX2_init_20 : decode cX2_init 20 = .ok (.aload_n 0, 1) := by decide +kernel
theorem dX2_init_21 : decode cX2_init 21 = .ok (.bipush 20, 2) := by decide +kernel
theorem dX2_init_23 : decode cX2_init 23 = .ok (.newarray .int, 2) := by decide +kernel
theorem dX2_init_25 : decode cX2_init 25 = .ok (.putfield 18, 3) := by decide +kernel
theorem dX2_init_28 : decode cX2_init 28 = .ok (.aload_n 0, 1) := by decide +kernel
theorem dX2_init_29 : decode cX2_init 29 = .ok (.bipush 20, 2) := by decide +kernel
theorem dX2_init_31 : decode cX2_init 31 = .ok (.newarray .int, 2) := by decide +kernel
theorem dX2_init_33 : decode cX2_init 33 = .ok (.putfield 21, 3) := by decide +kernel
theorem dX2_init_36 : decode cX2_init 36 = .ok (.return_, 1) := by decide +kernel
theorem dX2_takeOver_0 : decode cX2_takeOver 0 = .ok (.aload_n 0, 1) := by decide +kernel
theorem dX2_takeOver_1 : decode cX2_takeOver 1 = .ok (.aload_n 2, 1) := by decide +kernel
theorem dX2_takeOver_2 : decode cX2_takeOver 2 = .ok (.invokevirtual 24, 3) := by decide +kernel
theorem dX2_takeOver_5 : decode cX2_takeOver 5 = .ok (.bipush 20, 2) := by decide +kernel
theorem dX2_takeOver_7 : decode cX2_takeOver 7 = .ok (.invokestatic 30, 3) := by decide +kernel
theorem dX2_takeOver_10 : decode cX2_takeOver 10 = .ok (.putfield 36, 3) := by decide +kernel
theorem dX2_takeOver_13 : decode cX2_takeOver 13 = .ok (.iconst 0, 1) := by decide +kernel
theorem dX2_takeOver_14 : decode cX2_takeOver 14 = .ok (.istore_n 3, 1) := by decide +kernel
theorem dX2_takeOver_15 : decode cX2_takeOver 15 = .ok (.iload_n 3, 1) := by decide +kernel
theorem dX2_takeOver_16 : decode cX2_takeOver 16 = .ok (.aload_n 0, 1) := by decide +kernel
theorem dX2_takeOver_17 : decode cX2_takeOver 17 = .ok (.getfield 36, 3) := by decide +kernel
theorem dX2_takeOver_20 : decode cX2_takeOver 20 = .ok (.if_icmp .ge 113, 3) := by decide +kernel
theorem dX2_takeOver_23 : decode cX2_takeOver 23 = .ok (.aload_n 0, 1) := by decide +kernel
theorem dX2_takeOver_24 : decode cX2_takeOver 24 = .ok (.getfield 11, 3) := by decide +kernel
theorem dX2_takeOver_27 : decode cX2_takeOver 27 = .ok (.iload_n 3, 1) := by decide +kernel
theorem dX2_takeOver_28 : decode cX2_takeOver 28 = .ok (.aload_n 2, 1) := by decide +kernel
theorem dX2_takeOver_29 : decode cX2_takeOver 29 = .ok (.iload_n 3, 1) := by decide +kernel
theorem dX2_takeOver_30 : decode cX2_takeOver 30 = .ok (.invokevirtual 39, 3) := by decide +kernel
theorem dX2_takeOver_33 : decode cX2_takeOver 33 = .ok (.iastore, 1) := by decide +kernel
theorem dX2_takeOver_34 : decode cX2_takeOver 34 = .ok (.aload_n 0, 1) := by decide +kernel
theorem dX2_takeOver_35 : decode cX2_takeOver 35 = .ok (.getfield 15, 3) := by decide +kernel
theorem dX2_takeOver_38 : decode cX2_takeOver 38 = .ok (.iload_n 3, 1) := by decide +kernel
theorem dX2_takeOver_39 : decode cX2_takeOver 39 = .ok (.aload_n 2, 1) := by decide +kernel
theorem dX2_takeOver_40 : decode cX2_takeOver 40 = .ok (.iload_n 3, 1) := by decide +kernel
theorem dX2_takeOver_41 : decode cX2_takeOver 41 = .ok (.invokevirtual 43, 3) := by decide +kernel
theorem dX2_takeOver_44 : decode cX2_takeOver 44 = .ok (.iastore, 1) := by decide +kernel
theorem dX2_takeOver_45 : decode cX2_takeOver 45 = .ok (.aload_n 0, 1) := by decide +kernel
theorem dX2_takeOver_46 : decode cX2_takeOver 46 = .ok (.getfield 18, 3) := by decide +kernel
theorem dX2_takeOver_49 : decode cX2_takeOver 49 = .ok (.iload_n 3, 1) := by decide +kernel
theorem dX2_takeOver_50 : decode cX2_takeOver 50 = .ok (.bipush 8, 2) := by decide +kernel
theorem dX2_takeOver_52 : decode cX2_takeOver 52 = .ok (.iastore, 1) := by decide +kernel
theorem dX2_takeOver_53 : decode cX2_takeOver 53 = .ok (.aload_n 0, 1) := by decide +kernel
theorem dX2_takeOver_54 : decode cX2_takeOver 54 = .ok (.getfield 21, 3) := by decide +kernel
theorem dX2_takeOver_57 : decode cX2_takeOver 57 = .ok (.iload_n 3, 1) := by decide +kernel
theorem dX2_takeOver_58 : decode cX2_takeOver 58 = .ok (.iconst (-1), 1) := by decide +kernel
theorem dX2_takeOver_59 : decode cX2_takeOver 59 = .ok (.iastore, 1) := by decide +kernel
theorem dX2_takeOver_60 : decode cX2_takeOver 60 = .ok (.bipush 7, 2) := by decide +kernel
theorem dX2_takeOver_62 : decode cX2_takeOver 62 = .ok (.istore 4, 2) := by decide +kernel
theorem dX2_takeOver_64 : decode cX2_takeOver 64 = .ok (.iload 4, 2) := by decide +kernel
theorem dX2_takeOver_66 : decode cX2_takeOver 66 = .ok (.ifCond .lt 61, 3) := by decide +kernel
theorem dX2_takeOver_69 : decode cX2_takeOver 69 = .ok (.aload_n 1, 1) := by decide +kernel
theorem dX2_takeOver_70 : decode cX2_takeOver 70 = .ok (.aload_n 0, 1) := by decide +kernel
theorem dX2_takeOver_71 : decode cX2_takeOver 71 = .ok (.getfield 11, 3) := by decide +kernel
theorem dX2_takeOver_74 : decode cX2_takeOver 74 = .ok (.iload_n 3, 1) := by decide +kernel
theorem dX2_takeOver_75 : decode cX2_takeOver 75 = .ok (.iaload, 1) := by decide +kernel
theorem dX2_takeOver_76 : decode cX2_takeOver 76 = .ok (.invokevirtual 46, 3) := by decide +kernel
theorem dX2_takeOver_79 : decode cX2_takeOver 79 = .ok (.iload 4, 2) := by decide +kernel
theorem dX2_takeOver_81 : decode cX2_takeOver 81 = .ok (.iconst 1, 1) := by decide +kernel
theorem dX2_takeOver_82 : decode cX2_takeOver 82 = .ok (.iadd, 1) := by decide +kernel
theorem dX2_takeOver_83 : decode cX2_takeOver 83 = .ok (.invokestatic 51, 3) := by decide +kernel
theorem dX2_takeOver_86 : decode cX2_takeOver 86 = .ok (.i2l, 1) := by decide +kernel
theorem dX2_takeOver_87 : decode cX2_takeOver 87 = .ok (.aload_n 2, 1) := by decide +kernel
theorem dX2_takeOver_88 : decode cX2_takeOver 88 = .ok (.iload_n 3, 1) := by decide +kernel
theorem dX2_takeOver_89 : decode cX2_takeOver 89 = .ok (.invokevirtual 54, 3) := by decide +kernel
theorem dX2_takeOver_92 : decode cX2_takeOver 92 = .ok (.lcmp, 1) := by decide +kernel
theorem dX2_takeOver_93 : decode cX2_takeOver 93 = .ok (.ifCond .ne 28, 3) := by decide +kernel
theorem dX2_takeOver_96 : decode cX2_takeOver 96 = .ok (.aload_n 0, 1) := by decide +kernel
theorem dX2_takeOver_97 : decode cX2_takeOver 97 = .ok (.getfield 18, 3) := by decide +kernel
theorem dX2_takeOver_100 : decode cX2_takeOver 100 = .ok (.iload_n 3, 1) := by decide +kernel
theorem dX2_takeOver_101 : decode cX2_takeOver 101 = .ok (.iload 4, 2) := by decide +kernel
theorem dX2_takeOver_103 : decode cX2_takeOver 103 = .ok (.iastore, 1) := by decide +kernel
theorem dX2_takeOver_104 : decode cX2_takeOver 104 = .ok (.aload_n 0, 1) := by decide +kernel
theorem dX2_takeOver_105 : decode cX2_takeOver 105 = .ok (.getfield 21, 3) := by decide +kernel
theorem dX2_takeOver_108 : decode cX2_takeOver 108 = .ok (.iload_n 3, 1) := by decide +kernel
theorem dX2_takeOver_109 : decode cX2_takeOver 109 = .ok (.aload_n 0, 1) := by decide +kernel
theorem dX2_takeOver_110 : decode cX2_takeOver 110 = .ok (.getfield 21, 3) := by decide +kernel
theorem dX2_takeOver_113 : decode cX2_takeOver 113 = .ok (.iload_n 3, 1) := by decide +kernel
theorem dX2_takeOver_114 : decode cX2_takeOver 114 = .ok (.iaload, 1) := by decide +kernel
theorem dX2_takeOver_115 : decode cX2_takeOver 115 = .ok (.iload 4, 2) := by decide +kernel
theorem dX2_takeOver_117 : decode cX2_takeOver 117 = .ok (.invokestatic 58, 3) := by decide +kernel
theorem dX2_takeOver_120 : decode cX2_takeOver 120 = .ok (.iastore, 1) := by decide +kernel
theorem dX2_takeOver_121 : decode cX2_takeOver 121 = .ok (.iinc 4 (-1), 3) := by decide +kernel
theorem dX2_takeOver_124 : decode cX2_takeOver 124 = .ok (.goto (-60), 3) := by decide +kernel
theorem dX2_takeOver_127 : decode cX2_takeOver 127 = .ok (.iinc 3 1, 3) := by decide +kernel
theorem dX2_takeOver_130 : decode cX2_takeOver 130 = .ok (.goto (-115), 3) := by decide +kernel
theorem dX2_takeOver_133 : decode cX2_takeOver 133 = .ok (.return_, 1) := by decide +kernel
theorem dX2_addedBy_0 : decode cX2_addedBy 0 = .ok (.lconst 0, 1) := by decide +kernel
theorem dX2_addedBy_1 : decode cX2_addedBy 1 = .ok (.lstore 4, 2) := by decide +kernel
theorem dX2_addedBy_3 : decode cX2_addedBy 3 = .ok (.iconst 0, 1) := by decide +kernel
theorem dX2_addedBy_4 : decode cX2_addedBy 4 = .ok (.istore 6, 2) := by decide +kernel
theorem dX2_addedBy_6 : decode cX2_addedBy 6 = .ok (.iload 6, 2) := by decide +kernel
theorem dX2_addedBy_8 : decode cX2_addedBy 8 = .ok (.aload_n 0, 1) := by decide +kernel
theorem dX2_addedBy_9 : decode cX2_addedBy 9 = .ok (.getfield 36, 3) := by decide +kernel
theorem dX2_addedBy_12 : decode cX2_addedBy 12 = .ok (.if_icmp .ge 43, 3) := by decide +kernel
theorem dX2_addedBy_15 : decode cX2_addedBy 15 = .ok (.aload_n 1, 1) := by decide +kernel
theorem dX2_addedBy_16 : decode cX2_addedBy 16 = .ok (.iload_n 2, 1) := by decide +kernel
theorem dX2_addedBy_17 : decode cX2_addedBy 17 = .ok (.iload_n 3, 1) := by decide +kernel
theorem dX2_addedBy_18 : decode cX2_addedBy 18 = .ok (.aload_n 0, 1) := by decide +kernel
theorem dX2_addedBy_19 : decode cX2_addedBy 19 = .ok (.getfield 11, 3) := by decide +kernel
theorem dX2_addedBy_22 : decode cX2_addedBy 22 = .ok (.iload 6, 2) := by decide +kernel
theorem dX2_addedBy_24 : decode cX2_addedBy 24 = .ok (.iaload, 1) := by decide +kernel
theorem dX2_addedBy_25 : decode cX2_addedBy 25 = .ok (.aload_n 0, 1) := by decide +kernel
theorem dX2_addedBy_26 : decode cX2_addedBy 26 = .ok (.getfield 15, 3) := by decide +kernel
theorem dX2_addedBy_29 : decode cX2_addedBy 29 = .ok (.iload 6, 2) := by decide +kernel
theorem dX2_addedBy_31 : decode cX2_addedBy 31 = .ok (.iaload, 1) := by decide +kernel
theorem dX2_addedBy_32 : decode cX2_addedBy 32 = .ok (.invokevirtual 61, 3) := by decide +kernel
theorem dX2_addedBy_35 : decode cX2_addedBy 35 = .ok (.ifCond .eq 14, 3) := by decide +kernel
theorem dX2_addedBy_38 : decode cX2_addedBy 38 = .ok (.lload 4, 2) := by decide +kernel
theorem dX2_addedBy_40 : decode cX2_addedBy 40 = .ok (.lconst 1, 1) := by decide +kernel
theorem dX2_addedBy_41 : decode cX2_addedBy 41 = .ok (.iload 6, 2) := by decide +kernel
theorem dX2_addedBy_43 : decode cX2_addedBy 43 = .ok (.iconst 3, 1) := by decide +kernel
theorem dX2_addedBy_44 : decode cX2_addedBy 44 = .ok (.imul, 1) := by decide +kernel
theorem dX2_addedBy_45 : decode cX2_addedBy 45 = .ok (.lshl, 1) := by decide +kernel
theorem dX2_addedBy_46 : decode cX2_addedBy 46 = .ok (.lor, 1) := by decide +kernel
theorem dX2_addedBy_47 : decode cX2_addedBy 47 = .ok (.lstore 4, 2) := by decide +kernel
theorem dX2_addedBy_49 : decode cX2_addedBy 49 = .ok (.iinc 6 1, 3) := by decide +kernel
theorem dX2_addedBy_52 : decode cX2_addedBy 52 = .ok (.goto (-46), 3) := by decide +kernel
theorem dX2_addedBy_55 : decode cX2_addedBy 55 = .ok (.lload 4, 2) := by decide +kernel
theorem dX2_addedBy_57 : decode cX2_addedBy 57 = .ok (.lreturn, 1) := by decide +kernel
theorem dX2_judge_0 : decode cX2_judge 0 = .ok (.iconst 1, 1) := by decide +kernel
theorem dX2_judge_1 : decode cX2_judge 1 = .ok (.istore 5, 2) := by decide +kernel
theorem dX2_judge_3 : decode cX2_judge 3 = .ok (.iconst 0, 1) := by decide +kernel
theorem dX2_judge_4 : decode cX2_judge 4 = .ok (.istore 6, 2) := by decide +kernel
theorem dX2_judge_6 : decode cX2_judge 6 = .ok (.iload 6, 2) := by decide +kernel
theorem dX2_judge_8 : decode cX2_judge 8 = .ok (.aload_n 0, 1) := by decide +kernel
theorem dX2_judge_9 : decode cX2_judge 9 = .ok (.getfield 36, 3) := by decide +kernel
theorem dX2_judge_12 : decode cX2_judge 12 = .ok (.if_icmp .ge 97, 3) := by decide +kernel
theorem dX2_judge_15 : decode cX2_judge 15 = .ok (.lload_n 1, 1) := by decide +kernel
theorem dX2_judge_16 : decode cX2_judge 16 = .ok (.iload 6, 2) := by decide +kernel
theorem dX2_judge_18 : decode cX2_judge 18 = .ok (.iconst 3, 1) := by decide +kernel
theorem dX2_judge_19 : decode cX2_judge 19 = .ok (.imul, 1) := by decide +kernel
theorem dX2_judge_20 : decode cX2_judge 20 = .ok (.lshr, 1) := by decide +kernel
theorem dX2_judge_21 : decode cX2_judge 21 = .ok (.ldc2_w 65, 3) := by decide +kernel
theorem dX2_judge_24 : decode cX2_judge 24 = .ok (.land, 1) := by decide +kernel
theorem dX2_judge_25 : decode cX2_judge 25 = .ok (.l2i, 1) := by decide +kernel
theorem dX2_judge_26 : decode cX2_judge 26 = .ok (.istore 7, 2) := by decide +kernel
theorem dX2_judge_28 : decode cX2_judge 28 = .ok (.lload_n 3, 1) := by decide +kernel
theorem dX2_judge_29 : decode cX2_judge 29 = .ok (.iload 6, 2) := by decide +kernel
theorem dX2_judge_31 : decode cX2_judge 31 = .ok (.iconst 3, 1) := by decide +kernel
theorem dX2_judge_32 : decode cX2_judge 32 = .ok (.imul, 1) := by decide +kernel
theorem dX2_judge_33 : decode cX2_judge 33 = .ok (.lshr, 1) := by decide +kernel
theorem dX2_judge_34 : decode cX2_judge 34 = .ok (.ldc2_w 65, 3) := by decide +kernel
theorem dX2_judge_37 : decode cX2_judge 37 = .ok (.land, 1) := by decide +kernel
theorem dX2_judge_38 : decode cX2_judge 38 = .ok (.l2i, 1) := by decide +kernel
theorem dX2_judge_39 : decode cX2_judge 39 = .ok (.istore 8, 2) := by decide +kernel
theorem dX2_judge_41 : decode cX2_judge 41 = .ok (.iload 7, 2) := by decide +kernel
theorem dX2_judge_43 : decode cX2_judge 43 = .ok (.aload_n 0, 1) := by decide +kernel
theorem dX2_judge_44 : decode cX2_judge 44 = .ok (.getfield 21, 3) := by decide +kernel
theorem dX2_judge_47 : decode cX2_judge 47 = .ok (.iload 6, 2) := by decide +kernel
theorem dX2_judge_49 : decode cX2_judge 49 = .ok (.iaload, 1) := by decide +kernel
theorem dX2_judge_50 : decode cX2_judge 50 = .ok (.if_icmp .gt 15, 3) := by decide +kernel
theorem dX2_judge_53 : decode cX2_judge 53 = .ok (.iload 8, 2) := by decide +kernel
theorem dX2_judge_55 : decode cX2_judge 55 = .ok (.aload_n 0, 1) := by decide +kernel
theorem dX2_judge_56 : decode cX2_judge 56 = .ok (.getfield 18, 3) := by decide +kernel
theorem dX2_judge_59 : decode cX2_judge 59 = .ok (.iload 6, 2) := by decide +kernel
theorem dX2_judge_61 : decode cX2_judge 61 = .ok (.iaload, 1) := by decide +kernel
theorem dX2_judge_62 : decode cX2_judge 62 = .ok (.if_icmp .ge 5, 3) := by decide +kernel
theorem dX2_judge_65 : decode cX2_judge 65 = .ok (.iconst 0, 1) := by decide +kernel
theorem dX2_judge_66 : decode cX2_judge 66 = .ok (.ireturn, 1) := by decide +kernel
theorem dX2_judge_67 : decode cX2_judge 67 = .ok (.iload 5, 2) := by decide +kernel
theorem dX2_judge_69 : decode cX2_judge 69 = .ok (.ifCond .eq 31, 3) := by decide +kernel
theorem dX2_judge_72 : decode cX2_judge 72 = .ok (.iload 7, 2) := by decide +kernel
theorem dX2_judge_74 : decode cX2_judge 74 = .ok (.aload_n 0, 1) := by decide +kernel
theorem dX2_judge_75 : decode cX2_judge 75 = .ok (.getfield 18, 3) := by decide +kernel
theorem dX2_judge_78 : decode cX2_judge 78 = .ok (.iload 6, 2) := by decide +kernel
theorem dX2_judge_80 : decode cX2_judge 80 = .ok (.iaload, 1) := by decide +kernel
theorem dX2_judge_81 : decode cX2_judge 81 = .ok (.if_icmp .lt 19, 3) := by decide +kernel
theorem dX2_judge_84 : decode cX2_judge 84 = .ok (.iload 8, 2) := by decide +kernel
theorem dX2_judge_86 : decode cX2_judge 86 = .ok (.aload_n 0, 1) := by decide +kernel
theorem dX2_judge_87 : decode cX2_judge 87 = .ok (.getfield 21, 3) := by decide +kernel
theorem dX2_judge_90 : decode cX2_judge 90 = .ok (.iload 6, 2) := by decide +kernel
theorem dX2_judge_92 : decode cX2_judge 92 = .ok (.iaload, 1) := by decide +kernel
theorem dX2_judge_93 : decode cX2_judge 93 = .ok (.if_icmp .gt 7, 3) := by decide +kernel
theorem dX2_judge_96 : decode cX2_judge 96 = .ok (.iconst 1, 1) := by decide +kernel
theorem dX2_judge_97 : decode cX2_judge 97 = .ok (.goto 4, 3) := by decide +kernel
theorem dX2_judge_100 : decode cX2_judge 100 = .ok (.iconst 0, 1) := by decide +kernel
theorem dX2_judge_101 : decode cX2_judge 101 = .ok (.istore 5, 2) := by decide +kernel
theorem dX2_judge_103 : decode cX2_judge 103 = .ok (.iinc 6 1, 3) := by decide +kernel
theorem dX2_judge_106 : decode cX2_judge 106 = .ok (.goto (-100), 3) := by decide +kernel
theorem dX2_judge_109 : decode cX2_judge 109 = .ok (.iload 5, 2) := by decide +kernel
theorem dX2_judge_111 : decode cX2_judge 111 = .ok (.ifCond .eq 7, 3) := by decide +kernel
theorem dX2_judge_114 : decode cX2_judge 114 = .ok (.iconst 1, 1) := by decide +kernel
theorem dX2_judge_115 : decode cX2_judge 115 = .ok (.goto 4, 3) := by decide +kernel
theorem dX2_judge_118 : decode cX2_judge 118 = .ok (.iconst 2, 1) := by decide +kernel
theorem dX2_judge_119 : decode cX2_judge 119 = .ok (.ireturn, 1) := by decide +kernel
theorem dX3_init_0 : decode cX3_init 0 = .ok (.aload_n 0, 1) := by decide +kernel
theorem dX3_init_1 : decode cX3_init 1 = .ok (.invokespecial 3, 3) := by decide +kernel
theorem dX3_init_4 : decode cX3_init 4 = .ok (.aload_n 0, 1) := by decide +kernel
theorem dX3_init_5 : decode cX3_init 5 = .ok (.bipush 8, 2) := by decide +kernel
theorem dX3_init_7 : decode cX3_init 7 = .ok (.newarray .int, 2) := by decide +kernel
theorem dX3_init_9 : decode cX3_init 9 = .ok (.putfield 9, 3) := by decide +kernel
theorem dX3_init_12 : decode cX3_init 12 = .ok (.aload_n 0, 1) := by decide +kernel
theorem dX3_init_13 : decode cX3_init 13 = .ok (.bipush 10, 2) := by decide +kernel
theorem dX3_init_15 : decode cX3_init 15 = .ok (.newarray .int, 2) := by decide +kernel
theorem dX3_init_17 : decode cX3_init 17 = .ok (.putfield 15, 3) := by decide +kernel
theorem dX3_init_20 : decode cX3_init 20 = .ok (.aload_n 0, 1) := by decide +kernel
theorem dX3_init_21 : decode cX3_init 21 = .ok (.bipush 10, 2) := by decide +kernel
theorem dX3_init_23 : decode cX3_init 23 = .ok (.newarray .int, 2) := by decide +kernel
theorem dX3_init_25 : decode cX3_init 25 = .ok (.putfield 18, 3) := by decide +kernel
theorem dX3_init_28 : decode cX3_init 28 = .ok (.aload_n 0, 1) := by decide +kernel
theorem dX3_init_29 : decode cX3_init 29 = .ok (.iconst 4, 1) := by decide +kernel
theorem dX3_init_30 : decode cX3_init 30 = .ok (.newarray .int, 2) := by decide +kernel
theorem dX3_init_32 : decode cX3_init 32 = .ok (.putfield 21, 3) := by decide +kernel
theorem dX3_init_35 : decode cX3_init 35 = .ok (.aload_n 0, 1) := by decide +kernel
theorem dX3_init_36 : decode cX3_init 36 = .ok (.iconst 4, 1) := by decide +kernel
theorem dX3_init_37 : decode cX3_init 37 = .ok (.newarray .int, 2) := by decide +kernel
theorem dX3_init_39 : decode cX3_init 39 = .ok (.putfield 24, 3) := by decide +kernel
theorem dX3_init_42 : decode cX3_init 42 = .ok (.aload_n 0, 1) := by decide +kernel
theorem dX3_init_43 : decode cX3_init 43 = .ok (.bipush 7, 2) := by decide +kernel
theorem dX3_init_45 : decode cX3_init 45 = .ok (.newarray .int, 2) := by decide +kernel
theorem dX3_init_47 : decode cX3_init 47 = .ok (.putfield 27, 3) := by decide +kernel
theorem dX3_init_50 : decode cX3_init 50 = .ok (.aload_n 0, 1) := by decide +kernel
theorem dX3_init_51 : decode cX3_init 51 = .ok (.bipush 7, 2) := by decide +kernel
theorem dX3_init_53 : decode cX3_init 53 = .ok (.newarray .int, 2) := by decide +kernel
theorem dX3_init_55 : decode cX3_init 55 = .ok (.putfield 30, 3) := by decide +kernel
theorem dX3_init_58 : decode cX3_init 58 = .ok (.aload_n 0, 1) := by decide +kernel
theorem dX3_init_59 : decode cX3_init 59 = .ok (.bipush 7, 2) := by decide +kernel
theorem dX3_init_61 : decode cX3_init 61 = .ok (.newarray .int, 2) := by decide +kernel
theorem dX3_init_63 : decode cX3_init 63 = .ok (.putfield 33, 3) := by decide +kernel
theorem dX3_init_66 : decode cX3_init 66 = .ok (.aload_n 0, 1) := by decide +kernel
theorem dX3_init_67 : decode cX3_init 67 = .ok (.bipush 7, 2) := by decide +kernel
theorem dX3_init_69 : decode cX3_init 69 = .ok (.newarray .int, 2) := by decide +kernel
theorem dX3_init_71 : decode cX3_init 71 = .ok (.putfield 36, 3) := by decide +kernel
theorem dX3_init_74 : decode cX3_init 74 = .ok (.aload_n 0, 1) := by decide +kernel
theorem dX3_init_75 : decode cX3_init 75 = .ok (.bipush 30, 2) := by decide +kernel
theorem dX3_init_77 : decode cX3_init 77 = .ok (.newarray .int, 2) := by decide +kernel
theorem dX3_init_79 : decode cX3_init 79 = .ok (.putfield 39, 3) := by decide +kernel
theorem dX3_init_82 : decode cX3_init 82 = .ok (.aload_n 0, 1) := by decide +kernel
theorem dX3_init_83 : decode cX3_init 83 = .ok (.iconst 4, 1) := by decide +kernel
theorem dX3_init_84 : decode cX3_init 84 = .ok (.newarray .int, 2) := by decide +kernel
theorem dX3_init_86 : decode cX3_init 86 = .ok (.putfield 42, 3) := by decide +kernel
theorem dX3_init_89 : decode cX3_init 89 = .ok (.aload_n 0, 1) := by decide +kernel
theorem dX3_init_90 : decode cX3_init 90 = .ok (.iconst 4, 1) := by decide +kernel
theorem dX3_init_91 : decode cX3_init 91 = .ok (.newarray .int, 2) := by decide +kernel
theorem dX3_init_93 : decode cX3_init 93 = .ok (.putfield 45, 3) := by decide +kernel
theorem dX3_init_96 : decode cX3_init 96 = .ok (.return_, 1) := by decide +kernel
theorem dX3_clearAll_0 : decode cX3_clearAll 0 = .ok (.aload_n 0, 1) := by decide +kernel
theorem dX3_clearAll_1 : decode cX3_clearAll 1 = .ok (.iconst 0, 1) := by decide +kernel
theorem dX3_clearAll_2 : decode cX3_clearAll 2 = .ok (.putfield 48, 3) := by decide +kernel
theorem dX3_clearAll_5 : decode cX3_clearAll 5 = .ok (.aload_n 0, 1) := by decide +kernel
theorem dX3_clearAll_6 : decode cX3_clearAll 6 = .ok (.iconst 0, 1) := by decide +kernel
theorem dX3_clearAll_7 : decode cX3_clearAll 7 = .ok (.putfield 52, 3) := by decide +kernel
theorem dX3_clearAll_10 : decode cX3_clearAll 10 = .ok (.aload_n 0, 1) := by decide +kernel
theorem dX3_clearAll_11 : decode cX3_clearAll 11 = .ok (.iconst 0, 1) := by decide +kernel
theorem dX3_clearAll_12 : decode cX3_clearAll 12 = .ok (.putfield 55, 3) := by decide +kernel
theorem dX3_clearAll_15 : decode cX3_clearAll 15 = .ok (.aload_n 0, 1) := by decide +kernel
theorem dX3_clearAll_16 : decode cX3_clearAll 16 = .ok (.iconst 0, 1) := by decide +kernel
theorem dX3_clearAll_17 : decode cX3_clearAll 17 = .ok (.putfield 58, 3) := by decide +kernel
theorem dX3_clearAll_20 : decode cX3_clearAll 20 = .ok (.aload_n 0, 1) := by decide +kernel
theorem dX3_clearAll_21 : decode cX3_clearAll 21 = .ok (.iconst 0, 1) := by decide +kernel
theorem dX3_clearAll_22 : decode cX3_clearAll 22 = .ok (.putfield 61, 3) := by decide +kernel
theorem dX3_clearAll_25 : decode cX3_clearAll 25 = .ok (.aload_n 0, 1) := by decide +kernel
theorem dX3_clearAll_26 : decode cX3_clearAll 26 = .ok (.iconst 0, 1) := by decide +kernel
theorem dX3_clearAll_27 : decode cX3_clearAll 27 = .ok (.putfield 64, 3) := by decide +kernel
theorem dX3_clearAll_30 : decode cX3_clearAll 30 = .ok (.aload_n 0, 1) := by decide +kernel
theorem dX3_clearAll_31 : decode cX3_clearAll 31 = .ok (.iconst 0, 1) := by decide +kernel
theorem dX3_clearAll_32 : decode cX3_clearAll 32 = .ok (.putfield 67, 3) := by decide +kernel
theorem dX3_clearAll_35 : decode cX3_clearAll 35 = .ok (.aload_n 0, 1) := by decide +kernel
theorem dX3_clearAll_36 : decode cX3_clearAll 36 = .ok (.getfield 9, 3) := by decide +kernel
theorem dX3_clearAll_39 : decode cX3_clearAll 39 = .ok (.iconst 0, 1) := by decide +kernel
theorem dX3_clearAll_40 : decode cX3_clearAll 40 = .ok (.invokestatic 70, 3) := by decide +kernel
theorem dX3_clearAll_43 : decode cX3_clearAll 43 = .ok (.aload_n 0, 1) := by decide +kernel
theorem dX3_clearAll_44 : decode cX3_clearAll 44 = .ok (.getfield 39, 3) := by decide +kernel
theorem dX3_clearAll_47 : decode cX3_clearAll 47 = .ok (.iconst 0, 1) := by decide +kernel
theorem dX3_clearAll_48 : decode cX3_clearAll 48 = .ok (.invokestatic 70, 3) := by decide +kernel
theorem dX3_clearAll_51 : decode cX3_clearAll 51 = .ok (.aload_n 0, 1) := by decide +kernel
theorem dX3_clearAll_52 : decode cX3_clearAll 52 = .ok (.getfield 36, 3) := by decide +kernel
theorem dX3_clearAll_55 : decode cX3_clearAll 55 = .ok (.iconst (-1), 1) := by decide +kernel
theorem dX3_clearAll_56 : decode cX3_clearAll 56 = .ok (.invokestatic 70, 3) := by decide +kernel
theorem dX3_clearAll_59 : decode cX3_clearAll 59 = .ok (.return_, 1) := by decide +kernel
theorem dX3_takeFrom_0 : decode cX3_takeFrom 0 = .ok (.aload_n 0, 1) := by decide +kernel
theorem dX3_takeFrom_1 : decode cX3_takeFrom 1 = .ok (.aload_n 1, 1) := by decide +kernel
theorem dX3_takeFrom_2 : decode cX3_takeFrom 2 = .ok (.getfield 48, 3) := by decide +kernel
theorem dX3_takeFrom_5 : decode cX3_takeFrom 5 = .ok (.putfield 48, 3) := by decide +kernel
theorem dX3_takeFrom_8 : decode cX3_takeFrom 8 = .ok (.aload_n 0, 1) := by decide +kernel
theorem dX3_takeFrom_9 : decode cX3_takeFrom 9 = .ok (.aload_n 1, 1) := by decide +kernel
theorem dX3_takeFrom_10 : decode cX3_takeFrom 10 = .ok (.getfield 52, 3) := by decide +kernel
theorem dX3_takeFrom_13 : decode cX3_takeFrom 13 = .ok (.putfield 52, 3) := by decide +kernel
theorem dX3_takeFrom_16 : decode cX3_takeFrom 16 = .ok (.aload_n 0, 1) := by decide +kernel
theorem dX3_takeFrom_17 : decode cX3_takeFrom 17 = .ok (.aload_n 1, 1) := by decide +kernel
theorem dX3_takeFrom_18 : decode cX3_takeFrom 18 = .ok (.getfield 55, 3) := by decide +kernel
theorem dX3_takeFrom_21 : decode cX3_takeFrom 21 = .ok (.putfield 55, 3) := by decide +kernel
theorem dX3_takeFrom_24 : decode cX3_takeFrom 24 = .ok (.aload_n 0, 1) := by decide +kernel
theorem dX3_takeFrom_25 : decode cX3_takeFrom 25 = .ok (.aload_n 1, 1) := by decide +kernel
theorem dX3_takeFrom_26 : decode cX3_takeFrom 26 = .ok (.getfield 58, 3) := by decide +kernel
theorem dX3_takeFrom_29 : decode cX3_takeFrom 29 = .ok (.putfield 58, 3) := by decide +kernel
theorem dX3_takeFrom_32 : decode cX3_takeFrom 32 = .ok (.aload_n 0, 1) := by decide +kernel
theorem dX3_takeFrom_33 : decode cX3_takeFrom 33 = .ok (.aload_n 1, 1) := by decide +kernel
theorem dX3_takeFrom_34 : decode cX3_takeFrom 34 = .ok (.getfield 61, 3) := by decide +kernel
theorem dX3_takeFrom_37 : decode cX3_takeFrom 37 = .ok (.putfield 61, 3) := by decide +kernel
theorem dX3_takeFrom_40 : decode cX3_takeFrom 40 = .ok (.aload_n 0, 1) := by decide +kernel
theorem dX3_takeFrom_41 : decode cX3_takeFrom 41 = .ok (.aload_n 1, 1) := by decide +kernel
theorem dX3_takeFrom_42 : decode cX3_takeFrom 42 = .ok (.getfield 64, 3) := by decide +kernel
theorem dX3_takeFrom_45 : decode cX3_takeFrom 45 = .ok (.putfield 64, 3) := by decide +kernel
theorem dX3_takeFrom_48 : decode cX3_takeFrom 48 = .ok (.aload_n 0, 1) := by decide +kernel
theorem dX3_takeFrom_49 : decode cX3_takeFrom 49 = .ok (.aload_n 1, 1) := by decide +kernel
theorem dX3_takeFrom_50 : decode cX3_takeFrom 50 = .ok (.getfield 67, 3) := by decide +kernel
theorem dX3_takeFrom_53 : decode cX3_takeFrom 53 = .ok (.putfield 67, 3) := by decide +kernel
theorem dX3_takeFrom_56 : decode cX3_takeFrom 56 = .ok (.aload_n 1, 1) := by decide +kernel
theorem dX3_takeFrom_57 : decode cX3_takeFrom 57 = .ok (.getfield 9, 3) := by decide +kernel
theorem dX3_takeFrom_60 : decode cX3_takeFrom 60 = .ok (.aload_n 0, 1) := by decide +kernel
theorem dX3_takeFrom_61 : decode cX3_takeFrom 61 = .ok (.getfield 9, 3) := by decide +kernel
theorem dX3_takeFrom_64 : decode cX3_takeFrom 64 = .ok (.invokestatic 76, 3) := by decide +kernel
theorem dX3_takeFrom_67 : decode cX3_takeFrom 67 = .ok (.aload_n 1, 1) := by decide +kernel
theorem dX3_takeFrom_68 : decode cX3_takeFrom 68 = .ok (.getfield 15, 3) := by decide +kernel
theorem dX3_takeFrom_71 : decode cX3_takeFrom 71 = .ok (.aload_n 0, 1) := by decide +kernel
theorem dX3_takeFrom_72 : decode cX3_takeFrom 72 = .ok (.getfield 15, 3) := by decide +kernel
theorem dX3_takeFrom_75 : decode cX3_takeFrom 75 = .ok (.invokestatic 76, 3) := by decide +kernel
theorem dX3_takeFrom_78 : decode cX3_takeFrom 78 = .ok (.aload_n 1, 1) := by decide +kernel
theorem dX3_takeFrom_79 : decode cX3_takeFrom 79 = .ok (.getfield 18, 3) := by decide +kernel
theorem dX3_takeFrom_82 : decode cX3_takeFrom 82 = .ok (.aload_n 0, 1) := by decide +kernel
theorem dX3_takeFrom_83 : decode cX3_takeFrom 83 = .ok (.getfield 18, 3) := by decide +kernel
theorem dX3_takeFrom_86 : decode cX3_takeFrom 86 = .ok (.invokestatic 76, 3) := by decide +kernel
theorem dX3_takeFrom_89 : decode cX3_takeFrom 89 = .ok (.aload_n 1, 1) := by decide +kernel
theorem dX3_takeFrom_90 : decode cX3_takeFrom 90 = .ok (.getfield 21, 3) := by decide +kernel
theorem dX3_takeFrom_93 : decode cX3_takeFrom 93 = .ok (.aload_n 0, 1) := by decide +kernel
theorem dX3_takeFrom_94 : decode cX3_takeFrom 94 = .ok (.getfield 21, 3) := by decide +kernel
theorem dX3_takeFrom_97 : decode cX3_takeFrom 97 = .ok (.invokestatic 76, 3) := by decide +kernel
theorem dX3_takeFrom_100 : decode cX3_takeFrom 100 = .ok (.aload_n 1, 1) := by decide +kernel
theorem dX3_takeFrom_101 : decode cX3_takeFrom 101 = .ok (.getfield 24, 3) := by decide +kernel
theorem dX3_takeFrom_104 : decode cX3_takeFrom 104 = .ok (.aload_n 0, 1) := by decide +kernel
theorem dX3_takeFrom_105 : decode cX3_takeFrom 105 = .ok (.getfield 24, 3) := by decide +kernel
theorem dX3_takeFrom_108 : decode cX3_takeFrom 108 = .ok (.invokestatic 76, 3) := by decide +kernel
theorem dX3_takeFrom_111 : decode cX3_takeFrom 111 = .ok (.aload_n 1, 1) := by decide +kernel
theorem dX3_takeFrom_112 : decode cX3_takeFrom 112 = .ok (.getfield 27, 3) := by decide +kernel
theorem dX3_takeFrom_115 : decode cX3_takeFrom 115 = .ok (.aload_n 0, 1) := by decide +kernel
theorem dX3_takeFrom_116 : decode cX3_takeFrom 116 = .ok (.getfield 27, 3) := by decide +kernel
theorem dX3_takeFrom_119 : decode cX3_takeFrom 119 = .ok (.invokestatic 76, 3) := by decide +kernel
theorem dX3_takeFrom_122 : decode cX3_takeFrom 122 = .ok (.aload_n 1, 1) := by decide +kernel
theorem dX3_takeFrom_123 : decode cX3_takeFrom 123 = .ok (.getfield 30, 3) := by decide +kernel
theorem dX3_takeFrom_126 : decode cX3_takeFrom 126 = .ok (.aload_n 0, 1) := by decide +kernel
theorem dX3_takeFrom_127 : decode cX3_takeFrom 127 = .ok (.getfield 30, 3) := by decide +kernel
theorem dX3_takeFrom_130 : decode cX3_takeFrom 130 = .ok (.invokestatic 76, 3) := by decide +kernel
theorem dX3_takeFrom_133 : decode cX3_takeFrom 133 = .ok (.aload_n 1, 1) := by decide +kernel
theorem dX3_takeFrom_134 : decode cX3_takeFrom 134 = .ok (.getfield 33, 3) := by decide +kernel
theorem dX3_takeFrom_137 : decode cX3_takeFrom 137 = .ok (.aload_n 0, 1) := by decide +kernel
theorem dX3_takeFrom_138 : decode cX3_takeFrom 138 = .ok (.getfield 33, 3) := by decide +kernel
theorem dX3_takeFrom_141 : decode cX3_takeFrom 141 = .ok (.invokestatic 76, 3) := by decide +kernel
theorem dX3_takeFrom_144 : decode cX3_takeFrom 144 = .ok (.aload_n 1, 1) := by decide +kernel
theorem dX3_takeFrom_145 : decode cX3_takeFrom 145 = .ok (.getfield 36, 3) := by decide +kernel
theorem dX3_takeFrom_148 : decode cX3_takeFrom 148 = .ok (.aload_n 0, 1) := by decide +kernel
theorem dX3_takeFrom_149 : decode cX3_takeFrom 149 = .ok (.getfield 36, 3) := by decide +kernel
theorem dX3_takeFrom_152 : decode cX3_takeFrom 152 = .ok (.invokestatic 76, 3) := by decide +kernel
theorem dX3_takeFrom_155 : decode cX3_takeFrom 155 = .ok (.aload_n 1, 1) := by decide +kernel
theorem dX3_takeFrom_156 : decode cX3_takeFrom 156 = .ok (.getfield 39, 3) := by decide +kernel
theorem dX3_takeFrom_159 : decode cX3_takeFrom 159 = .ok (.aload_n 0, 1) := by decide +kernel
theorem dX3_takeFrom_160 : decode cX3_takeFrom 160 = .ok (.getfield 39, 3) := by decide +kernel
theorem dX3_takeFrom_163 : decode cX3_takeFrom 163 = .ok (.invokestatic 76, 3) := by decide +kernel
theorem dX3_takeFrom_166 : decode cX3_takeFrom 166 = .ok (.aload_n 1, 1) := by decide +kernel
theorem dX3_takeFrom_167 : decode cX3_takeFrom 167 = .ok (.getfield 42, 3) := by decide +kernel
theorem dX3_takeFrom_170 : decode cX3_takeFrom 170 = .ok (.aload_n 0, 1) := by decide +kernel
theorem dX3_takeFrom_171 : decode cX3_takeFrom 171 = .ok (.getfield 42, 3) := by decide +kernel
theorem dX3_takeFrom_174 : decode cX3_takeFrom 174 = .ok (.invokestatic 76, 3) := by decide +kernel
theorem dX3_takeFrom_177 : decode cX3_takeFrom 177 = .ok (.aload_n 1, 1) := by decide +kernel
theorem dX3_takeFrom_178 : decode cX3_takeFrom 178 = .ok (.getfield 45, 3) := by decide +kernel
theorem dX3_takeFrom_181 : decode cX3_takeFrom 181 = .ok (.aload_n 0, 1) := by decide +kernel
theorem dX3_takeFrom_182 : decode cX3_takeFrom 182 = .ok (.getfield 45, 3) := by decide +kernel
theorem dX3_takeFrom_185 : decode cX3_takeFrom 185 = .ok (.invokestatic 76, 3) := by decide +kernel
theorem dX3_takeFrom_188 : decode cX3_takeFrom 188 = .ok (.return_, 1) := by decide +kernel
theorem dX3_isTold_0 : decode cX3_isTold 0 = .ok (.aload_n 0, 1) := by decide +kernel
theorem dX3_isTold_1 : decode cX3_isTold 1 = .ok (.getfield 52, 3) := by decide +kernel
theorem dX3_isTold_4 : decode cX3_isTold 4 = .ok (.ifCond .le 7, 3) := by decide +kernel
theorem dX3_isTold_7 : decode cX3_isTold 7 = .ok (.iconst 1, 1) := by decide +kernel
theorem dX3_isTold_8 : decode cX3_isTold 8 = .ok (.goto 4, 3) := by decide +kernel
theorem dX3_isTold_11 : decode cX3_isTold 11 = .ok (.iconst 0, 1) := by decide +kernel
theorem dX3_isTold_12 : decode cX3_isTold 12 = .ok (.ireturn, 1) := by decide +kernel
theorem dX3_hasPlace_0 : decode cX3_hasPlace 0 = .ok (.iload_n 1, 1) := by decide +kernel
theorem dX3_hasPlace_1 : decode cX3_hasPlace 1 = .ok (.ifCond .lt 15, 3) := by decide +kernel
theorem dX3_hasPlace_4 : decode cX3_hasPlace 4 = .ok (.iload_n 1, 1) := by decide +kernel
theorem dX3_hasPlace_5 : decode cX3_hasPlace 5 = .ok (.aload_n 0, 1) := by decide +kernel
theorem dX3_hasPlace_6 : decode cX3_hasPlace 6 = .ok (.getfield 52, 3) := by decide +kernel
theorem dX3_hasPlace_9 : decode cX3_hasPlace 9 = .ok (.if_icmp .ge 7, 3) := by decide +kernel
theorem dX3_hasPlace_12 : decode cX3_hasPlace 12 = .ok (.iconst 1, 1) := by decide +kernel
theorem dX3_hasPlace_13 : decode cX3_hasPlace 13 = .ok (.goto 4, 3) := by decide +kernel
theorem dX3_hasPlace_16 : decode cX3_hasPlace 16 = .ok (.iconst 0, 1) := by decide +kernel
theorem dX3_hasPlace_17 : decode cX3_hasPlace 17 = .ok (.ireturn, 1) := by decide +kernel
theorem dX3_hasYear_0 : decode cX3_hasYear 0 = .ok (.iload_n 1, 1) := by decide +kernel
theorem dX3_hasYear_1 : decode cX3_hasYear 1 = .ok (.ifCond .lt 15, 3) := by decide +kernel
theorem dX3_hasYear_4 : decode cX3_hasYear 4 = .ok (.iload_n 1, 1) := by decide +kernel
theorem dX3_hasYear_5 : decode cX3_hasYear 5 = .ok (.aload_n 0, 1) := by decide +kernel
theorem dX3_hasYear_6 : decode cX3_hasYear 6 = .ok (.getfield 55, 3) := by decide +kernel
theorem dX3_hasYear_9 : decode cX3_hasYear 9 = .ok (.if_icmp .ge 7, 3) := by decide +kernel
theorem dX3_hasYear_12 : decode cX3_hasYear 12 = .ok (.iconst 1, 1) := by decide +kernel
theorem dX3_hasYear_13 : decode cX3_hasYear 13 = .ok (.goto 4, 3) := by decide +kernel
theorem dX3_hasYear_16 : decode cX3_hasYear 16 = .ok (.iconst 0, 1) := by decide +kernel
theorem dX3_hasYear_17 : decode cX3_hasYear 17 = .ok (.ireturn, 1) := by decide +kernel
theorem dX3_hasPath_0 : decode cX3_hasPath 0 = .ok (.iload_n 1, 1) := by decide +kernel
theorem dX3_hasPath_1 : decode cX3_hasPath 1 = .ok (.ifCond .lt 15, 3) := by decide +kernel
theorem dX3_hasPath_4 : decode cX3_hasPath 4 = .ok (.iload_n 1, 1) := by decide +kernel
theorem dX3_hasPath_5 : decode cX3_hasPath 5 = .ok (.aload_n 0, 1) := by decide +kernel
theorem dX3_hasPath_6 : decode cX3_hasPath 6 = .ok (.getfield 58, 3) := by decide +kernel
theorem dX3_hasPath_9 : decode cX3_hasPath 9 = .ok (.if_icmp .ge 7, 3) := by decide +kernel
theorem dX3_hasPath_12 : decode cX3_hasPath 12 = .ok (.iconst 1, 1) := by decide +kernel
theorem dX3_hasPath_13 : decode cX3_hasPath 13 = .ok (.goto 4, 3) := by decide +kernel
theorem dX3_hasPath_16 : decode cX3_hasPath 16 = .ok (.iconst 0, 1) := by decide +kernel
theorem dX3_hasPath_17 : decode cX3_hasPath 17 = .ok (.ireturn, 1) := by decide +kernel
theorem dX3_hasBride_0 : decode cX3_hasBride 0 = .ok (.iload_n 1, 1) := by decide +kernel
theorem dX3_hasBride_1 : decode cX3_hasBride 1 = .ok (.ifCond .lt 15, 3) := by decide +kernel
theorem dX3_hasBride_4 : decode cX3_hasBride 4 = .ok (.iload_n 1, 1) := by decide +kernel
theorem dX3_hasBride_5 : decode cX3_hasBride 5 = .ok (.aload_n 0, 1) := by decide +kernel
theorem dX3_hasBride_6 : decode cX3_hasBride 6 = .ok (.getfield 61, 3) := by decide +kernel
theorem dX3_hasBride_9 : decode cX3_hasBride 9 = .ok (.if_icmp .ge 7, 3) := by decide +kernel
theorem dX3_hasBride_12 : decode cX3_hasBride 12 = .ok (.iconst 1, 1) := by decide +kernel
theorem dX3_hasBride_13 : decode cX3_hasBride 13 = .ok (.goto 4, 3) := by decide +kernel
theorem dX3_hasBride_16 : decode cX3_hasBride 16 = .ok (.iconst 0, 1) := by decide +kernel
theorem dX3_hasBride_17 : decode cX3_hasBride 17 = .ok (.ireturn, 1) := by decide +kernel
theorem dX3_hasSuitor_0 : decode cX3_hasSuitor 0 = .ok (.iload_n 1, 1) := by decide +kernel
theorem dX3_hasSuitor_1 : decode cX3_hasSuitor 1 = .ok (.ifCond .lt 15, 3) := by decide +kernel
theorem dX3_hasSuitor_4 : decode cX3_hasSuitor 4 = .ok (.iload_n 1, 1) := by decide +kernel
theorem dX3_hasSuitor_5 : decode cX3_hasSuitor 5 = .ok (.aload_n 0, 1) := by decide +kernel
theorem dX3_hasSuitor_6 : decode cX3_hasSuitor 6 = .ok (.getfield 64, 3) := by decide +kernel
theorem dX3_hasSuitor_9 : decode cX3_hasSuitor 9 = .ok (.if_icmp .ge 7, 3) := by decide +kernel
theorem dX3_hasSuitor_12 : decode cX3_hasSuitor 12 = .ok (.iconst 1, 1) := by decide +kernel
theorem dX3_hasSuitor_13 : decode cX3_hasSuitor 13 = .ok (.goto 4, 3) := by decide +kernel
theorem dX3_hasSuitor_16 : decode cX3_hasSuitor 16 = .ok (.iconst 0, 1) := by decide +kernel
theorem dX3_hasSuitor_17 : decode cX3_hasSuitor 17 = .ok (.ireturn, 1) := by decide +kernel
theorem dX3_hasWalker_0 : decode cX3_hasWalker 0 = .ok (.iload_n 1, 1) := by decide +kernel
theorem dX3_hasWalker_1 : decode cX3_hasWalker 1 = .ok (.ifCond .lt 15, 3) := by decide +kernel
theorem dX3_hasWalker_4 : decode cX3_hasWalker 4 = .ok (.iload_n 1, 1) := by decide +kernel
theorem dX3_hasWalker_5 : decode cX3_hasWalker 5 = .ok (.aload_n 0, 1) := by decide +kernel
theorem dX3_hasWalker_6 : decode cX3_hasWalker 6 = .ok (.getfield 67, 3) := by decide +kernel
theorem dX3_hasWalker_9 : decode cX3_hasWalker 9 = .ok (.if_icmp .ge 7, 3) := by decide +kernel
theorem dX3_hasWalker_12 : decode cX3_hasWalker 12 = .ok (.iconst 1, 1) := by decide +kernel
theorem dX3_hasWalker_13 : decode cX3_hasWalker 13 = .ok (.goto 4, 3) := by decide +kernel
theorem dX3_hasWalker_16 : decode cX3_hasWalker 16 = .ok (.iconst 0, 1) := by decide +kernel
theorem dX3_hasWalker_17 : decode cX3_hasWalker 17 = .ok (.ireturn, 1) := by decide +kernel
theorem dX3_isFor_0 : decode cX3_isFor 0 = .ok (.aload_n 0, 1) := by decide +kernel
theorem dX3_isFor_1 : decode cX3_isFor 1 = .ok (.iload_n 1, 1) := by decide +kernel
theorem dX3_isFor_2 : decode cX3_isFor 2 = .ok (.invokevirtual 80, 3) := by decide +kernel
theorem dX3_isFor_5 : decode cX3_isFor 5 = .ok (.ifCond .eq 29, 3) := by decide +kernel
theorem dX3_isFor_8 : decode cX3_isFor 8 = .ok (.aload_n 0, 1) := by decide +kernel
theorem dX3_isFor_9 : decode cX3_isFor 9 = .ok (.iload_n 2, 1) := by decide +kernel
theorem dX3_isFor_10 : decode cX3_isFor 10 = .ok (.invokevirtual 84, 3) := by decide +kernel
theorem dX3_isFor_13 : decode cX3_isFor 13 = .ok (.ifCond .eq 21, 3) := by decide +kernel
theorem dX3_isFor_16 : decode cX3_isFor 16 = .ok (.aload_n 0, 1) := by decide +kernel
theorem dX3_isFor_17 : decode cX3_isFor 17 = .ok (.getfield 33, 3) := by decide +kernel
theorem dX3_isFor_20 : decode cX3_isFor 20 = .ok (.iload_n 1, 1) := by decide +kernel
theorem dX3_isFor_21 : decode cX3_isFor 21 = .ok (.iaload, 1) := by decide +kernel
theorem dX3_isFor_22 : decode cX3_isFor 22 = .ok (.iload_n 2, 1) := by decide +kernel
theorem dX3_isFor_23 : decode cX3_isFor 23 = .ok (.ishr, 1) := by decide +kernel
theorem dX3_isFor_24 : decode cX3_isFor 24 = .ok (.iconst 1, 1) := by decide +kernel
theorem dX3_isFor_25 : decode cX3_isFor 25 = .ok (.iand, 1) := by decide +kernel
theorem dX3_isFor_26 : decode cX3_isFor 26 = .ok (.iconst 1, 1) := by decide +kernel
theorem dX3_isFor_27 : decode cX3_isFor 27 = .ok (.if_icmp .ne 7, 3) := by decide +kernel
theorem dX3_isFor_30 : decode cX3_isFor 30 = .ok (.iconst 1, 1) := by decide +kernel
theorem dX3_isFor_31 : decode cX3_isFor 31 = .ok (.goto 4, 3) := by decide +kernel
theorem dX3_isFor_34 : decode cX3_isFor 34 = .ok (.iconst 0, 1) := by decide +kernel
theorem dX3_isFor_35 : decode cX3_isFor 35 = .ok (.ireturn, 1) := by decide +kernel
theorem dX3_pathBetween_0 : decode cX3_pathBetween 0 = .ok (.iconst 0, 1) := by decide +kernel
theorem dX3_pathBetween_1 : decode cX3_pathBetween 1 = .ok (.istore_n 3, 1) := by decide +kernel
theorem dX3_pathBetween_2 : decode cX3_pathBetween 2 = .ok (.iload_n 3, 1) := by decide +kernel
theorem dX3_pathBetween_3 : decode cX3_pathBetween 3 = .ok (.aload_n 0, 1) := by decide +kernel
theorem dX3_pathBetween_4 : decode cX3_pathBetween 4 = .ok (.getfield 58, 3) := by decide +kernel
theorem dX3_pathBetween_7 : decode cX3_pathBetween 7 = .ok (.if_icmp .ge 51, 3) := by decide +kernel
theorem dX3_pathBetween_10 : decode cX3_pathBetween 10 = .ok (.aload_n 0, 1) := by decide +kernel
theorem dX3_pathBetween_11 : decode cX3_pathBetween 11 = .ok (.getfield 15, 3) := by decide +kernel
theorem dX3_pathBetween_14 : decode cX3_pathBetween 14 = .ok (.iload_n 3, 1) := by decide +kernel
theorem dX3_pathBetween_15 : decode cX3_pathBetween 15 = .ok (.iaload, 1) := by decide +kernel
theorem dX3_pathBetween_16 : decode cX3_pathBetween 16 = .ok (.iload_n 1, 1) := by decide +kernel
theorem dX3_pathBetween_17 : decode cX3_pathBetween 17 = .ok (.if_icmp .ne 13, 3) := by decide +kernel
theorem dX3_pathBetween_20 : decode cX3_pathBetween 20 = .ok (.aload_n 0, 1) := by decide +kernel
theorem dX3_pathBetween_21 : decode cX3_pathBetween 21 = .ok (.getfield 18, 3) := by decide +kernel
theorem dX3_pathBetween_24 : decode cX3_pathBetween 24 = .ok (.iload_n 3, 1) := by decide +kernel
theorem dX3_pathBetween_25 : decode cX3_pathBetween 25 = .ok (.iaload, 1) := by decide +kernel
theorem dX3_pathBetween_26 : decode cX3_pathBetween 26 = .ok (.iload_n 2, 1) := by decide +kernel
theorem dX3_pathBetween_27 : decode cX3_pathBetween 27 = .ok (.if_icmp .eq 23, 3) := by decide +kernel
theorem dX3_pathBetween_30 : decode cX3_pathBetween 30 = .ok (.aload_n 0, 1) := by decide +kernel
theorem dX3_pathBetween_31 : decode cX3_pathBetween 31 = .ok (.getfield 15, 3) := by decide +kernel
theorem dX3_pathBetween_34 : decode cX3_pathBetween 34 = .ok (.iload_n 3, 1) := by decide +kernel
theorem dX3_pathBetween_35 : decode cX3_pathBetween 35 = .ok (.iaload, 1) := by decide +kernel
theorem dX3_pathBetween_36 : decode cX3_pathBetween 36 = .ok (.iload_n 2, 1) := by decide +kernel
theorem dX3_pathBetween_37 : decode cX3_pathBetween 37 = .ok (.if_icmp .ne 15, 3) := by decide +kernel
theorem dX3_pathBetween_40 : decode cX3_pathBetween 40 = .ok (.aload_n 0, 1) := by decide +kernel
theorem dX3_pathBetween_41 : decode cX3_pathBetween 41 = .ok (.getfield 18, 3) := by decide +kernel
theorem dX3_pathBetween_44 : decode cX3_pathBetween 44 = .ok (.iload_n 3, 1) := by decide +kernel
theorem dX3_pathBetween_45 : decode cX3_pathBetween 45 = .ok (.iaload, 1) := by decide +kernel
theorem dX3_pathBetween_46 : decode cX3_pathBetween 46 = .ok (.iload_n 1, 1) := by decide +kernel
theorem dX3_pathBetween_47 : decode cX3_pathBetween 47 = .ok (.if_icmp .ne 5, 3) := by decide +kernel
theorem dX3_pathBetween_50 : decode cX3_pathBetween 50 = .ok (.iload_n 3, 1) := by decide +kernel
theorem dX3_pathBetween_51 : decode cX3_pathBetween 51 = .ok (.ireturn, 1) := by decide +kernel
theorem dX3_pathBetween_52 : decode cX3_pathBetween 52 = .ok (.iinc 3 1, 3) := by decide +kernel
theorem dX3_pathBetween_55 : decode cX3_pathBetween 55 = .ok (.goto (-53), 3) := by decide +kernel
theorem dX3_pathBetween_58 : decode cX3_pathBetween 58 = .ok (.iconst (-1), 1) := by decide +kernel
theorem dX3_pathBetween_59 : decode cX3_pathBetween 59 = .ok (.ireturn, 1) := by decide +kernel
theorem dX3_dropOf_0 : decode cX3_dropOf 0 = .ok (.aload_n 0, 1) := by decide +kernel
theorem dX3_dropOf_1 : decode cX3_dropOf 1 = .ok (.getfield 9, 3) := by decide +kernel
theorem dX3_dropOf_4 : decode cX3_dropOf 4 = .ok (.aload_n 0, 1) := by decide +kernel
theorem dX3_dropOf_5 : decode cX3_dropOf 5 = .ok (.getfield 15, 3) := by decide +kernel
theorem dX3_dropOf_8 : decode cX3_dropOf 8 = .ok (.iload_n 1, 1) := by decide +kernel
theorem dX3_dropOf_9 : decode cX3_dropOf 9 = .ok (.iaload, 1) := by decide +kernel
theorem dX3_dropOf_10 : decode cX3_dropOf 10 = .ok (.iaload, 1) := by decide +kernel
theorem dX3_dropOf_11 : decode cX3_dropOf 11 = .ok (.aload_n 0, 1) := by decide +kernel
theorem dX3_dropOf_12 : decode cX3_dropOf 12 = .ok (.getfield 9, 3) := by decide +kernel
theorem dX3_dropOf_15 : decode cX3_dropOf 15 = .ok (.aload_n 0, 1) := by decide +kernel
theorem dX3_dropOf_16 : decode cX3_dropOf 16 = .ok (.getfield 18, 3) := by decide +kernel
theorem dX3_dropOf_19 : decode cX3_dropOf 19 = .ok (.iload_n 1, 1) := by decide +kernel
theorem dX3_dropOf_20 : decode cX3_dropOf 20 = .ok (.iaload, 1) := by decide +kernel
theorem dX3_dropOf_21 : decode cX3_dropOf 21 = .ok (.iaload, 1) := by decide +kernel
theorem dX3_dropOf_22 : decode cX3_dropOf 22 = .ok (.isub, 1) := by decide +kernel
theorem dX3_dropOf_23 : decode cX3_dropOf 23 = .ok (.invokestatic 87, 3) := by decide +kernel
theorem dX3_dropOf_26 : decode cX3_dropOf 26 = .ok (.ireturn, 1) := by decide +kernel
theorem dX3_courtersOf_0 : decode cX3_courtersOf 0 = .ok (.iconst 0, 1) := by decide +kernel
theorem dX3_courtersOf_1 : decode cX3_courtersOf 1 = .ok (.istore_n 3, 1) := by decide +kernel
theorem dX3_courtersOf_2 : decode cX3_courtersOf 2 = .ok (.iconst 0, 1) := by decide +kernel
theorem dX3_courtersOf_3 : decode cX3_courtersOf 3 = .ok (.istore 4, 2) := by decide +kernel
theorem dX3_courtersOf_5 : decode cX3_courtersOf 5 = .ok (.iload 4, 2) := by decide +kernel
theorem dX3_courtersOf_7 : decode cX3_courtersOf 7 = .ok (.aload_n 0, 1) := by decide +kernel
theorem dX3_courtersOf_8 : decode cX3_courtersOf 8 = .ok (.getfield 64, 3) := by decide +kernel
theorem dX3_courtersOf_11 : decode cX3_courtersOf 11 = .ok (.if_icmp .ge 20, 3) := by decide +kernel
theorem dX3_courtersOf_14 : decode cX3_courtersOf 14 = .ok (.aload_n 1, 1) := by decide +kernel
theorem dX3_courtersOf_15 : decode cX3_courtersOf 15 = .ok (.iload 4, 2) := by decide +kernel
theorem dX3_courtersOf_17 : decode cX3_courtersOf 17 = .ok (.iaload, 1) := by decide +kernel
theorem dX3_courtersOf_18 : decode cX3_courtersOf 18 = .ok (.iload_n 2, 1) := by decide +kernel
theorem dX3_courtersOf_19 : decode cX3_courtersOf 19 = .ok (.if_icmp .ne 6, 3) := by decide +kernel
theorem dX3_courtersOf_22 : decode cX3_courtersOf 22 = .ok (.iinc 3 1, 3) := by decide +kernel
theorem dX3_courtersOf_25 : decode cX3_courtersOf 25 = .ok (.iinc 4 1, 3) := by decide +kernel
theorem dX3_courtersOf_28 : decode cX3_courtersOf 28 = .ok (.goto (-23), 3) := by decide +kernel
theorem dX3_courtersOf_31 : decode cX3_courtersOf 31 = .ok (.iload_n 3, 1) := by decide +kernel
theorem dX3_courtersOf_32 : decode cX3_courtersOf 32 = .ok (.ireturn, 1) := by decide +kernel
theorem dX3_takenBy_0 : decode cX3_takenBy 0 = .ok (.iconst (-1), 1) := by decide +kernel
theorem dX3_takenBy_1 : decode cX3_takenBy 1 = .ok (.istore_n 3, 1) := by decide +kernel
theorem dX3_takenBy_2 : decode cX3_takenBy 2 = .ok (.iconst 0, 1) := by decide +kernel
theorem dX3_takenBy_3 : decode cX3_takenBy 3 = .ok (.istore 4, 2) := by decide +kernel
theorem dX3_takenBy_5 : decode cX3_takenBy 5 = .ok (.iload 4, 2) := by decide +kernel
theorem dX3_takenBy_7 : decode cX3_takenBy 7 = .ok (.aload_n 0, 1) := by decide +kernel
theorem dX3_takenBy_8 : decode cX3_takenBy 8 = .ok (.getfield 64, 3) := by decide +kernel
theorem dX3_takenBy_11 : decode cX3_takenBy 11 = .ok (.if_icmp .ge 41, 3) := by decide +kernel
theorem dX3_takenBy_14 : decode cX3_takenBy 14 = .ok (.aload_n 1, 1) := by decide +kernel
theorem dX3_takenBy_15 : decode cX3_takenBy 15 = .ok (.iload 4, 2) := by decide +kernel
theorem dX3_takenBy_17 : decode cX3_takenBy 17 = .ok (.iaload, 1) := by decide +kernel
theorem dX3_takenBy_18 : decode cX3_takenBy 18 = .ok (.iload_n 2, 1) := by decide +kernel
theorem dX3_takenBy_19 : decode cX3_takenBy 19 = .ok (.if_icmp .ne 27, 3) := by decide +kernel
theorem dX3_takenBy_22 : decode cX3_takenBy 22 = .ok (.iload_n 3, 1) := by decide +kernel
theorem dX3_takenBy_23 : decode cX3_takenBy 23 = .ok (.iconst (-1), 1) := by decide +kernel
theorem dX3_takenBy_24 : decode cX3_takenBy 24 = .ok (.if_icmp .eq 19, 3) := by decide +kernel
theorem dX3_takenBy_27 : decode cX3_takenBy 27 = .ok (.aload_n 0, 1) := by decide +kernel
theorem dX3_takenBy_28 : decode cX3_takenBy 28 = .ok (.getfield 27, 3) := by decide +kernel
theorem dX3_takenBy_31 : decode cX3_takenBy 31 = .ok (.iload 4, 2) := by decide +kernel
theorem dX3_takenBy_33 : decode cX3_takenBy 33 = .ok (.iaload, 1) := by decide +kernel
theorem dX3_takenBy_34 : decode cX3_takenBy 34 = .ok (.aload_n 0, 1) := by decide +kernel
theorem dX3_takenBy_35 : decode cX3_takenBy 35 = .ok (.getfield 27, 3) := by decide +kernel
theorem dX3_takenBy_38 : decode cX3_takenBy 38 = .ok (.iload_n 3, 1) := by decide +kernel
theorem dX3_takenBy_39 : decode cX3_takenBy 39 = .ok (.iaload, 1) := by decide +kernel
theorem dX3_takenBy_40 : decode cX3_takenBy 40 = .ok (.if_icmp .le 6, 3) := by decide +kernel
theorem dX3_takenBy_43 : decode cX3_takenBy 43 = .ok (.iload 4, 2) := by decide +kernel
theorem dX3_takenBy_45 : decode cX3_takenBy 45 = .ok (.istore_n 3, 1) := by decide +kernel
theorem dX3_takenBy_46 : decode cX3_takenBy 46 = .ok (.iinc 4 1, 3) := by decide +kernel
theorem dX3_takenBy_49 : decode cX3_takenBy 49 = .ok (.goto (-44), 3) := by decide +kernel
theorem dX3_takenBy_52 : decode cX3_takenBy 52 = .ok (.iload_n 3, 1) := by decide +kernel
theorem dX3_takenBy_53 : decode cX3_takenBy 53 = .ok (.ireturn, 1) := by decide +kernel
theorem dX3_isRefused_0 : decode cX3_isRefused 0 = .ok (.aload_n 1, 1) := by decide +kernel
theorem dX3_isRefused_1 : decode cX3_isRefused 1 = .ok (.iload_n 2, 1) := by decide +kernel
theorem dX3_isRefused_2 : decode cX3_isRefused 2 = .ok (.iaload, 1) := by decide +kernel
theorem dX3_isRefused_3 : decode cX3_isRefused 3 = .ok (.iconst (-1), 1) := by decide +kernel
theorem dX3_isRefused_4 : decode cX3_isRefused 4 = .ok (.if_icmp .eq 19, 3) := by decide +kernel
theorem dX3_isRefused_7 : decode cX3_isRefused 7 = .ok (.aload_n 0, 1) := by decide +kernel
theorem dX3_isRefused_8 : decode cX3_isRefused 8 = .ok (.aload_n 1, 1) := by decide +kernel
theorem dX3_isRefused_9 : decode cX3_isRefused 9 = .ok (.aload_n 1, 1) := by decide +kernel
theorem dX3_isRefused_10 : decode cX3_isRefused 10 = .ok (.iload_n 2, 1) := by decide +kernel
theorem dX3_isRefused_11 : decode cX3_isRefused 11 = .ok (.iaload, 1) := by decide +kernel
theorem dX3_isRefused_12 : decode cX3_isRefused 12 = .ok (.invokevirtual 93, 3) := by decide +kernel
theorem dX3_isRefused_15 : decode cX3_isRefused 15 = .ok (.iload_n 2, 1) := by decide +kernel
theorem dX3_isRefused_16 : decode cX3_isRefused 16 = .ok (.if_icmp .eq 7, 3) := by decide +kernel
theorem dX3_isRefused_19 : decode cX3_isRefused 19 = .ok (.iconst 1, 1) := by decide +kernel
theorem dX3_isRefused_20 : decode cX3_isRefused 20 = .ok (.goto 4, 3) := by decide +kernel
theorem dX3_isRefused_23 : decode cX3_isRefused 23 = .ok (.iconst 0, 1) := by decide +kernel
theorem dX3_isRefused_24 : decode cX3_isRefused 24 = .ok (.ireturn, 1) := by decide +kernel
theorem dX3_hopeOf_0 : decode cX3_hopeOf 0 = .ok (.aload_n 0, 1) := by decide +kernel
theorem dX3_hopeOf_1 : decode cX3_hopeOf 1 = .ok (.aload_n 1, 1) := by decide +kernel
theorem dX3_hopeOf_2 : decode cX3_hopeOf 2 = .ok (.iload_n 2, 1) := by decide +kernel
theorem dX3_hopeOf_3 : decode cX3_hopeOf 3 = .ok (.invokevirtual 97, 3) := by decide +kernel
theorem dX3_hopeOf_6 : decode cX3_hopeOf 6 = .ok (.ifCond .ne 5, 3) := by decide +kernel
theorem dX3_hopeOf_9 : decode cX3_hopeOf 9 = .ok (.iconst (-1), 1) := by decide +kernel
theorem dX3_hopeOf_10 : decode cX3_hopeOf 10 = .ok (.ireturn, 1) := by decide +kernel
theorem dX3_hopeOf_11 : decode cX3_hopeOf 11 = .ok (.iconst 0, 1) := by decide +kernel
theorem dX3_hopeOf_12 : decode cX3_hopeOf 12 = .ok (.istore_n 3, 1) := by decide +kernel
theorem dX3_hopeOf_13 : decode cX3_hopeOf 13 = .ok (.iload_n 3, 1) := by decide +kernel
theorem dX3_hopeOf_14 : decode cX3_hopeOf 14 = .ok (.aload_n 0, 1) := by decide +kernel
theorem dX3_hopeOf_15 : decode cX3_hopeOf 15 = .ok (.getfield 61, 3) := by decide +kernel
theorem dX3_hopeOf_18 : decode cX3_hopeOf 18 = .ok (.if_icmp .ge 37, 3) := by decide +kernel
theorem dX3_hopeOf_21 : decode cX3_hopeOf 21 = .ok (.iload_n 3, 1) := by decide +kernel
theorem dX3_hopeOf_22 : decode cX3_hopeOf 22 = .ok (.aload_n 1, 1) := by decide +kernel
theorem dX3_hopeOf_23 : decode cX3_hopeOf 23 = .ok (.iload_n 2, 1) := by decide +kernel
theorem dX3_hopeOf_24 : decode cX3_hopeOf 24 = .ok (.iaload, 1) := by decide +kernel
theorem dX3_hopeOf_25 : decode cX3_hopeOf 25 = .ok (.if_icmp .eq 24, 3) := by decide +kernel
theorem dX3_hopeOf_28 : decode cX3_hopeOf 28 = .ok (.aload_n 0, 1) := by decide +kernel
theorem dX3_hopeOf_29 : decode cX3_hopeOf 29 = .ok (.iload_n 2, 1) := by decide +kernel
theorem dX3_hopeOf_30 : decode cX3_hopeOf 30 = .ok (.iload_n 3, 1) := by decide +kernel
theorem dX3_hopeOf_31 : decode cX3_hopeOf 31 = .ok (.invokevirtual 101, 3) := by decide +kernel
theorem dX3_hopeOf_34 : decode cX3_hopeOf 34 = .ok (.ifCond .eq 15, 3) := by decide +kernel
theorem dX3_hopeOf_37 : decode cX3_hopeOf 37 = .ok (.aload_n 0, 1) := by decide +kernel
theorem dX3_hopeOf_38 : decode cX3_hopeOf 38 = .ok (.aload_n 1, 1) := by decide +kernel
theorem dX3_hopeOf_39 : decode cX3_hopeOf 39 = .ok (.iload_n 2, 1) := by decide +kernel
theorem dX3_hopeOf_40 : decode cX3_hopeOf 40 = .ok (.iload_n 3, 1) := by decide +kernel
theorem dX3_hopeOf_41 : decode cX3_hopeOf 41 = .ok (.invokevirtual 105, 3) := by decide +kernel
theorem dX3_hopeOf_44 : decode cX3_hopeOf 44 = .ok (.ifCond .eq 5, 3) := by decide +kernel
theorem dX3_hopeOf_47 : decode cX3_hopeOf 47 = .ok (.iload_n 3, 1) := by decide +kernel
theorem dX3_hopeOf_48 : decode cX3_hopeOf 48 = .ok (.ireturn, 1) := by decide +kernel
theorem dX3_hopeOf_49 : decode cX3_hopeOf 49 = .ok (.iinc 3 1, 3) := by decide +kernel
theorem dX3_hopeOf_52 : decode cX3_hopeOf 52 = .ok (.goto (-39), 3) := by decide +kernel
theorem dX3_hopeOf_55 : decode cX3_hopeOf 55 = .ok (.iconst (-1), 1) := by decide +kernel
theorem dX3_hopeOf_56 : decode cX3_hopeOf 56 = .ok (.ireturn, 1) := by decide +kernel
theorem dX3_wouldBeTaken_0 : decode cX3_wouldBeTaken 0 = .ok (.aload_n 0, 1) := by decide +kernel
theorem dX3_wouldBeTaken_1 : decode cX3_wouldBeTaken 1 = .ok (.aload_n 1, 1) := by decide +kernel
theorem dX3_wouldBeTaken_2 : decode cX3_wouldBeTaken 2 = .ok (.iload_n 3, 1) := by decide +kernel
theorem dX3_wouldBeTaken_3 : decode cX3_wouldBeTaken 3 = .ok (.invokevirtual 93, 3) := by decide +kernel
theorem dX3_wouldBeTaken_6 : decode cX3_wouldBeTaken 6 = .ok (.istore 4, 2) := by decide +kernel
theorem dX3_wouldBeTaken_8 : decode cX3_wouldBeTaken 8 = .ok (.iload 4, 2) := by decide +kernel
theorem dX3_wouldBeTaken_10 : decode cX3_wouldBeTaken 10 = .ok (.iconst (-1), 1) := by decide +kernel
theorem dX3_wouldBeTaken_11 : decode cX3_wouldBeTaken 11 = .ok (.if_icmp .eq 41, 3) := by decide +kernel
theorem dX3_wouldBeTaken_14 : decode cX3_wouldBeTaken 14 = .ok (.aload_n 0, 1) := by decide +kernel
theorem dX3_wouldBeTaken_15 : decode cX3_wouldBeTaken 15 = .ok (.getfield 27, 3) := by decide +kernel
theorem dX3_wouldBeTaken_18 : decode cX3_wouldBeTaken 18 = .ok (.iload_n 2, 1) := by decide +kernel
theorem dX3_wouldBeTaken_19 : decode cX3_wouldBeTaken 19 = .ok (.iaload, 1) := by decide +kernel
theorem dX3_wouldBeTaken_20 : decode cX3_wouldBeTaken 20 = .ok (.aload_n 0, 1) := by decide +kernel
theorem dX3_wouldBeTaken_21 : decode cX3_wouldBeTaken 21 = .ok (.getfield 27, 3) := by decide +kernel
theorem dX3_wouldBeTaken_24 : decode cX3_wouldBeTaken 24 = .ok (.iload 4, 2) := by decide +kernel
theorem dX3_wouldBeTaken_26 : decode cX3_wouldBeTaken 26 = .ok (.iaload, 1) := by decide +kernel
theorem dX3_wouldBeTaken_27 : decode cX3_wouldBeTaken 27 = .ok (.if_icmp .gt 25, 3) := by decide +kernel
theorem dX3_wouldBeTaken_30 : decode cX3_wouldBeTaken 30 = .ok (.aload_n 0, 1) := by decide +kernel
theorem dX3_wouldBeTaken_31 : decode cX3_wouldBeTaken 31 = .ok (.getfield 27, 3) := by decide +kernel
theorem dX3_wouldBeTaken_34 : decode cX3_wouldBeTaken 34 = .ok (.iload_n 2, 1) := by decide +kernel
theorem dX3_wouldBeTaken_35 : decode cX3_wouldBeTaken 35 = .ok (.iaload, 1) := by decide +kernel
theorem dX3_wouldBeTaken_36 : decode cX3_wouldBeTaken 36 = .ok (.aload_n 0, 1) := by decide +kernel
theorem dX3_wouldBeTaken_37 : decode cX3_wouldBeTaken 37 = .ok (.getfield 27, 3) := by decide +kernel
theorem dX3_wouldBeTaken_40 : decode cX3_wouldBeTaken 40 = .ok (.iload 4, 2) := by decide +kernel
theorem dX3_wouldBeTaken_42 : decode cX3_wouldBeTaken 42 = .ok (.iaload, 1) := by decide +kernel
theorem dX3_wouldBeTaken_43 : decode cX3_wouldBeTaken 43 = .ok (.if_icmp .ne 13, 3) := by decide +kernel
theorem dX3_wouldBeTaken_46 : decode cX3_wouldBeTaken 46 = .ok (.iload_n 2, 1) := by decide +kernel
theorem dX3_wouldBeTaken_47 : decode cX3_wouldBeTaken 47 = .ok (.iload 4, 2) := by decide +kernel
theorem dX3_wouldBeTaken_49 : decode cX3_wouldBeTaken 49 = .ok (.if_icmp .ge 7, 3) := by decide +kernel
theorem dX3_wouldBeTaken_52 : decode cX3_wouldBeTaken 52 = .ok (.iconst 1, 1) := by decide +kernel
theorem dX3_wouldBeTaken_53 : decode cX3_wouldBeTaken 53 = .ok (.goto 4, 3) := by decide +kernel
theorem dX3_wouldBeTaken_56 : decode cX3_wouldBeTaken 56 = .ok (.iconst 0, 1) := by decide +kernel
theorem dX3_wouldBeTaken_57 : decode cX3_wouldBeTaken 57 = .ok (.ireturn, 1) := by decide +kernel
theorem dX3_firstHoping_0 : decode cX3_firstHoping 0 = .ok (.iconst 0, 1) := by decide +kernel
theorem dX3_firstHoping_1 : decode cX3_firstHoping 1 = .ok (.istore_n 2, 1) := by decide +kernel
theorem dX3_firstHoping_2 : decode cX3_firstHoping 2 = .ok (.iload_n 2, 1) := by decide +kernel
theorem dX3_firstHoping_3 : decode cX3_firstHoping 3 = .ok (.aload_n 0, 1) := by decide +kernel
theorem dX3_firstHoping_4 : decode cX3_firstHoping 4 = .ok (.getfield 64, 3) := by decide +kernel
theorem dX3_firstHoping_7 : decode cX3_firstHoping 7 = .ok (.if_icmp .ge 21, 3) := by decide +kernel
theorem dX3_firstHoping_10 : decode cX3_firstHoping 10 = .ok (.aload_n 0, 1) := by decide +kernel
theorem dX3_firstHoping_11 : decode cX3_firstHoping 11 = .ok (.aload_n 1, 1) := by decide +kernel
theorem dX3_firstHoping_12 : decode cX3_firstHoping 12 = .ok (.iload_n 2, 1) := by decide +kernel
theorem dX3_firstHoping_13 : decode cX3_firstHoping 13 = .ok (.invokevirtual 109, 3) := by decide +kernel
theorem dX3_firstHoping_16 : decode cX3_firstHoping 16 = .ok (.iconst (-1), 1) := by decide +kernel
theorem dX3_firstHoping_17 : decode cX3_firstHoping 17 = .ok (.if_icmp .eq 5, 3) := by decide +kernel
theorem dX3_firstHoping_20 : decode cX3_firstHoping 20 = .ok (.iload_n 2, 1) := by decide +kernel
theorem dX3_firstHoping_21 : decode cX3_firstHoping 21 = .ok (.ireturn, 1) := by decide +kernel
theorem dX3_firstHoping_22 : decode cX3_firstHoping 22 = .ok (.iinc 2 1, 3) := by decide +kernel
theorem dX3_firstHoping_25 : decode cX3_firstHoping 25 = .ok (.goto (-23), 3) := by decide +kernel
theorem dX3_firstHoping_28 : decode cX3_firstHoping 28 = .ok (.iconst (-1), 1) := by decide +kernel
theorem dX3_firstHoping_29 : decode cX3_firstHoping 29 = .ok (.ireturn, 1) := by decide +kernel
theorem dX3_wouldStep_0 : decode cX3_wouldStep 0 = .ok (.iload_n 2, 1) := by decide +kernel
theorem dX3_wouldStep_1 : decode cX3_wouldStep 1 = .ok (.ifCond .lt 54, 3) := by decide +kernel
theorem dX3_wouldStep_4 : decode cX3_wouldStep 4 = .ok (.iload_n 2, 1) := by decide +kernel
theorem dX3_wouldStep_5 : decode cX3_wouldStep 5 = .ok (.aload_n 0, 1) := by decide +kernel
theorem dX3_wouldStep_6 : decode cX3_wouldStep 6 = .ok (.getfield 61, 3) := by decide +kernel
theorem dX3_wouldStep_9 : decode cX3_wouldStep 9 = .ok (.if_icmp .ge 46, 3) := by decide +kernel
theorem dX3_wouldStep_12 : decode cX3_wouldStep 12 = .ok (.aload_n 0, 1) := by decide +kernel
theorem dX3_wouldStep_13 : decode cX3_wouldStep 13 = .ok (.getfield 21, 3) := by decide +kernel
theorem dX3_wouldStep_16 : decode cX3_wouldStep 16 = .ok (.iload_n 2, 1) := by decide +kernel
theorem dX3_wouldStep_17 : decode cX3_wouldStep 17 = .ok (.iaload, 1) := by decide +kernel
theorem dX3_wouldStep_18 : decode cX3_wouldStep 18 = .ok (.iload_n 3, 1) := by decide +kernel
theorem dX3_wouldStep_19 : decode cX3_wouldStep 19 = .ok (.if_icmp .ne 36, 3) := by decide +kernel
theorem dX3_wouldStep_22 : decode cX3_wouldStep 22 = .ok (.iload 4, 2) := by decide +kernel
theorem dX3_wouldStep_24 : decode cX3_wouldStep 24 = .ok (.aload_n 0, 1) := by decide +kernel
theorem dX3_wouldStep_25 : decode cX3_wouldStep 25 = .ok (.getfield 24, 3) := by decide +kernel
theorem dX3_wouldStep_28 : decode cX3_wouldStep 28 = .ok (.iload_n 2, 1) := by decide +kernel
theorem dX3_wouldStep_29 : decode cX3_wouldStep 29 = .ok (.iaload, 1) := by decide +kernel
theorem dX3_wouldStep_30 : decode cX3_wouldStep 30 = .ok (.if_icmp .lt 25, 3) := by decide +kernel
theorem dX3_wouldStep_33 : decode cX3_wouldStep 33 = .ok (.iload 4, 2) := by decide +kernel
theorem dX3_wouldStep_35 : decode cX3_wouldStep 35 = .ok (.aload_n 0, 1) := by decide +kernel
theorem dX3_wouldStep_36 : decode cX3_wouldStep 36 = .ok (.getfield 24, 3) := by decide +kernel
theorem dX3_wouldStep_39 : decode cX3_wouldStep 39 = .ok (.iload_n 2, 1) := by decide +kernel
theorem dX3_wouldStep_40 : decode cX3_wouldStep 40 = .ok (.iaload, 1) := by decide +kernel
theorem dX3_wouldStep_41 : decode cX3_wouldStep 41 = .ok (.aload_n 0, 1) := by decide +kernel
theorem dX3_wouldStep_42 : decode cX3_wouldStep 42 = .ok (.getfield 27, 3) := by decide +kernel
theorem dX3_wouldStep_45 : decode cX3_wouldStep 45 = .ok (.iload_n 1, 1) := by decide +kernel
theorem dX3_wouldStep_46 : decode cX3_wouldStep 46 = .ok (.iaload, 1) := by decide +kernel
theorem dX3_wouldStep_47 : decode cX3_wouldStep 47 = .ok (.iadd, 1) := by decide +kernel
theorem dX3_wouldStep_48 : decode cX3_wouldStep 48 = .ok (.if_icmp .gt 7, 3) := by decide +kernel
theorem dX3_wouldStep_51 : decode cX3_wouldStep 51 = .ok (.iconst 1, 1) := by decide +kernel
theorem dX3_wouldStep_52 : decode cX3_wouldStep 52 = .ok (.goto 4, 3) := by decide +kernel
theorem dX3_wouldStep_55 : decode cX3_wouldStep 55 = .ok (.iconst 0, 1) := by decide +kernel
theorem dX3_wouldStep_56 : decode cX3_wouldStep 56 = .ok (.ireturn, 1) := by decide +kernel
theorem dX3_hasStep_0 : decode cX3_hasStep 0 = .ok (.aload_n 0, 1) := by decide +kernel
theorem dX3_hasStep_1 : decode cX3_hasStep 1 = .ok (.iload_n 1, 1) := by decide +kernel
theorem dX3_hasStep_2 : decode cX3_hasStep 2 = .ok (.aload_n 0, 1) := by decide +kernel
theorem dX3_hasStep_3 : decode cX3_hasStep 3 = .ok (.getfield 36, 3) := by decide +kernel
theorem dX3_hasStep_6 : decode cX3_hasStep 6 = .ok (.iload_n 1, 1) := by decide +kernel
theorem dX3_hasStep_7 : decode cX3_hasStep 7 = .ok (.iaload, 1) := by decide +kernel
theorem dX3_hasStep_8 : decode cX3_hasStep 8 = .ok (.iload_n 2, 1) := by decide +kernel
theorem dX3_hasStep_9 : decode cX3_hasStep 9 = .ok (.iload_n 3, 1) := by decide +kernel
theorem dX3_hasStep_10 : decode cX3_hasStep 10 = .ok (.invokevirtual 112, 3) := by decide +kernel
theorem dX3_hasStep_13 : decode cX3_hasStep 13 = .ok (.ireturn, 1) := by decide +kernel
theorem dX3_stepsOn_0 : decode cX3_stepsOn 0 = .ok (.iconst 0, 1) := by decide +kernel
theorem dX3_stepsOn_1 : decode cX3_stepsOn 1 = .ok (.istore 4, 2) := by decide +kernel
theorem dX3_stepsOn_3 : decode cX3_stepsOn 3 = .ok (.iconst 0, 1) := by decide +kernel
theorem dX3_stepsOn_4 : decode cX3_stepsOn 4 = .ok (.istore 5, 2) := by decide +kernel
theorem dX3_stepsOn_6 : decode cX3_stepsOn 6 = .ok (.iload 5, 2) := by decide +kernel
theorem dX3_stepsOn_8 : decode cX3_stepsOn 8 = .ok (.aload_n 0, 1) := by decide +kernel
theorem dX3_stepsOn_9 : decode cX3_stepsOn 9 = .ok (.getfield 64, 3) := by decide +kernel
theorem dX3_stepsOn_12 : decode cX3_stepsOn 12 = .ok (.if_icmp .ge 29, 3) := by decide +kernel
theorem dX3_stepsOn_15 : decode cX3_stepsOn 15 = .ok (.iload 5, 2) := by decide +kernel
theorem dX3_stepsOn_17 : decode cX3_stepsOn 17 = .ok (.iload_n 3, 1) := by decide +kernel
theorem dX3_stepsOn_18 : decode cX3_stepsOn 18 = .ok (.if_icmp .eq 17, 3) := by decide +kernel
theorem dX3_stepsOn_21 : decode cX3_stepsOn 21 = .ok (.aload_n 0, 1) := by decide +kernel
theorem dX3_stepsOn_22 : decode cX3_stepsOn 22 = .ok (.iload 5, 2) := by decide +kernel
theorem dX3_stepsOn_24 : decode cX3_stepsOn 24 = .ok (.iload_n 1, 1) := by decide +kernel
theorem dX3_stepsOn_25 : decode cX3_stepsOn 25 = .ok (.iload_n 2, 1) := by decide +kernel
theorem dX3_stepsOn_26 : decode cX3_stepsOn 26 = .ok (.invokevirtual 116, 3) := by decide +kernel
theorem dX3_stepsOn_29 : decode cX3_stepsOn 29 = .ok (.ifCond .eq 6, 3) := by decide +kernel
theorem dX3_stepsOn_32 : decode cX3_stepsOn 32 = .ok (.iinc 4 1, 3) := by decide +kernel
theorem dX3_stepsOn_35 : decode cX3_stepsOn 35 = .ok (.iinc 5 1, 3) := by decide +kernel
theorem dX3_stepsOn_38 : decode cX3_stepsOn 38 = .ok (.goto (-32), 3) := by decide +kernel
theorem dX3_stepsOn_41 : decode cX3_stepsOn 41 = .ok (.iload 4, 2) := by decide +kernel
theorem dX3_stepsOn_43 : decode cX3_stepsOn 43 = .ok (.ireturn, 1) := by decide +kernel
theorem dX3_leapOf_0 : decode cX3_leapOf 0 = .ok (.aload_n 0, 1) := by decide +kernel
theorem dX3_leapOf_1 : decode cX3_leapOf 1 = .ok (.iload_n 1, 1) := by decide +kernel
theorem dX3_leapOf_2 : decode cX3_leapOf 2 = .ok (.invokevirtual 120, 3) := by decide +kernel
theorem dX3_leapOf_5 : decode cX3_leapOf 5 = .ok (.aload_n 0, 1) := by decide +kernel
theorem dX3_leapOf_6 : decode cX3_leapOf 6 = .ok (.iload_n 1, 1) := by decide +kernel
theorem dX3_leapOf_7 : decode cX3_leapOf 7 = .ok (.iload_n 2, 1) := by decide +kernel
theorem dX3_leapOf_8 : decode cX3_leapOf 8 = .ok (.iconst (-1), 1) := by decide +kernel
theorem dX3_leapOf_9 : decode cX3_leapOf 9 = .ok (.invokevirtual 123, 3) := by decide +kernel
theorem dX3_leapOf_12 : decode cX3_leapOf 12 = .ok (.iconst 1, 1) := by decide +kernel
theorem dX3_leapOf_13 : decode cX3_leapOf 13 = .ok (.iadd, 1) := by decide +kernel
theorem dX3_leapOf_14 : decode cX3_leapOf 14 = .ok (.invokestatic 127, 3) := by decide +kernel
theorem dX3_leapOf_17 : decode cX3_leapOf 17 = .ok (.ireturn, 1) := by decide +kernel
theorem dX3_lackingOn_0 : decode cX3_lackingOn 0 = .ok (.aload_n 0, 1) := by decide +kernel
theorem dX3_lackingOn_1 : decode cX3_lackingOn 1 = .ok (.iload_n 1, 1) := by decide +kernel
theorem dX3_lackingOn_2 : decode cX3_lackingOn 2 = .ok (.invokevirtual 120, 3) := by decide +kernel
theorem dX3_lackingOn_5 : decode cX3_lackingOn 5 = .ok (.aload_n 0, 1) := by decide +kernel
theorem dX3_lackingOn_6 : decode cX3_lackingOn 6 = .ok (.iload_n 1, 1) := by decide +kernel
theorem dX3_lackingOn_7 : decode cX3_lackingOn 7 = .ok (.iload_n 2, 1) := by decide +kernel
theorem dX3_lackingOn_8 : decode cX3_lackingOn 8 = .ok (.iconst (-1), 1) := by decide +kernel
theorem dX3_lackingOn_9 : decode cX3_lackingOn 9 = .ok (.invokevirtual 123, 3) := by decide +kernel
theorem dX3_lackingOn_12 : decode cX3_lackingOn 12 = .ok (.iload_n 3, 1) := by decide +kernel
theorem dX3_lackingOn_13 : decode cX3_lackingOn 13 = .ok (.invokestatic 131, 3) := by decide +kernel
theorem dX3_lackingOn_16 : decode cX3_lackingOn 16 = .ok (.ireturn, 1) := by decide +kernel
theorem dX3_fallOf_0 : decode cX3_fallOf 0 = .ok (.aload_n 0, 1) := by decide +kernel
theorem dX3_fallOf_1 : decode cX3_fallOf 1 = .ok (.getfield 39, 3) := by decide +kernel
theorem dX3_fallOf_4 : decode cX3_fallOf 4 = .ok (.iload_n 2, 1) := by decide +kernel
theorem dX3_fallOf_5 : decode cX3_fallOf 5 = .ok (.iaload, 1) := by decide +kernel
theorem dX3_fallOf_6 : decode cX3_fallOf 6 = .ok (.aload_n 0, 1) := by decide +kernel
theorem dX3_fallOf_7 : decode cX3_fallOf 7 = .ok (.aload_n 0, 1) := by decide +kernel
theorem dX3_fallOf_8 : decode cX3_fallOf 8 = .ok (.getfield 36, 3) := by decide +kernel
theorem dX3_fallOf_11 : decode cX3_fallOf 11 = .ok (.iload_n 1, 1) := by decide +kernel
theorem dX3_fallOf_12 : decode cX3_fallOf 12 = .ok (.invokevirtual 97, 3) := by decide +kernel
theorem dX3_fallOf_15 : decode cX3_fallOf 15 = .ok (.ifCond .eq 12, 3) := by decide +kernel
theorem dX3_fallOf_18 : decode cX3_fallOf 18 = .ok (.aload_n 0, 1) := by decide +kernel
theorem dX3_fallOf_19 : decode cX3_fallOf 19 = .ok (.getfield 30, 3) := by decide +kernel
theorem dX3_fallOf_22 : decode cX3_fallOf 22 = .ok (.iload_n 1, 1) := by decide +kernel
theorem dX3_fallOf_23 : decode cX3_fallOf 23 = .ok (.iaload, 1) := by decide +kernel
theorem dX3_fallOf_24 : decode cX3_fallOf 24 = .ok (.goto 4, 3) := by decide +kernel
theorem dX3_fallOf_27 : decode cX3_fallOf 27 = .ok (.iconst 0, 1) := by decide +kernel
theorem dX3_fallOf_28 : decode cX3_fallOf 28 = .ok (.iadd, 1) := by decide +kernel
theorem dX3_fallOf_29 : decode cX3_fallOf 29 = .ok (.istore_n 3, 1) := by decide +kernel
theorem dX3_fallOf_30 : decode cX3_fallOf 30 = .ok (.iload_n 3, 1) := by decide +kernel
theorem dX3_fallOf_31 : decode cX3_fallOf 31 = .ok (.bipush 100, 2) := by decide +kernel
theorem dX3_fallOf_33 : decode cX3_fallOf 33 = .ok (.invokestatic 134, 3) := by decide +kernel
theorem dX3_fallOf_36 : decode cX3_fallOf 36 = .ok (.ireturn, 1) := by decide +kernel
theorem dX3_safeAlong_0 : decode cX3_safeAlong 0 = .ok (.lload_n 1, 1) := by decide +kernel
theorem dX3_safeAlong_1 : decode cX3_safeAlong 1 = .ok (.lstore 5, 2) := by decide +kernel
theorem dX3_safeAlong_3 : decode cX3_safeAlong 3 = .ok (.iconst 0, 1) := by decide +kernel
theorem dX3_safeAlong_4 : decode cX3_safeAlong 4 = .ok (.istore 7, 2) := by decide +kernel
theorem dX3_safeAlong_6 : decode cX3_safeAlong 6 = .ok (.iload 7, 2) := by decide +kernel
theorem dX3_safeAlong_8 : decode cX3_safeAlong 8 = .ok (.aload_n 0, 1) := by decide +kernel
theorem dX3_safeAlong_9 : decode cX3_safeAlong 9 = .ok (.getfield 64, 3) := by decide +kernel
theorem dX3_safeAlong_12 : decode cX3_safeAlong 12 = .ok (.if_icmp .ge 42, 3) := by decide +kernel
theorem dX3_safeAlong_15 : decode cX3_safeAlong 15 = .ok (.aload_n 0, 1) := by decide +kernel
theorem dX3_safeAlong_16 : decode cX3_safeAlong 16 = .ok (.iload 7, 2) := by decide +kernel
theorem dX3_safeAlong_18 : decode cX3_safeAlong 18 = .ok (.iload_n 3, 1) := by decide +kernel
theorem dX3_safeAlong_19 : decode cX3_safeAlong 19 = .ok (.iload 4, 2) := by decide +kernel
theorem dX3_safeAlong_21 : decode cX3_safeAlong 21 = .ok (.invokevirtual 116, 3) := by decide +kernel
theorem dX3_safeAlong_24 : decode cX3_safeAlong 24 = .ok (.ifCond .eq 24, 3) := by decide +kernel
theorem dX3_safeAlong_27 : decode cX3_safeAlong 27 = .ok (.lload 5, 2) := by decide +kernel
theorem dX3_safeAlong_29 : decode cX3_safeAlong 29 = .ok (.ldc2_w 137, 3) := by decide +kernel
theorem dX3_safeAlong_32 : decode cX3_safeAlong 32 = .ok (.ldiv, 1) := by decide +kernel
theorem dX3_safeAlong_33 : decode cX3_safeAlong 33 = .ok (.bipush 100, 2) := by decide +kernel
theorem dX3_safeAlong_35 : decode cX3_safeAlong 35 = .ok (.aload_n 0, 1) := by decide +kernel
theorem dX3_safeAlong_36 : decode cX3_safeAlong 36 = .ok (.iload 7, 2) := by decide +kernel
theorem dX3_safeAlong_38 : decode cX3_safeAlong 38 = .ok (.iload 4, 2) := by decide +kernel
theorem dX3_safeAlong_40 : decode cX3_safeAlong 40 = .ok (.invokevirtual 139, 3) := by decide +kernel
theorem dX3_safeAlong_43 : decode cX3_safeAlong 43 = .ok (.isub, 1) := by decide +kernel
theorem dX3_safeAlong_44 : decode cX3_safeAlong 44 = .ok (.i2l, 1) := by decide +kernel
theorem dX3_safeAlong_45 : decode cX3_safeAlong 45 = .ok (.lmul, 1) := by decide +kernel
theorem dX3_safeAlong_46 : decode cX3_safeAlong 46 = .ok (.lstore 5, 2) := by decide +kernel
theorem dX3_safeAlong_48 : decode cX3_safeAlong 48 = .ok (.iinc 7 1, 3) := by decide +kernel
theorem dX3_safeAlong_51 : decode cX3_safeAlong 51 = .ok (.goto (-45), 3) := by decide +kernel
theorem dX3_safeAlong_54 : decode cX3_safeAlong 54 = .ok (.lload 5, 2) := by decide +kernel
theorem dX3_safeAlong_56 : decode cX3_safeAlong 56 = .ok (.lreturn, 1) := by decide +kernel
theorem dX3_openPaths_0 : decode cX3_openPaths 0 = .ok (.iconst 0, 1) := by decide +kernel
theorem dX3_openPaths_1 : decode cX3_openPaths 1 = .ok (.istore 4, 2) := by decide +kernel
theorem dX3_openPaths_3 : decode cX3_openPaths 3 = .ok (.iconst 0, 1) := by decide +kernel
theorem dX3_openPaths_4 : decode cX3_openPaths 4 = .ok (.istore 5, 2) := by decide +kernel
theorem dX3_openPaths_6 : decode cX3_openPaths 6 = .ok (.iload 5, 2) := by decide +kernel
theorem dX3_openPaths_8 : decode cX3_openPaths 8 = .ok (.aload_n 0, 1) := by decide +kernel
theorem dX3_openPaths_9 : decode cX3_openPaths 9 = .ok (.getfield 58, 3) := by decide +kernel
theorem dX3_openPaths_12 : decode cX3_openPaths 12 = .ok (.if_icmp .ge 41, 3) := by decide +kernel
theorem dX3_openPaths_15 : decode cX3_openPaths 15 = .ok (.aload_n 0, 1) := by decide +kernel
theorem dX3_openPaths_16 : decode cX3_openPaths 16 = .ok (.iload 5, 2) := by decide +kernel
theorem dX3_openPaths_18 : decode cX3_openPaths 18 = .ok (.invokevirtual 120, 3) := by decide +kernel
theorem dX3_openPaths_21 : decode cX3_openPaths 21 = .ok (.aload_n 0, 1) := by decide +kernel
theorem dX3_openPaths_22 : decode cX3_openPaths 22 = .ok (.iload 5, 2) := by decide +kernel
theorem dX3_openPaths_24 : decode cX3_openPaths 24 = .ok (.iload_n 2, 1) := by decide +kernel
theorem dX3_openPaths_25 : decode cX3_openPaths 25 = .ok (.iload_n 3, 1) := by decide +kernel
theorem dX3_openPaths_26 : decode cX3_openPaths 26 = .ok (.invokevirtual 123, 3) := by decide +kernel
theorem dX3_openPaths_29 : decode cX3_openPaths 29 = .ok (.iconst 1, 1) := by decide +kernel
theorem dX3_openPaths_30 : decode cX3_openPaths 30 = .ok (.iadd, 1) := by decide +kernel
theorem dX3_openPaths_31 : decode cX3_openPaths 31 = .ok (.invokestatic 127, 3) := by decide +kernel
theorem dX3_openPaths_34 : decode cX3_openPaths 34 = .ok (.iload_n 1, 1) := by decide +kernel
theorem dX3_openPaths_35 : decode cX3_openPaths 35 = .ok (.if_icmp .gt 12, 3) := by decide +kernel
theorem dX3_openPaths_38 : decode cX3_openPaths 38 = .ok (.iload 4, 2) := by decide +kernel
theorem dX3_openPaths_40 : decode cX3_openPaths 40 = .ok (.iconst 1, 1) := by decide +kernel
theorem dX3_openPaths_41 : decode cX3_openPaths 41 = .ok (.iload 5, 2) := by decide +kernel
theorem dX3_openPaths_43 : decode cX3_openPaths 43 = .ok (.ishl, 1) := by decide +kernel
theorem dX3_openPaths_44 : decode cX3_openPaths 44 = .ok (.ior, 1) := by decide +kernel
theorem dX3_openPaths_45 : decode cX3_openPaths 45 = .ok (.istore 4, 2) := by decide +kernel
theorem dX3_openPaths_47 : decode cX3_openPaths 47 = .ok (.iinc 5 1, 3) := by decide +kernel
theorem dX3_openPaths_50 : decode cX3_openPaths 50 = .ok (.goto (-44), 3) := by decide +kernel
theorem dX3_openPaths_53 : decode cX3_openPaths 53 = .ok (.iload 4, 2) := by decide +kernel
theorem dX3_openPaths_55 : decode cX3_openPaths 55 = .ok (.ireturn, 1) := by decide +kernel
theorem dX3_placesFrom_0 : decode cX3_placesFrom 0 = .ok (.iconst 1, 1) := by decide +kernel
theorem dX3_placesFrom_1 : decode cX3_placesFrom 1 = .ok (.iload_n 1, 1) := by decide +kernel
theorem dX3_placesFrom_2 : decode cX3_placesFrom 2 = .ok (.ishl, 1) := by decide +kernel
theorem dX3_placesFrom_3 : decode cX3_placesFrom 3 = .ok (.istore_n 3, 1) := by decide +kernel
theorem dX3_placesFrom_4 : decode cX3_placesFrom 4 = .ok (.iconst 0, 1) := by decide +kernel
theorem dX3_placesFrom_5 : decode cX3_placesFrom 5 = .ok (.istore 4, 2) := by decide +kernel
theorem dX3_placesFrom_7 : decode cX3_placesFrom 7 = .ok (.iload 4, 2) := by decide +kernel
theorem dX3_placesFrom_9 : decode cX3_placesFrom 9 = .ok (.aload_n 0, 1) := by decide +kernel
theorem dX3_placesFrom_10 : decode cX3_placesFrom 10 = .ok (.getfield 52, 3) := by decide +kernel
theorem dX3_placesFrom_13 : decode cX3_placesFrom 13 = .ok (.if_icmp .ge 82, 3) := by decide +kernel
theorem dX3_placesFrom_16 : decode cX3_placesFrom 16 = .ok (.iload_n 3, 1) := by decide +kernel
theorem dX3_placesFrom_17 : decode cX3_placesFrom 17 = .ok (.istore 5, 2) := by decide +kernel
theorem dX3_placesFrom_19 : decode cX3_placesFrom 19 = .ok (.iconst 0, 1) := by decide +kernel
theorem dX3_placesFrom_20 : decode cX3_placesFrom 20 = .ok (.istore 6, 2) := by decide +kernel
theorem dX3_placesFrom_22 : decode cX3_placesFrom 22 = .ok (.iload 6, 2) := by decide +kernel
theorem dX3_placesFrom_24 : decode cX3_placesFrom 24 = .ok (.aload_n 0, 1) := by decide +kernel
theorem dX3_placesFrom_25 : decode cX3_placesFrom 25 = .ok (.getfield 58, 3) := by decide +kernel
theorem dX3_placesFrom_28 : decode cX3_placesFrom 28 = .ok (.if_icmp .ge 52, 3) := by decide +kernel
theorem dX3_placesFrom_31 : decode cX3_placesFrom 31 = .ok (.iconst 1, 1) := by decide +kernel
theorem dX3_placesFrom_32 : decode cX3_placesFrom 32 = .ok (.aload_n 0, 1) := by decide +kernel
theorem dX3_placesFrom_33 : decode cX3_placesFrom 33 = .ok (.getfield 15, 3) := by decide +kernel
theorem dX3_placesFrom_36 : decode cX3_placesFrom 36 = .ok (.iload 6, 2) := by decide +kernel
theorem dX3_placesFrom_38 : decode cX3_placesFrom 38 = .ok (.iaload, 1) := by decide +kernel
theorem dX3_placesFrom_39 : decode cX3_placesFrom 39 = .ok (.ishl, 1) := by decide +kernel
theorem dX3_placesFrom_40 : decode cX3_placesFrom 40 = .ok (.iconst 1, 1) := by decide +kernel
theorem dX3_placesFrom_41 : decode cX3_placesFrom 41 = .ok (.aload_n 0, 1) := by decide +kernel
theorem dX3_placesFrom_42 : decode cX3_placesFrom 42 = .ok (.getfield 18, 3) := by decide +kernel
theorem dX3_placesFrom_45 : decode cX3_placesFrom 45 = .ok (.iload 6, 2) := by decide +kernel
theorem dX3_placesFrom_47 : decode cX3_placesFrom 47 = .ok (.iaload, 1) := by decide +kernel
theorem dX3_placesFrom_48 : decode cX3_placesFrom 48 = .ok (.ishl, 1) := by decide +kernel
theorem dX3_placesFrom_49 : decode cX3_placesFrom 49 = .ok (.ior, 1) := by decide +kernel
theorem dX3_placesFrom_50 : decode cX3_placesFrom 50 = .ok (.istore 7, 2) := by decide +kernel
theorem dX3_placesFrom_52 : decode cX3_placesFrom 52 = .ok (.iload_n 2, 1) := by decide +kernel
theorem dX3_placesFrom_53 : decode cX3_placesFrom 53 = .ok (.iload 6, 2) := by decide +kernel
theorem dX3_placesFrom_55 : decode cX3_placesFrom 55 = .ok (.ishr, 1) := by decide +kernel
theorem dX3_placesFrom_56 : decode cX3_placesFrom 56 = .ok (.iconst 1, 1) := by decide +kernel
theorem dX3_placesFrom_57 : decode cX3_placesFrom 57 = .ok (.iand, 1) := by decide +kernel
theorem dX3_placesFrom_58 : decode cX3_placesFrom 58 = .ok (.iconst 1, 1) := by decide +kernel
theorem dX3_placesFrom_59 : decode cX3_placesFrom 59 = .ok (.if_icmp .ne 15, 3) := by decide +kernel
theorem dX3_placesFrom_62 : decode cX3_placesFrom 62 = .ok (.iload_n 3, 1) := by decide +kernel
theorem dX3_placesFrom_63 : decode cX3_placesFrom 63 = .ok (.iload 7, 2) := by decide +kernel
theorem dX3_placesFrom_65 : decode cX3_placesFrom 65 = .ok (.iand, 1) := by decide +kernel
theorem dX3_placesFrom_66 : decode cX3_placesFrom 66 = .ok (.ifCond .eq 8, 3) := by decide +kernel
theorem dX3_placesFrom_69 : decode cX3_placesFrom 69 = .ok (.iload_n 3, 1) := by decide +kernel
theorem dX3_placesFrom_70 : decode cX3_placesFrom 70 = .ok (.iload 7, 2) := by decide +kernel
theorem dX3_placesFrom_72 : decode cX3_placesFrom 72 = .ok (.ior, 1) := by decide +kernel
theorem dX3_placesFrom_73 : decode cX3_placesFrom 73 = .ok (.istore_n 3, 1) := by decide +kernel
theorem dX3_placesFrom_74 : decode cX3_placesFrom 74 = .ok (.iinc 6 1, 3) := by decide +kernel
theorem dX3_placesFrom_77 : decode cX3_placesFrom 77 = .ok (.goto (-55), 3) := by decide +kernel
theorem dX3_placesFrom_80 : decode cX3_placesFrom 80 = .ok (.iload_n 3, 1) := by decide +kernel
theorem dX3_placesFrom_81 : decode cX3_placesFrom 81 = .ok (.iload 5, 2) := by decide +kernel
theorem dX3_placesFrom_83 : decode cX3_placesFrom 83 = .ok (.if_icmp .ne 6, 3) := by decide +kernel
theorem dX3_placesFrom_86 : decode cX3_placesFrom 86 = .ok (.goto 9, 3) := by decide +kernel
theorem dX3_placesFrom_89 : decode cX3_placesFrom 89 = .ok (.iinc 4 1, 3) := by decide +kernel
theorem dX3_placesFrom_92 : decode cX3_placesFrom 92 = .ok (.goto (-85), 3) := by decide +kernel
theorem dX3_placesFrom_95 : decode cX3_placesFrom 95 = .ok (.iload_n 3, 1) := by decide +kernel
theorem dX3_placesFrom_96 : decode cX3_placesFrom 96 = .ok (.ireturn, 1) := by decide +kernel
theorem dX3_reachOf_0 : decode cX3_reachOf 0 = .ok (.aload_n 0, 1) := by decide +kernel
theorem dX3_reachOf_1 : decode cX3_reachOf 1 = .ok (.aload_n 0, 1) := by decide +kernel
theorem dX3_reachOf_2 : decode cX3_reachOf 2 = .ok (.getfield 45, 3) := by decide +kernel
theorem dX3_reachOf_5 : decode cX3_reachOf 5 = .ok (.iload_n 1, 1) := by decide +kernel
theorem dX3_reachOf_6 : decode cX3_reachOf 6 = .ok (.iaload, 1) := by decide +kernel
theorem dX3_reachOf_7 : decode cX3_reachOf 7 = .ok (.aload_n 0, 1) := by decide +kernel
theorem dX3_reachOf_8 : decode cX3_reachOf 8 = .ok (.aload_n 0, 1) := by decide +kernel
theorem dX3_reachOf_9 : decode cX3_reachOf 9 = .ok (.getfield 42, 3) := by decide +kernel
theorem dX3_reachOf_12 : decode cX3_reachOf 12 = .ok (.iload_n 1, 1) := by decide +kernel
theorem dX3_reachOf_13 : decode cX3_reachOf 13 = .ok (.iaload, 1) := by decide +kernel
theorem dX3_reachOf_14 : decode cX3_reachOf 14 = .ok (.iload_n 2, 1) := by decide +kernel
theorem dX3_reachOf_15 : decode cX3_reachOf 15 = .ok (.iload_n 3, 1) := by decide +kernel
theorem dX3_reachOf_16 : decode cX3_reachOf 16 = .ok (.invokevirtual 142, 3) := by decide +kernel
theorem dX3_reachOf_19 : decode cX3_reachOf 19 = .ok (.invokevirtual 145, 3) := by decide +kernel
theorem dX3_reachOf_22 : decode cX3_reachOf 22 = .ok (.ireturn, 1) := by decide +kernel
theorem dX4_init_0 : decode cX4_init 0 = .ok (.aload_n 0, 1) := by decide +kernel
theorem dX4_init_1 : decode cX4_init 1 = .ok (.invokespecial 3, 3) := by decide +kernel
theorem dX4_init_4 : decode cX4_init 4 = .ok (.aload_n 0, 1) := by decide +kernel
theorem dX4_init_5 : decode cX4_init 5 = .ok (.iconst 0, 1) := by decide +kernel
theorem dX4_init_6 : decode cX4_init 6 = .ok (.newarray .byte, 2) := by decide +kernel
theorem dX4_init_8 : decode cX4_init 8 = .ok (.putfield 9, 3) := by decide +kernel
theorem dX4_init_11 : decode cX4_init 11 = .ok (.aload_n 0, 1) := by decide +kernel
theorem dX4_init_12 : decode cX4_init 12 = .ok (.iconst 0, 1) := by decide +kernel
theorem dX4_init_13 : decode cX4_init 13 = .ok (.putfield 15, 3) := by decide +kernel
theorem dX4_init_16 : decode cX4_init 16 = .ok (.aload_n 0, 1) := by decide +kernel
theorem dX4_init_17 : decode cX4_init 17 = .ok (.iconst 0, 1) := by decide +kernel
theorem dX4_init_18 : decode cX4_init 18 = .ok (.putfield 19, 3) := by decide +kernel
theorem dX4_init_21 : decode cX4_init 21 = .ok (.aload_n 0, 1) := by decide +kernel
theorem dX4_init_22 : decode cX4_init 22 = .ok (.iconst 0, 1) := by decide +kernel
theorem dX4_init_23 : decode cX4_init 23 = .ok (.putfield 22, 3) := by decide +kernel
theorem dX4_init_26 : decode cX4_init 26 = .ok (.aload_n 0, 1) := by decide +kernel
theorem dX4_init_27 : decode cX4_init 27 = .ok (.iconst 0, 1) := by decide +kernel
theorem dX4_init_28 : decode cX4_init 28 = .ok (.putfield 25, 3) := by decide +kernel
theorem dX4_init_31 : decode cX4_init 31 = .ok (.aload_n 0, 1) := by decide +kernel
theorem dX4_init_32 : decode cX4_init 32 = .ok (.iconst 0, 1) := by decide +kernel
theorem dX4_init_33 : decode cX4_init 33 = .ok (.putfield 28, 3) := by decide +kernel
theorem dX4_init_36 : decode cX4_init 36 = .ok (.aload_n 0, 1) := by decide +kernel
theorem dX4_init_37 : decode cX4_init 37 = .ok (.iconst 0, 1) := by decide +kernel
theorem dX4_init_38 : decode cX4_init 38 = .ok (.putfield 31, 3) := by decide +kernel
theorem dX4_init_41 : decode cX4_init 41 = .ok (.aload_n 0, 1) := by decide +kernel
theorem dX4_init_42 : decode cX4_init 42 = .ok (.iconst (-1), 1) := by decide +kernel
theorem dX4_init_43 : decode cX4_init 43 = .ok (.putfield 34, 3) := by decide +kernel
theorem dX4_init_46 : decode cX4_init 46 = .ok (.return_, 1) := by decide +kernel
theorem dX4_readWhole_0 : decode cX4_readWhole 0 = .ok (.aload_n 0, 1) := by decide +kernel
theorem dX4_readWhole_1 : decode cX4_readWhole 1 = .ok (.aload_n 1, 1) := by decide +kernel
theorem dX4_readWhole_2 : decode cX4_readWhole 2 = .ok (.putfield 9, 3) := by decide +kernel
theorem dX4_readWhole_5 : decode cX4_readWhole 5 = .ok (.aload_n 0, 1) := by decide +kernel
theorem dX4_readWhole_6 : decode cX4_readWhole 6 = .ok (.iload_n 2, 1) := by decide +kernel
theorem dX4_readWhole_7 : decode cX4_readWhole 7 = .ok (.aload_n 1, 1) := by decide +kernel
theorem dX4_readWhole_8 : decode cX4_readWhole 8 = .ok (.arraylength, 1) := by decide +kernel
theorem dX4_readWhole_9 : decode cX4_readWhole 9 = .ok (.invokestatic 37, 3) := by decide +kernel
theorem dX4_readWhole_12 : decode cX4_readWhole 12 = .ok (.putfield 15, 3) := by decide +kernel
theorem dX4_readWhole_15 : decode cX4_readWhole 15 = .ok (.aload_n 0, 1) := by decide +kernel
theorem dX4_readWhole_16 : decode cX4_readWhole 16 = .ok (.iconst 0, 1) := by decide +kernel
theorem dX4_readWhole_17 : decode cX4_readWhole 17 = .ok (.putfield 19, 3) := by decide +kernel
theorem dX4_readWhole_20 : decode cX4_readWhole 20 = .ok (.aload_n 0, 1) := by decide +kernel
theorem dX4_readWhole_21 : decode cX4_readWhole 21 = .ok (.iconst 0, 1) := by decide +kernel
theorem dX4_readWhole_22 : decode cX4_readWhole 22 = .ok (.putfield 31, 3) := by decide +kernel
theorem dX4_readWhole_25 : decode cX4_readWhole 25 = .ok (.aload_n 0, 1) := by decide +kernel
theorem dX4_readWhole_26 : decode cX4_readWhole 26 = .ok (.iconst (-1), 1) := by decide +kernel
theorem dX4_readWhole_27 : decode cX4_readWhole 27 = .ok (.putfield 34, 3) := by decide +kernel
theorem dX4_readWhole_30 : decode cX4_readWhole 30 = .ok (.aload_n 3, 1) := by decide +kernel
theorem dX4_readWhole_31 : decode cX4_readWhole 31 = .ok (.invokevirtual 43, 3) := by decide +kernel
theorem dX4_readWhole_34 : decode cX4_readWhole 34 = .ok (.aload_n 0, 1) := by decide +kernel
theorem dX4_readWhole_35 : decode cX4_readWhole 35 = .ok (.invokevirtual 48, 3) := by decide +kernel
theorem dX4_readWhole_38 : decode cX4_readWhole 38 = .ok (.iconst 0, 1) := by decide +kernel
theorem dX4_readWhole_39 : decode cX4_readWhole 39 = .ok (.istore 4, 2) := by decide +kernel
theorem dX4_readWhole_41 : decode cX4_readWhole 41 = .ok (.iload 4, 2) := by decide +kernel
theorem dX4_readWhole_43 : decode cX4_readWhole 43 = .ok (.sipush 1400, 3) := by decide +kernel
theorem dX4_readWhole_46 : decode cX4_readWhole 46 = .ok (.if_icmp .ge 43, 3) := by decide +kernel
theorem dX4_readWhole_49 : decode cX4_readWhole 49 = .ok (.aload_n 0, 1) := by decide +kernel
theorem dX4_readWhole_50 : decode cX4_readWhole 50 = .ok (.getfield 22, 3) := by decide +kernel
theorem dX4_readWhole_53 : decode cX4_readWhole 53 = .ok (.ifCond .eq 36, 3) := by decide +kernel
theorem dX4_readWhole_56 : decode cX4_readWhole 56 = .ok (.aload_n 0, 1) := by decide +kernel
theorem dX4_readWhole_57 : decode cX4_readWhole 57 = .ok (.aload_n 3, 1) := by decide +kernel
theorem dX4_readWhole_58 : decode cX4_readWhole 58 = .ok (.invokevirtual 51, 3) := by decide +kernel
theorem dX4_readWhole_61 : decode cX4_readWhole 61 = .ok (.ifCond .eq 10, 3) := by decide +kernel
theorem dX4_readWhole_64 : decode cX4_readWhole 64 = .ok (.aload_n 0, 1) := by decide +kernel
theorem dX4_readWhole_65 : decode cX4_readWhole 65 = .ok (.invokevirtual 55, 3) := by decide +kernel
theorem dX4_readWhole_68 : decode cX4_readWhole 68 = .ok (.ifCond .ne 5, 3) := by decide +kernel
theorem dX4_readWhole_71 : decode cX4_readWhole 71 = .ok (.iconst 0, 1) := by decide +kernel
theorem dX4_readWhole_72 : decode cX4_readWhole 72 = .ok (.ireturn, 1) := by decide +kernel
theorem dX4_readWhole_73 : decode cX4_readWhole 73 = .ok (.aload_n 3, 1) := by decide +kernel
theorem dX4_readWhole_74 : decode cX4_readWhole 74 = .ok (.dup, 1) := by decide +kernel
theorem dX4_readWhole_75 : decode cX4_readWhole 75 = .ok (.getfield 59, 3) := by decide +kernel
theorem dX4_readWhole_78 : decode cX4_readWhole 78 = .ok (.iconst 1, 1) := by decide +kernel
theorem dX4_readWhole_79 : decode cX4_readWhole 79 = .ok (.iadd, 1) := by decide +kernel
theorem dX4_readWhole_80 : decode cX4_readWhole 80 = .ok (.putfield 59, 3) := by decide +kernel
theorem dX4_readWhole_83 : decode cX4_readWhole 83 = .ok (.iinc 4 1, 3) := by decide +kernel
theorem dX4_readWhole_86 : decode cX4_readWhole 86 = .ok (.goto (-45), 3) := by decide +kernel
theorem dX4_readWhole_89 : decode cX4_readWhole 89 = .ok (.iconst 1, 1) := by decide +kernel
theorem dX4_readWhole_90 : decode cX4_readWhole 90 = .ok (.ireturn, 1) := by decide +kernel
theorem dX4_nextToken_0 : decode cX4_nextToken 0 = .ok (.aload_n 0, 1) := by decide +kernel
theorem dX4_nextToken_1 : decode cX4_nextToken 1 = .ok (.aload_n 0, 1) := by decide +kernel
theorem dX4_nextToken_2 : decode cX4_nextToken 2 = .ok (.getfield 19, 3) := by decide +kernel
theorem dX4_nextToken_5 : decode cX4_nextToken 5 = .ok (.putfield 25, 3) := by decide +kernel
theorem dX4_nextToken_8 : decode cX4_nextToken 8 = .ok (.aload_n 0, 1) := by decide +kernel
theorem dX4_nextToken_9 : decode cX4_nextToken 9 = .ok (.getfield 25, 3) := by decide +kernel
theorem dX4_nextToken_12 : decode cX4_nextToken 12 = .ok (.aload_n 0, 1) := by decide +kernel
theorem dX4_nextToken_13 : decode cX4_nextToken 13 = .ok (.getfield 15, 3) := by decide +kernel
theorem dX4_nextToken_16 : decode cX4_nextToken 16 = .ok (.if_icmp .ge 44, 3) := by decide +kernel
theorem dX4_nextToken_19 : decode cX4_nextToken 19 = .ok (.aload_n 0, 1) := by decide +kernel
theorem dX4_nextToken_20 : decode cX4_nextToken 20 = .ok (.getfield 9, 3) := by decide +kernel
theorem dX4_nextToken_23 : decode cX4_nextToken 23 = .ok (.aload_n 0, 1) := by decide +kernel
theorem dX4_nextToken_24 : decode cX4_nextToken 24 = .ok (.getfield 25, 3) := by decide +kernel
theorem dX4_nextToken_27 : decode cX4_nextToken 27 = .ok (.baload, 1) := by decide +kernel
theorem dX4_nextToken_28 : decode cX4_nextToken 28 = .ok (.bipush 32, 2) := by decide +kernel
theorem dX4_nextToken_30 : decode cX4_nextToken 30 = .ok (.if_icmp .eq 17, 3) := by decide +kernel
theorem dX4_nextToken_33 : decode cX4_nextToken 33 = .ok (.aload_n 0, 1) := by decide +kernel
theorem dX4_nextToken_34 : decode cX4_nextToken 34 = .ok (.getfield 9, 3) := by decide +kernel
theorem dX4_nextToken_37 : decode cX4_nextToken 37 = .ok (.aload_n 0, 1) := by decide +kernel
theorem dX4_nextToken_38 : decode cX4_nextToken 38 = .ok (.getfield 25, 3) := by decide +kernel
theorem dX4_nextToken_41 : decode cX4_nextToken 41 = .ok (.baload, 1) := by decide +kernel
theorem dX4_nextToken_42 : decode cX4_nextToken 42 = .ok (.bipush 10, 2) := by decide +kernel
theorem dX4_nextToken_44 : decode cX4_nextToken 44 = .ok (.if_icmp .ne 16, 3) := by decide +kernel
theorem dX4_nextToken_47 : decode cX4_nextToken 47 = .ok (.aload_n 0, 1) := by decide +kernel
theorem dX4_nextToken_48 : decode cX4_nextToken 48 = .ok (.dup, 1) := by decide +kernel
theorem dX4_nextToken_49 : decode cX4_nextToken 49 = .ok (.getfield 25, 3) := by decide +kernel
theorem dX4_nextToken_52 : decode cX4_nextToken 52 = .ok (.iconst 1, 1) := by decide +kernel
theorem dX4_nextToken_53 : decode cX4_nextToken 53 = .ok (.iadd, 1) := by decide +kernel
theorem dX4_nextToken_54 : decode cX4_nextToken 54 = .ok (.putfield 25, 3) := by decide +kernel
theorem dX4_nextToken_57 : decode cX4_nextToken 57 = .ok (.goto (-49), 3) := by decide +kernel
theorem dX4_nextToken_60 : decode cX4_nextToken 60 = .ok (.aload_n 0, 1) := by decide +kernel
theorem dX4_nextToken_61 : decode cX4_nextToken 61 = .ok (.aload_n 0, 1) := by decide +kernel
theorem dX4_nextToken_62 : decode cX4_nextToken 62 = .ok (.getfield 25, 3) := by decide +kernel
theorem dX4_nextToken_65 : decode cX4_nextToken 65 = .ok (.putfield 19, 3) := by decide +kernel
theorem dX4_nextToken_68 : decode cX4_nextToken 68 = .ok (.aload_n 0, 1) := by decide +kernel
theorem dX4_nextToken_69 : decode cX4_nextToken 69 = .ok (.iconst 0, 1) := by decide +kernel
theorem dX4_nextToken_70 : decode cX4_nextToken 70 = .ok (.putfield 28, 3) := by decide +kernel
theorem dX4_nextToken_73 : decode cX4_nextToken 73 = .ok (.aload_n 0, 1) := by decide +kernel
theorem dX4_nextToken_74 : decode cX4_nextToken 74 = .ok (.getfield 25, 3) := by decide +kernel
theorem dX4_nextToken_77 : decode cX4_nextToken 77 = .ok (.aload_n 0, 1) := by decide +kernel
theorem dX4_nextToken_78 : decode cX4_nextToken 78 = .ok (.getfield 15, 3) := by decide +kernel
theorem dX4_nextToken_81 : decode cX4_nextToken 81 = .ok (.if_icmp .lt 9, 3) := by decide +kernel
theorem dX4_nextToken_84 : decode cX4_nextToken 84 = .ok (.aload_n 0, 1) := by decide +kernel
theorem dX4_nextToken_85 : decode cX4_nextToken 85 = .ok (.iconst 0, 1) := by decide +kernel
theorem dX4_nextToken_86 : decode cX4_nextToken 86 = .ok (.putfield 22, 3) := by decide +kernel
theorem dX4_nextToken_89 : decode cX4_nextToken 89 = .ok (.return_, 1) := by decide +kernel
theorem dX4_nextToken_90 : decode cX4_nextToken 90 = .ok (.aload_n 0, 1) := by decide +kernel
theorem dX4_nextToken_91 : decode cX4_nextToken 91 = .ok (.aload_n 0, 1) := by decide +kernel
theorem dX4_nextToken_92 : decode cX4_nextToken 92 = .ok (.getfield 9, 3) := by decide +kernel
theorem dX4_nextToken_95 : decode cX4_nextToken 95 = .ok (.aload_n 0, 1) := by decide +kernel
theorem dX4_nextToken_96 : decode cX4_nextToken 96 = .ok (.getfield 25, 3) := by decide +kernel
theorem dX4_nextToken_99 : decode cX4_nextToken 99 = .ok (.baload, 1) := by decide +kernel
theorem dX4_nextToken_100 : decode cX4_nextToken 100 = .ok (.bipush 59, 2) := by decide +kernel
theorem dX4_nextToken_102 : decode cX4_nextToken 102 = .ok (.if_icmp .ne 7, 3) := by decide +kernel
theorem dX4_nextToken_105 : decode cX4_nextToken 105 = .ok (.iconst 3, 1) := by decide +kernel
theorem dX4_nextToken_106 : decode cX4_nextToken 106 = .ok (.goto 4, 3) := by decide +kernel
theorem dX4_nextToken_109 : decode cX4_nextToken 109 = .ok (.iconst 4, 1) := by decide +kernel
theorem dX4_nextToken_110 : decode cX4_nextToken 110 = .ok (.putfield 22, 3) := by decide +kernel
theorem dX4_nextToken_113 : decode cX4_nextToken 113 = .ok (.aload_n 0, 1) := by decide +kernel
theorem dX4_nextToken_114 : decode cX4_nextToken 114 = .ok (.getfield 19, 3) := by decide +kernel
theorem dX4_nextToken_117 : decode cX4_nextToken 117 = .ok (.aload_n 0, 1) := by decide +kernel
theorem dX4_nextToken_118 : decode cX4_nextToken 118 = .ok (.getfield 15, 3) := by decide +kernel
theorem dX4_nextToken_121 : decode cX4_nextToken 121 = .ok (.if_icmp .ge 49, 3) := by decide +kernel
theorem dX4_nextToken_124 : decode cX4_nextToken 124 = .ok (.aload_n 0, 1) := by decide +kernel
theorem dX4_nextToken_125 : decode cX4_nextToken 125 = .ok (.getfield 9, 3) := by decide +kernel
theorem dX4_nextToken_128 : decode cX4_nextToken 128 = .ok (.aload_n 0, 1) := by decide +kernel
theorem dX4_nextToken_129 : decode cX4_nextToken 129 = .ok (.getfield 19, 3) := by decide +kernel
theorem dX4_nextToken_132 : decode cX4_nextToken 132 = .ok (.baload, 1) := by decide +kernel
theorem dX4_nextToken_133 : decode cX4_nextToken 133 = .ok (.bipush 97, 2) := by decide +kernel
theorem dX4_nextToken_135 : decode cX4_nextToken 135 = .ok (.if_icmp .lt 35, 3) := by decide +kernel
theorem dX4_nextToken_138 : decode cX4_nextToken 138 = .ok (.aload_n 0, 1) := by decide +kernel
theorem dX4_nextToken_139 : decode cX4_nextToken 139 = .ok (.getfield 9, 3) := by decide +kernel
theorem dX4_nextToken_142 : decode cX4_nextToken 142 = .ok (.aload_n 0, 1) := by decide +kernel
theorem dX4_nextToken_143 : decode cX4_nextToken 143 = .ok (.getfield 19, 3) := by decide +kernel
theorem dX4_nextToken_146 : decode cX4_nextToken 146 = .ok (.baload, 1) := by decide +kernel
theorem dX4_nextToken_147 : decode cX4_nextToken 147 = .ok (.bipush 122, 2) := by decide +kernel
theorem dX4_nextToken_149 : decode cX4_nextToken 149 = .ok (.if_icmp .gt 21, 3) := by decide +kernel
theorem dX4_nextToken_152 : decode cX4_nextToken 152 = .ok (.aload_n 0, 1) := by decide +kernel
theorem dX4_nextToken_153 : decode cX4_nextToken 153 = .ok (.iconst 1, 1) := by decide +kernel
theorem dX4_nextToken_154 : decode cX4_nextToken 154 = .ok (.putfield 22, 3) := by decide +kernel
theorem dX4_nextToken_157 : decode cX4_nextToken 157 = .ok (.aload_n 0, 1) := by decide +kernel
theorem dX4_nextToken_158 : decode cX4_nextToken 158 = .ok (.dup, 1) := by decide +kernel
theorem dX4_nextToken_159 : decode cX4_nextToken 159 = .ok (.getfield 19, 3) := by decide +kernel
theorem dX4_nextToken_162 : decode cX4_nextToken 162 = .ok (.iconst 1, 1) := by decide +kernel
theorem dX4_nextToken_163 : decode cX4_nextToken 163 = .ok (.iadd, 1) := by decide +kernel
theorem dX4_nextToken_164 : decode cX4_nextToken 164 = .ok (.putfield 19, 3) := by decide +kernel
theorem dX4_nextToken_167 : decode cX4_nextToken 167 = .ok (.goto (-54), 3) := by decide +kernel
theorem dX4_nextToken_170 : decode cX4_nextToken 170 = .ok (.aload_n 0, 1) := by decide +kernel
theorem dX4_nextToken_171 : decode cX4_nextToken 171 = .ok (.getfield 22, 3) := by decide +kernel
theorem dX4_nextToken_174 : decode cX4_nextToken 174 = .ok (.iconst 1, 1) := by decide +kernel
theorem dX4_nextToken_175 : decode cX4_nextToken 175 = .ok (.if_icmp .eq 89, 3) := by decide +kernel
theorem dX4_nextToken_178 : decode cX4_nextToken 178 = .ok (.aload_n 0, 1) := by decide +kernel
theorem dX4_nextToken_179 : decode cX4_nextToken 179 = .ok (.getfield 19, 3) := by decide +kernel
theorem dX4_nextToken_182 : decode cX4_nextToken 182 = .ok (.aload_n 0, 1) := by decide +kernel
theorem dX4_nextToken_183 : decode cX4_nextToken 183 = .ok (.getfield 15, 3) := by decide +kernel
theorem dX4_nextToken_186 : decode cX4_nextToken 186 = .ok (.if_icmp .ge 78, 3) := by decide +kernel
theorem dX4_nextToken_189 : decode cX4_nextToken 189 = .ok (.aload_n 0, 1) := by decide +kernel
theorem dX4_nextToken_190 : decode cX4_nextToken 190 = .ok (.getfield 9, 3) := by decide +kernel
theorem dX4_nextToken_193 : decode cX4_nextToken 193 = .ok (.aload_n 0, 1) := by decide +kernel
theorem dX4_nextToken_194 : decode cX4_nextToken 194 = .ok (.getfield 19, 3) := by decide +kernel
theorem dX4_nextToken_197 : decode cX4_nextToken 197 = .ok (.baload, 1) := by decide +kernel
theorem dX4_nextToken_198 : decode cX4_nextToken 198 = .ok (.bipush 48, 2) := by decide +kernel
theorem dX4_nextToken_200 : decode cX4_nextToken 200 = .ok (.if_icmp .lt 64, 3) := by decide +kernel
theorem dX4_nextToken_203 : decode cX4_nextToken 203 = .ok (.aload_n 0, 1) := by decide +kernel
theorem dX4_nextToken_204 : decode cX4_nextToken 204 = .ok (.getfield 9, 3) := by decide +kernel
theorem dX4_nextToken_207 : decode cX4_nextToken 207 = .ok (.aload_n 0, 1) := by decide +kernel
theorem dX4_nextToken_208 : decode cX4_nextToken 208 = .ok (.getfield 19, 3) := by decide +kernel
theorem dX4_nextToken_211 : decode cX4_nextToken 211 = .ok (.baload, 1) := by decide +kernel
theorem dX4_nextToken_212 : decode cX4_nextToken 212 = .ok (.bipush 57, 2) := by decide +kernel
theorem dX4_nextToken_214 : decode cX4_nextToken 214 = .ok (.if_icmp .gt 50, 3) := by decide +kernel
theorem dX4_nextToken_217 : decode cX4_nextToken 217 = .ok (.aload_n 0, 1) := by decide +kernel
theorem dX4_nextToken_218 : decode cX4_nextToken 218 = .ok (.iconst 2, 1) := by decide +kernel
theorem dX4_nextToken_219 : decode cX4_nextToken 219 = .ok (.putfield 22, 3) := by decide +kernel
theorem dX4_nextToken_222 : decode cX4_nextToken 222 = .ok (.aload_n 0, 1) := by decide +kernel
theorem dX4_nextToken_223 : decode cX4_nextToken 223 = .ok (.aload_n 0, 1) := by decide +kernel
theorem dX4_nextToken_224 : decode cX4_nextToken 224 = .ok (.getfield 28, 3) := by decide +kernel
theorem dX4_nextToken_227 : decode cX4_nextToken 227 = .ok (.bipush 10, 2) := by decide +kernel
theorem dX4_nextToken_229 : decode cX4_nextToken 229 = .ok (.imul, 1) := by decide +kernel
theorem dX4_nextToken_230 : decode cX4_nextToken 230 = .ok (.aload_n 0, 1) := by decide +kernel
theorem dX4_nextToken_231 : decode cX4_nextToken 231 = .ok (.getfield 9, 3) := by decide +kernel
theorem dX4_nextToken_234 : decode cX4_nextToken 234 = .ok (.aload_n 0, 1) := by decide +kernel
theorem dX4_nextToken_235 : decode cX4_nextToken 235 = .ok (.getfield 19, 3) := by decide +kernel
theorem dX4_nextToken_238 : decode cX4_nextToken 238 = .ok (.baload, 1) := by decide +kernel
theorem dX4_nextToken_239 : decode cX4_nextToken 239 = .ok (.iadd, 1) := by decide +kernel
theorem dX4_nextToken_240 : decode cX4_nextToken 240 = .ok (.bipush 48, 2) := by decide +kernel
theorem dX4_nextToken_242 : decode cX4_nextToken 242 = .ok (.isub, 1) := by decide +kernel
theorem dX4_nextToken_243 : decode cX4_nextToken 243 = .ok (.ldc 62, 2) := by decide +kernel
theorem dX4_nextToken_245 : decode cX4_nextToken 245 = .ok (.invokestatic 37, 3) := by decide +kernel
theorem dX4_nextToken_248 : decode cX4_nextToken 248 = .ok (.putfield 28, 3) := by decide +kernel
theorem dX4_nextToken_251 : decode cX4_nextToken 251 = .ok (.aload_n 0, 1) := by decide +kernel
theorem dX4_nextToken_252 : decode cX4_nextToken 252 = .ok (.dup, 1) := by decide +kernel
theorem dX4_nextToken_253 : decode cX4_nextToken 253 = .ok (.getfield 19, 3) := by decide +kernel
theorem dX4_nextToken_256 : decode cX4_nextToken 256 = .ok (.iconst 1, 1) := by decide +kernel
theorem dX4_nextToken_257 : decode cX4_nextToken 257 = .ok (.iadd, 1) := by decide +kernel
theorem dX4_nextToken_258 : decode cX4_nextToken 258 = .ok (.putfield 19, 3) := by decide +kernel
theorem dX4_nextToken_261 : decode cX4_nextToken 261 = .ok (.goto (-91), 3) := by decide +kernel
theorem dX4_nextToken_264 : decode cX4_nextToken 264 = .ok (.aload_n 0, 1) := by decide +kernel
theorem dX4_nextToken_265 : decode cX4_nextToken 265 = .ok (.aload_n 0, 1) := by decide +kernel
theorem dX4_nextToken_266 : decode cX4_nextToken 266 = .ok (.getfield 19, 3) := by decide +kernel
theorem dX4_nextToken_269 : decode cX4_nextToken 269 = .ok (.aload_n 0, 1) := by decide +kernel
theorem dX4_nextToken_270 : decode cX4_nextToken 270 = .ok (.getfield 25, 3) := by decide +kernel
theorem dX4_nextToken_273 : decode cX4_nextToken 273 = .ok (.iconst 1, 1) := by decide +kernel
theorem dX4_nextToken_274 : decode cX4_nextToken 274 = .ok (.iadd, 1) := by decide +kernel
theorem dX4_nextToken_275 : decode cX4_nextToken 275 = .ok (.invokestatic 63, 3) := by decide +kernel
theorem dX4_nextToken_278 : decode cX4_nextToken 278 = .ok (.putfield 19, 3) := by decide +kernel
theorem dX4_nextToken_281 : decode cX4_nextToken 281 = .ok (.return_, 1) := by decide +kernel
theorem dX4_isWord_0 : decode cX4_isWord 0 = .ok (.aload_n 0, 1) := by decide +kernel
theorem dX4_isWord_1 : decode cX4_isWord 1 = .ok (.getfield 22, 3) := by decide +kernel
theorem dX4_isWord_4 : decode cX4_isWord 4 = .ok (.iconst 1, 1) := by decide +kernel
theorem dX4_isWord_5 : decode cX4_isWord 5 = .ok (.if_icmp .ne 19, 3) := by decide +kernel
theorem dX4_isWord_8 : decode cX4_isWord 8 = .ok (.aload_n 0, 1) := by decide +kernel
theorem dX4_isWord_9 : decode cX4_isWord 9 = .ok (.getfield 19, 3) := by decide +kernel
theorem dX4_isWord_12 : decode cX4_isWord 12 = .ok (.aload_n 0, 1) := by decide +kernel
theorem dX4_isWord_13 : decode cX4_isWord 13 = .ok (.getfield 25, 3) := by decide +kernel
theorem dX4_isWord_16 : decode cX4_isWord 16 = .ok (.isub, 1) := by decide +kernel
theorem dX4_isWord_17 : decode cX4_isWord 17 = .ok (.aload_n 1, 1) := by decide +kernel
theorem dX4_isWord_18 : decode cX4_isWord 18 = .ok (.invokevirtual 66, 3) := by decide +kernel
theorem dX4_isWord_21 : decode cX4_isWord 21 = .ok (.if_icmp .eq 5, 3) := by decide +kernel
theorem dX4_isWord_24 : decode cX4_isWord 24 = .ok (.iconst 0, 1) := by decide +kernel
theorem dX4_isWord_25 : decode cX4_isWord 25 = .ok (.ireturn, 1) := by decide +kernel
theorem dX4_isWord_26 : decode cX4_isWord 26 = .ok (.iconst 0, 1) := by decide +kernel
theorem dX4_isWord_27 : decode cX4_isWord 27 = .ok (.istore_n 2, 1) := by decide +kernel
theorem dX4_isWord_28 : decode cX4_isWord 28 = .ok (.iload_n 2, 1) := by decide +kernel
theorem dX4_isWord_29 : decode cX4_isWord 29 = .ok (.aload_n 1, 1) := by decide +kernel
theorem dX4_isWord_30 : decode cX4_isWord 30 = .ok (.invokevirtual 66, 3) := by decide +kernel
theorem dX4_isWord_33 : decode cX4_isWord 33 = .ok (.if_icmp .ge 30, 3) := by decide +kernel
theorem dX4_isWord_36 : decode cX4_isWord 36 = .ok (.aload_n 0, 1) := by decide +kernel
theorem dX4_isWord_37 : decode cX4_isWord 37 = .ok (.getfield 9, 3) := by decide +kernel
theorem dX4_isWord_40 : decode cX4_isWord 40 = .ok (.aload_n 0, 1) := by decide +kernel
theorem dX4_isWord_41 : decode cX4_isWord 41 = .ok (.getfield 25, 3) := by decide +kernel
theorem dX4_isWord_44 : decode cX4_isWord 44 = .ok (.iload_n 2, 1) := by decide +kernel
theorem dX4_isWord_45 : decode cX4_isWord 45 = .ok (.iadd, 1) := by decide +kernel
theorem dX4_isWord_46 : decode cX4_isWord 46 = .ok (.baload, 1) := by decide +kernel
theorem dX4_isWord_47 : decode cX4_isWord 47 = .ok (.aload_n 1, 1) := by decide +kernel
theorem dX4_isWord_48 : decode cX4_isWord 48 = .ok (.iload_n 2, 1) := by decide +kernel
theorem dX4_isWord_49 : decode cX4_isWord 49 = .ok (.invokevirtual 71, 3) := by decide +kernel
theorem dX4_isWord_52 : decode cX4_isWord 52 = .ok (.if_icmp .eq 5, 3) := by decide +kernel
theorem dX4_isWord_55 : decode cX4_isWord 55 = .ok (.iconst 0, 1) := by decide +kernel
theorem dX4_isWord_56 : decode cX4_isWord 56 = .ok (.ireturn, 1) := by decide +kernel
theorem dX4_isWord_57 : decode cX4_isWord 57 = .ok (.iinc 2 1, 3) := by decide +kernel
theorem dX4_isWord_60 : decode cX4_isWord 60 = .ok (.goto (-32), 3) := by decide +kernel
theorem dX4_isWord_63 : decode cX4_isWord 63 = .ok (.iconst 1, 1) := by decide +kernel
theorem dX4_isWord_64 : decode cX4_isWord 64 = .ok (.ireturn, 1) := by decide +kernel
theorem dX4_failHere_0 : decode cX4_failHere 0 = .ok (.aload_n 0, 1) := by decide +kernel
theorem dX4_failHere_1 : decode cX4_failHere 1 = .ok (.iload_n 1, 1) := by decide +kernel
theorem dX4_failHere_2 : decode cX4_failHere 2 = .ok (.putfield 31, 3) := by decide +kernel
theorem dX4_failHere_5 : decode cX4_failHere 5 = .ok (.aload_n 0, 1) := by decide +kernel
theorem dX4_failHere_6 : decode cX4_failHere 6 = .ok (.aload_n 0, 1) := by decide +kernel
theorem dX4_failHere_7 : decode cX4_failHere 7 = .ok (.getfield 25, 3) := by decide +kernel
theorem dX4_failHere_10 : decode cX4_failHere 10 = .ok (.putfield 34, 3) := by decide +kernel
theorem dX4_failHere_13 : decode cX4_failHere 13 = .ok (.iconst 0, 1) := by decide +kernel
theorem dX4_failHere_14 : decode cX4_failHere 14 = .ok (.ireturn, 1) := by decide +kernel
theorem dX4_takeSemicolon_0 : decode cX4_takeSemicolon 0 = .ok (.aload_n 0, 1) := by decide +kernel
theorem dX4_takeSemicolon_1 : decode cX4_takeSemicolon 1 = .ok (.getfield 22, 3) := by decide +kernel
theorem dX4_takeSemicolon_4 : decode cX4_takeSemicolon 4 = .ok (.iconst 3, 1) := by decide +kernel
theorem dX4_takeSemicolon_5 : decode cX4_takeSemicolon 5 = .ok (.if_icmp .eq 9, 3) := by decide +kernel
theorem dX4_takeSemicolon_8 : decode cX4_takeSemicolon 8 = .ok (.aload_n 0, 1) := by decide +kernel
theorem dX4_takeSemicolon_9 : decode cX4_takeSemicolon 9 = .ok (.iconst 1, 1) := by decide +kernel
theorem dX4_takeSemicolon_10 : decode cX4_takeSemicolon 10 = .ok (.invokevirtual 75, 3) := by decide +kernel
theorem dX4_takeSemicolon_13 : decode cX4_takeSemicolon 13 = .ok (.ireturn, 1) := by decide +kernel
theorem dX4_takeSemicolon_14 : decode cX4_takeSemicolon 14 = .ok (.aload_n 0, 1) := by decide +kernel
theorem dX4_takeSemicolon_15 : decode cX4_takeSemicolon 15 = .ok (.invokevirtual 48, 3) := by decide +kernel
theorem dX4_takeSemicolon_18 : decode cX4_takeSemicolon 18 = .ok (.iconst 1, 1) := by decide +kernel
theorem dX4_takeSemicolon_19 : decode cX4_takeSemicolon 19 = .ok (.ireturn, 1) := by decide +kernel
theorem dX4_takeWord_0 : decode cX4_takeWord 0 = .ok (.aload_n 0, 1) := by decide +kernel
theorem dX4_takeWord_1 : decode cX4_takeWord 1 = .ok (.aload_n 1, 1) := by decide +kernel
theorem dX4_takeWord_2 : decode cX4_takeWord 2 = .ok (.invokevirtual 79, 3) := by decide +kernel
theorem dX4_takeWord_5 : decode cX4_takeWord 5 = .ok (.ifCond .ne 9, 3) := by decide +kernel
theorem dX4_takeWord_8 : decode cX4_takeWord 8 = .ok (.aload_n 0, 1) := by decide +kernel
theorem dX4_takeWord_9 : decode cX4_takeWord 9 = .ok (.iconst 1, 1) := by decide +kernel
theorem dX4_takeWord_10 : decode cX4_takeWord 10 = .ok (.invokevirtual 75, 3) := by decide +kernel
theorem dX4_takeWord_13 : decode cX4_takeWord 13 = .ok (.ireturn, 1) := by decide +kernel
theorem dX4_takeWord_14 : decode cX4_takeWord 14 = .ok (.aload_n 0, 1) := by decide +kernel
theorem dX4_takeWord_15 : decode cX4_takeWord 15 = .ok (.invokevirtual 48, 3) := by decide +kernel
theorem dX4_takeWord_18 : decode cX4_takeWord 18 = .ok (.iconst 1, 1) := by decide +kernel
theorem dX4_takeWord_19 : decode cX4_takeWord 19 = .ok (.ireturn, 1) := by decide +kernel
theorem dX4_takeNumber_0 : decode cX4_takeNumber 0 = .ok (.aload_n 0, 1) := by decide +kernel
theorem dX4_takeNumber_1 : decode cX4_takeNumber 1 = .ok (.getfield 22, 3) := by decide +kernel
theorem dX4_takeNumber_4 : decode cX4_takeNumber 4 = .ok (.iconst 2, 1) := by decide +kernel
theorem dX4_takeNumber_5 : decode cX4_takeNumber 5 = .ok (.if_icmp .eq 11, 3) := by decide +kernel
theorem dX4_takeNumber_8 : decode cX4_takeNumber 8 = .ok (.aload_n 0, 1) := by decide +kernel
theorem dX4_takeNumber_9 : decode cX4_takeNumber 9 = .ok (.iconst 1, 1) := by decide +kernel
theorem dX4_takeNumber_10 : decode cX4_takeNumber 10 = .ok (.invokevirtual 75, 3) := by decide +kernel
theorem dX4_takeNumber_13 : decode cX4_takeNumber 13 = .ok (.pop, 1) := by decide +kernel
theorem dX4_takeNumber_14 : decode cX4_takeNumber 14 = .ok (.iconst (-1), 1) := by decide +kernel
theorem dX4_takeNumber_15 : decode cX4_takeNumber 15 = .ok (.ireturn, 1) := by decide +kernel
theorem dX4_takeNumber_16 : decode cX4_takeNumber 16 = .ok (.aload_n 0, 1) := by decide +kernel
theorem dX4_takeNumber_17 : decode cX4_takeNumber 17 = .ok (.getfield 28, 3) := by decide +kernel
theorem dX4_takeNumber_20 : decode cX4_takeNumber 20 = .ok (.iload_n 1, 1) := by decide +kernel
theorem dX4_takeNumber_21 : decode cX4_takeNumber 21 = .ok (.if_icmp .lt 11, 3) := by decide +kernel
theorem dX4_takeNumber_24 : decode cX4_takeNumber 24 = .ok (.aload_n 0, 1) := by decide +kernel
theorem dX4_takeNumber_25 : decode cX4_takeNumber 25 = .ok (.getfield 28, 3) := by decide +kernel
theorem dX4_takeNumber_28 : decode cX4_takeNumber 28 = .ok (.iload_n 2, 1) := by decide +kernel
theorem dX4_takeNumber_29 : decode cX4_takeNumber 29 = .ok (.if_icmp .le 11, 3) := by decide +kernel
theorem dX4_takeNumber_32 : decode cX4_takeNumber 32 = .ok (.aload_n 0, 1) := by decide +kernel
theorem dX4_takeNumber_33 : decode cX4_takeNumber 33 = .ok (.iconst 2, 1) := by decide +kernel
theorem dX4_takeNumber_34 : decode cX4_takeNumber 34 = .ok (.invokevirtual 75, 3) := by decide +kernel
theorem dX4_takeNumber_37 : decode cX4_takeNumber 37 = .ok (.pop, 1) := by decide +kernel
theorem dX4_takeNumber_38 : decode cX4_takeNumber 38 = .ok (.iconst (-1), 1) := by decide +kernel
theorem dX4_takeNumber_39 : decode cX4_takeNumber 39 = .ok (.ireturn, 1) := by decide +kernel
theorem dX4_takeNumber_40 : decode cX4_takeNumber 40 = .ok (.aload_n 0, 1) := by decide +kernel
theorem dX4_takeNumber_41 : decode cX4_takeNumber 41 = .ok (.getfield 28, 3) := by decide +kernel
theorem dX4_takeNumber_44 : decode cX4_takeNumber 44 = .ok (.istore_n 3, 1) := by decide +kernel
theorem dX4_takeNumber_45 : decode cX4_takeNumber 45 = .ok (.aload_n 0, 1) := by decide +kernel
theorem dX4_takeNumber_46 : decode cX4_takeNumber 46 = .ok (.invokevirtual 48, 3) := by decide +kernel
theorem dX4_takeNumber_49 : decode cX4_takeNumber 49 = .ok (.iload_n 3, 1) := by decide +kernel
theorem dX4_takeNumber_50 : decode cX4_takeNumber 50 = .ok (.ireturn, 1) := by decide +kernel
theorem dX4_readLine_0 : decode cX4_readLine 0 = .ok (.aload_n 0, 1) := by decide +kernel
theorem dX4_readLine_1 : decode cX4_readLine 1 = .ok (.ldc 83, 2) := by decide +kernel
theorem dX4_readLine_3 : decode cX4_readLine 3 = .ok (.invokevirtual 79, 3) := by decide +kernel
theorem dX4_readLine_6 : decode cX4_readLine 6 = .ok (.ifCond .eq 24, 3) := by decide +kernel
theorem dX4_readLine_9 : decode cX4_readLine 9 = .ok (.aload_n 1, 1) := by decide +kernel
theorem dX4_readLine_10 : decode cX4_readLine 10 = .ok (.getfield 59, 3) := by decide +kernel
theorem dX4_readLine_13 : decode cX4_readLine 13 = .ok (.ifCond .ne 11, 3) := by decide +kernel
theorem dX4_readLine_16 : decode cX4_readLine 16 = .ok (.aload_n 0, 1) := by decide +kernel
theorem dX4_readLine_17 : decode cX4_readLine 17 = .ok (.aload_n 1, 1) := by decide +kernel
theorem dX4_readLine_18 : decode cX4_readLine 18 = .ok (.invokevirtual 85, 3) := by decide +kernel
theorem dX4_readLine_21 : decode cX4_readLine 21 = .ok (.goto 8, 3) := by decide +kernel
theorem dX4_readLine_24 : decode cX4_readLine 24 = .ok (.aload_n 0, 1) := by decide +kernel
theorem dX4_readLine_25 : decode cX4_readLine 25 = .ok (.iconst 1, 1) := by decide +kernel
theorem dX4_readLine_26 : decode cX4_readLine 26 = .ok (.invokevirtual 75, 3) := by decide +kernel
theorem dX4_readLine_29 : decode cX4_readLine 29 = .ok (.ireturn, 1) := by decide +kernel
theorem dX4_readLine_30 : decode cX4_readLine 30 = .ok (.aload_n 1, 1) := by decide +kernel
theorem dX4_readLine_31 : decode cX4_readLine 31 = .ok (.getfield 59, 3) := by decide +kernel
theorem dX4_readLine_34 : decode cX4_readLine 34 = .ok (.ifCond .ne 9, 3) := by decide +kernel
theorem dX4_readLine_37 : decode cX4_readLine 37 = .ok (.aload_n 0, 1) := by decide +kernel
theorem dX4_readLine_38 : decode cX4_readLine 38 = .ok (.iconst 1, 1) := by decide +kernel
theorem dX4_readLine_39 : decode cX4_readLine 39 = .ok (.invokevirtual 75, 3) := by decide +kernel
theorem dX4_readLine_42 : decode cX4_readLine 42 = .ok (.ireturn, 1) := by decide +kernel
theorem dX4_readLine_43 : decode cX4_readLine 43 = .ok (.aload_n 0, 1) := by decide +kernel
theorem dX4_readLine_44 : decode cX4_readLine 44 = .ok (.ldc 88, 2) := by decide +kernel
theorem dX4_readLine_46 : decode cX4_readLine 46 = .ok (.invokevirtual 79, 3) := by decide +kernel
theorem dX4_readLine_49 : decode cX4_readLine 49 = .ok (.ifCond .eq 9, 3) := by decide +kernel
theorem dX4_readLine_52 : decode cX4_readLine 52 = .ok (.aload_n 0, 1) := by decide +kernel
theorem dX4_readLine_53 : decode cX4_readLine 53 = .ok (.aload_n 1, 1) := by decide +kernel
theorem dX4_readLine_54 : decode cX4_readLine 54 = .ok (.invokevirtual 90, 3) := by decide +kernel
theorem dX4_readLine_57 : decode cX4_readLine 57 = .ok (.ireturn, 1) := by decide +kernel
theorem dX4_readLine_58 : decode cX4_readLine 58 = .ok (.aload_n 0, 1) := by decide +kernel
theorem dX4_readLine_59 : decode cX4_readLine 59 = .ok (.ldc 93, 2) := by decide +kernel
theorem dX4_readLine_61 : decode cX4_readLine 61 = .ok (.invokevirtual 79, 3) := by decide +kernel
theorem dX4_readLine_64 : decode cX4_readLine 64 = .ok (.ifCond .eq 26, 3) := by decide +kernel
theorem dX4_readLine_67 : decode cX4_readLine 67 = .ok (.aload_n 1, 1) := by decide +kernel
theorem dX4_readLine_68 : decode cX4_readLine 68 = .ok (.getfield 95, 3) := by decide +kernel
theorem dX4_readLine_71 : decode cX4_readLine 71 = .ok (.bipush 10, 2) := by decide +kernel
theorem dX4_readLine_73 : decode cX4_readLine 73 = .ok (.if_icmp .ge 11, 3) := by decide +kernel
theorem dX4_readLine_76 : decode cX4_readLine 76 = .ok (.aload_n 0, 1) := by decide +kernel
theorem dX4_readLine_77 : decode cX4_readLine 77 = .ok (.aload_n 1, 1) := by decide +kernel
theorem dX4_readLine_78 : decode cX4_readLine 78 = .ok (.invokevirtual 98, 3) := by decide +kernel
theorem dX4_readLine_81 : decode cX4_readLine 81 = .ok (.goto 8, 3) := by decide +kernel
theorem dX4_readLine_84 : decode cX4_readLine 84 = .ok (.aload_n 0, 1) := by decide +kernel
theorem dX4_readLine_85 : decode cX4_readLine 85 = .ok (.iconst 3, 1) := by decide +kernel
theorem dX4_readLine_86 : decode cX4_readLine 86 = .ok (.invokevirtual 75, 3) := by decide +kernel
theorem dX4_readLine_89 : decode cX4_readLine 89 = .ok (.ireturn, 1) := by decide +kernel
theorem dX4_readLine_90 : decode cX4_readLine 90 = .ok (.aload_n 0, 1) := by decide +kernel
theorem dX4_readLine_91 : decode cX4_readLine 91 = .ok (.ldc 101, 2) := by decide +kernel
theorem dX4_readLine_93 : decode cX4_readLine 93 = .ok (.invokevirtual 79, 3) := by decide +kernel
theorem dX4_readLine_96 : decode cX4_readLine 96 = .ok (.ifCond .eq 25, 3) := by decide +kernel
theorem dX4_readLine_99 : decode cX4_readLine 99 = .ok (.aload_n 1, 1) := by decide +kernel
theorem dX4_readLine_100 : decode cX4_readLine 100 = .ok (.getfield 103, 3) := by decide +kernel
theorem dX4_readLine_103 : decode cX4_readLine 103 = .ok (.iconst 4, 1) := by decide +kernel
theorem dX4_readLine_104 : decode cX4_readLine 104 = .ok (.if_icmp .ge 11, 3) := by decide +kernel
theorem dX4_readLine_107 : decode cX4_readLine 107 = .ok (.aload_n 0, 1) := by decide +kernel
theorem dX4_readLine_108 : decode cX4_readLine 108 = .ok (.aload_n 1, 1) := by decide +kernel
theorem dX4_readLine_109 : decode cX4_readLine 109 = .ok (.invokevirtual 106, 3) := by decide +kernel
theorem dX4_readLine_112 : decode cX4_readLine 112 = .ok (.goto 8, 3) := by decide +kernel
theorem dX4_readLine_115 : decode cX4_readLine 115 = .ok (.aload_n 0, 1) := by decide +kernel
theorem dX4_readLine_116 : decode cX4_readLine 116 = .ok (.iconst 3, 1) := by decide +kernel
theorem dX4_readLine_117 : decode cX4_readLine 117 = .ok (.invokevirtual 75, 3) := by decide +kernel
theorem dX4_readLine_120 : decode cX4_readLine 120 = .ok (.ireturn, 1) := by decide +kernel
theorem dX4_readLine_121 : decode cX4_readLine 121 = .ok (.aload_n 0, 1) := by decide +kernel
theorem dX4_readLine_122 : decode cX4_readLine 122 = .ok (.ldc 109, 2) := by decide +kernel
theorem dX4_readLine_124 : decode cX4_readLine 124 = .ok (.invokevirtual 79, 3) := by decide +kernel
theorem dX4_readLine_127 : decode cX4_readLine 127 = .ok (.ifCond .eq 26, 3) := by decide +kernel
theorem dX4_readLine_130 : decode cX4_readLine 130 = .ok (.aload_n 1, 1) := by decide +kernel
theorem dX4_readLine_131 : decode cX4_readLine 131 = .ok (.getfield 111, 3) := by decide +kernel
theorem dX4_readLine_134 : decode cX4_readLine 134 = .ok (.bipush 7, 2) := by decide +kernel
theorem dX4_readLine_136 : decode cX4_readLine 136 = .ok (.if_icmp .ge 11, 3) := by decide +kernel
theorem dX4_readLine_139 : decode cX4_readLine 139 = .ok (.aload_n 0, 1) := by decide +kernel
theorem dX4_readLine_140 : decode cX4_readLine 140 = .ok (.aload_n 1, 1) := by decide +kernel
theorem dX4_readLine_141 : decode cX4_readLine 141 = .ok (.invokevirtual 114, 3) := by decide +kernel
theorem dX4_readLine_144 : decode cX4_readLine 144 = .ok (.goto 8, 3) := by decide +kernel
theorem dX4_readLine_147 : decode cX4_readLine 147 = .ok (.aload_n 0, 1) := by decide +kernel
theorem dX4_readLine_148 : decode cX4_readLine 148 = .ok (.iconst 3, 1) := by decide +kernel
theorem dX4_readLine_149 : decode cX4_readLine 149 = .ok (.invokevirtual 75, 3) := by decide +kernel
theorem dX4_readLine_152 : decode cX4_readLine 152 = .ok (.ireturn, 1) := by decide +kernel
theorem dX4_readLine_153 : decode cX4_readLine 153 = .ok (.aload_n 0, 1) := by decide +kernel
theorem dX4_readLine_154 : decode cX4_readLine 154 = .ok (.ldc 117, 2) := by decide +kernel
theorem dX4_readLine_156 : decode cX4_readLine 156 = .ok (.invokevirtual 79, 3) := by decide +kernel
theorem dX4_readLine_159 : decode cX4_readLine 159 = .ok (.ifCond .eq 9, 3) := by decide +kernel
theorem dX4_readLine_162 : decode cX4_readLine 162 = .ok (.aload_n 0, 1) := by decide +kernel
theorem dX4_readLine_163 : decode cX4_readLine 163 = .ok (.aload_n 1, 1) := by decide +kernel
theorem dX4_readLine_164 : decode cX4_readLine 164 = .ok (.invokevirtual 119, 3) := by decide +kernel
theorem dX4_readLine_167 : decode cX4_readLine 167 = .ok (.ireturn, 1) := by decide +kernel
theorem dX4_readLine_168 : decode cX4_readLine 168 = .ok (.aload_n 0, 1) := by decide +kernel
theorem dX4_readLine_169 : decode cX4_readLine 169 = .ok (.ldc 122, 2) := by decide +kernel
theorem dX4_readLine_171 : decode cX4_readLine 171 = .ok (.invokevirtual 79, 3) := by decide +kernel
theorem dX4_readLine_174 : decode cX4_readLine 174 = .ok (.ifCond .eq 25, 3) := by decide +kernel
theorem dX4_readLine_177 : decode cX4_readLine 177 = .ok (.aload_n 1, 1) := by decide +kernel
theorem dX4_readLine_178 : decode cX4_readLine 178 = .ok (.getfield 124, 3) := by decide +kernel
theorem dX4_readLine_181 : decode cX4_readLine 181 = .ok (.iconst 4, 1) := by decide +kernel
theorem dX4_readLine_182 : decode cX4_readLine 182 = .ok (.if_icmp .ge 11, 3) := by decide +kernel
theorem dX4_readLine_185 : decode cX4_readLine 185 = .ok (.aload_n 0, 1) := by decide +kernel
theorem dX4_readLine_186 : decode cX4_readLine 186 = .ok (.aload_n 1, 1) := by decide +kernel
theorem dX4_readLine_187 : decode cX4_readLine 187 = .ok (.invokevirtual 127, 3) := by decide +kernel
theorem dX4_readLine_190 : decode cX4_readLine 190 = .ok (.goto 8, 3) := by decide +kernel
theorem dX4_readLine_193 : decode cX4_readLine 193 = .ok (.aload_n 0, 1) := by decide +kernel
theorem dX4_readLine_194 : decode cX4_readLine 194 = .ok (.iconst 3, 1) := by decide +kernel
theorem dX4_readLine_195 : decode cX4_readLine 195 = .ok (.invokevirtual 75, 3) := by decide +kernel
theorem dX4_readLine_198 : decode cX4_readLine 198 = .ok (.ireturn, 1) := by decide +kernel
theorem dX4_readLine_199 : decode cX4_readLine 199 = .ok (.aload_n 0, 1) := by decide +kernel
theorem dX4_readLine_200 : decode cX4_readLine 200 = .ok (.ldc 130, 2) := by decide +kernel
theorem dX4_readLine_202 : decode cX4_readLine 202 = .ok (.invokevirtual 79, 3) := by decide +kernel
theorem dX4_readLine_205 : decode cX4_readLine 205 = .ok (.ifCond .eq 11, 3) := by decide +kernel
theorem dX4_readLine_208 : decode cX4_readLine 208 = .ok (.aload_n 0, 1) := by decide +kernel
theorem dX4_readLine_209 : decode cX4_readLine 209 = .ok (.aload_n 1, 1) := by decide +kernel
theorem dX4_readLine_210 : decode cX4_readLine 210 = .ok (.invokevirtual 132, 3) := by decide +kernel
theorem dX4_readLine_213 : decode cX4_readLine 213 = .ok (.goto 8, 3) := by decide +kernel
theorem dX4_readLine_216 : decode cX4_readLine 216 = .ok (.aload_n 0, 1) := by decide +kernel
theorem dX4_readLine_217 : decode cX4_readLine 217 = .ok (.iconst 1, 1) := by decide +kernel
theorem dX4_readLine_218 : decode cX4_readLine 218 = .ok (.invokevirtual 75, 3) := by decide +kernel
theorem dX4_readLine_221 : decode cX4_readLine 221 = .ok (.ireturn, 1) := by decide +kernel
theorem dX4_readMountain_0 : decode cX4_readMountain 0 = .ok (.aload_n 0, 1) := by decide +kernel
theorem dX4_readMountain_1 : decode cX4_readMountain 1 = .ok (.invokevirtual 48, 3) := by decide +kernel
theorem dX4_readMountain_4 : decode cX4_readMountain 4 = .ok (.aload_n 0, 1) := by decide +kernel
theorem dX4_readMountain_5 : decode cX4_readMountain 5 = .ok (.ldc 135, 2) := by decide +kernel
theorem dX4_readMountain_7 : decode cX4_readMountain 7 = .ok (.invokevirtual 137, 3) := by decide +kernel
theorem dX4_readMountain_10 : decode cX4_readMountain 10 = .ok (.ifCond .eq 13, 3) := by decide +kernel
theorem dX4_readMountain_13 : decode cX4_readMountain 13 = .ok (.aload_n 0, 1) := by decide +kernel
theorem dX4_readMountain_14 : decode cX4_readMountain 14 = .ok (.iconst 2, 1) := by decide +kernel
theorem dX4_readMountain_15 : decode cX4_readMountain 15 = .ok (.bipush 8, 2) := by decide +kernel
theorem dX4_readMountain_17 : decode cX4_readMountain 17 = .ok (.invokevirtual 140, 3) := by decide +kernel
theorem dX4_readMountain_20 : decode cX4_readMountain 20 = .ok (.goto 4, 3) := by decide +kernel
theorem dX4_readMountain_23 : decode cX4_readMountain 23 = .ok (.iconst (-1), 1) := by decide +kernel
theorem dX4_readMountain_24 : decode cX4_readMountain 24 = .ok (.istore_n 2, 1) := by decide +kernel
theorem dX4_readMountain_25 : decode cX4_readMountain 25 = .ok (.iload_n 2, 1) := by decide +kernel
theorem dX4_readMountain_26 : decode cX4_readMountain 26 = .ok (.iconst (-1), 1) := by decide +kernel
theorem dX4_readMountain_27 : decode cX4_readMountain 27 = .ok (.if_icmp .ne 5, 3) := by decide +kernel
theorem dX4_readMountain_30 : decode cX4_readMountain 30 = .ok (.iconst 0, 1) := by decide +kernel
theorem dX4_readMountain_31 : decode cX4_readMountain 31 = .ok (.ireturn, 1) := by decide +kernel
theorem dX4_readMountain_32 : decode cX4_readMountain 32 = .ok (.aload_n 0, 1) := by decide +kernel
theorem dX4_readMountain_33 : decode cX4_readMountain 33 = .ok (.ldc 143, 2) := by decide +kernel
theorem dX4_readMountain_35 : decode cX4_readMountain 35 = .ok (.invokevirtual 137, 3) := by decide +kernel
theorem dX4_readMountain_38 : decode cX4_readMountain 38 = .ok (.ifCond .eq 13, 3) := by decide +kernel
theorem dX4_readMountain_41 : decode cX4_readMountain 41 = .ok (.aload_n 0, 1) := by decide +kernel
theorem dX4_readMountain_42 : decode cX4_readMountain 42 = .ok (.iconst 1, 1) := by decide +kernel
theorem dX4_readMountain_43 : decode cX4_readMountain 43 = .ok (.bipush 30, 2) := by decide +kernel
theorem dX4_readMountain_45 : decode cX4_readMountain 45 = .ok (.invokevirtual 140, 3) := by decide +kernel
theorem dX4_readMountain_48 : decode cX4_readMountain 48 = .ok (.goto 4, 3) := by decide +kernel
theorem dX4_readMountain_51 : decode cX4_readMountain 51 = .ok (.iconst (-1), 1) := by decide +kernel
theorem dX4_readMountain_52 : decode cX4_readMountain 52 = .ok (.istore_n 3, 1) := by decide +kernel
theorem dX4_readMountain_53 : decode cX4_readMountain 53 = .ok (.iload_n 3, 1) := by decide +kernel
theorem dX4_readMountain_54 : decode cX4_readMountain 54 = .ok (.iconst (-1), 1) := by decide +kernel
theorem dX4_readMountain_55 : decode cX4_readMountain 55 = .ok (.if_icmp .ne 5, 3) := by decide +kernel
theorem dX4_readMountain_58 : decode cX4_readMountain 58 = .ok (.iconst 0, 1) := by decide +kernel
theorem dX4_readMountain_59 : decode cX4_readMountain 59 = .ok (.ireturn, 1) := by decide +kernel
theorem dX4_readMountain_60 : decode cX4_readMountain 60 = .ok (.aload_n 1, 1) := by decide +kernel
theorem dX4_readMountain_61 : decode cX4_readMountain 61 = .ok (.iload_n 2, 1) := by decide +kernel
theorem dX4_readMountain_62 : decode cX4_readMountain 62 = .ok (.putfield 145, 3) := by decide +kernel
theorem dX4_readMountain_65 : decode cX4_readMountain 65 = .ok (.aload_n 1, 1) := by decide +kernel
theorem dX4_readMountain_66 : decode cX4_readMountain 66 = .ok (.iload_n 3, 1) := by decide +kernel
theorem dX4_readMountain_67 : decode cX4_readMountain 67 = .ok (.putfield 147, 3) := by decide +kernel
theorem dX4_readMountain_70 : decode cX4_readMountain 70 = .ok (.iconst 1, 1) := by decide +kernel
theorem dX4_readMountain_71 : decode cX4_readMountain 71 = .ok (.ireturn, 1) := by decide +kernel
theorem dX4_readHeight_0 : decode cX4_readHeight 0 = .ok (.aload_n 0, 1) := by decide +kernel
theorem dX4_readHeight_1 : decode cX4_readHeight 1 = .ok (.invokevirtual 48, 3) := by decide +kernel
theorem dX4_readHeight_4 : decode cX4_readHeight 4 = .ok (.aload_n 0, 1) := by decide +kernel
theorem dX4_readHeight_5 : decode cX4_readHeight 5 = .ok (.iconst 0, 1) := by decide +kernel
theorem dX4_readHeight_6 : decode cX4_readHeight 6 = .ok (.aload_n 1, 1) := by decide +kernel
theorem dX4_readHeight_7 : decode cX4_readHeight 7 = .ok (.getfield 145, 3) := by decide +kernel
theorem dX4_readHeight_10 : decode cX4_readHeight 10 = .ok (.iconst 1, 1) := by decide +kernel
theorem dX4_readHeight_11 : decode cX4_readHeight 11 = .ok (.isub, 1) := by decide +kernel
theorem dX4_readHeight_12 : decode cX4_readHeight 12 = .ok (.invokevirtual 140, 3) := by decide +kernel
theorem dX4_readHeight_15 : decode cX4_readHeight 15 = .ok (.istore_n 2, 1) := by decide +kernel
theorem dX4_readHeight_16 : decode cX4_readHeight 16 = .ok (.iload_n 2, 1) := by decide +kernel
theorem dX4_readHeight_17 : decode cX4_readHeight 17 = .ok (.iconst (-1), 1) := by decide +kernel
theorem dX4_readHeight_18 : decode cX4_readHeight 18 = .ok (.if_icmp .ne 5, 3) := by decide +kernel
theorem dX4_readHeight_21 : decode cX4_readHeight 21 = .ok (.iconst 0, 1) := by decide +kernel
theorem dX4_readHeight_22 : decode cX4_readHeight 22 = .ok (.ireturn, 1) := by decide +kernel
theorem dX4_readHeight_23 : decode cX4_readHeight 23 = .ok (.aload_n 0, 1) := by decide +kernel
theorem dX4_readHeight_24 : decode cX4_readHeight 24 = .ok (.iconst 0, 1) := by decide +kernel
theorem dX4_readHeight_25 : decode cX4_readHeight 25 = .ok (.bipush 99, 2) := by decide +kernel
theorem dX4_readHeight_27 : decode cX4_readHeight 27 = .ok (.invokevirtual 140, 3) := by decide +kernel
theorem dX4_readHeight_30 : decode cX4_readHeight 30 = .ok (.istore_n 3, 1) := by decide +kernel
theorem dX4_readHeight_31 : decode cX4_readHeight 31 = .ok (.iload_n 3, 1) := by decide +kernel
theorem dX4_readHeight_32 : decode cX4_readHeight 32 = .ok (.iconst (-1), 1) := by decide +kernel
theorem dX4_readHeight_33 : decode cX4_readHeight 33 = .ok (.if_icmp .ne 5, 3) := by decide +kernel
theorem dX4_readHeight_36 : decode cX4_readHeight 36 = .ok (.iconst 0, 1) := by decide +kernel
theorem dX4_readHeight_37 : decode cX4_readHeight 37 = .ok (.ireturn, 1) := by decide +kernel
theorem dX4_readHeight_38 : decode cX4_readHeight 38 = .ok (.aload_n 1, 1) := by decide +kernel
theorem dX4_readHeight_39 : decode cX4_readHeight 39 = .ok (.getfield 149, 3) := by decide +kernel
theorem dX4_readHeight_42 : decode cX4_readHeight 42 = .ok (.iload_n 2, 1) := by decide +kernel
theorem dX4_readHeight_43 : decode cX4_readHeight 43 = .ok (.iload_n 3, 1) := by decide +kernel
theorem dX4_readHeight_44 : decode cX4_readHeight 44 = .ok (.iastore, 1) := by decide +kernel
theorem dX4_readHeight_45 : decode cX4_readHeight 45 = .ok (.iconst 1, 1) := by decide +kernel
theorem dX4_readHeight_46 : decode cX4_readHeight 46 = .ok (.ireturn, 1) := by decide +kernel
theorem dX4_readPath_0 : decode cX4_readPath 0 = .ok (.aload_n 0, 1) := by decide +kernel
theorem dX4_readPath_1 : decode cX4_readPath 1 = .ok (.invokevirtual 48, 3) := by decide +kernel
theorem dX4_readPath_4 : decode cX4_readPath 4 = .ok (.aload_n 0, 1) := by decide +kernel
theorem dX4_readPath_5 : decode cX4_readPath 5 = .ok (.iconst 0, 1) := by decide +kernel
theorem dX4_readPath_6 : decode cX4_readPath 6 = .ok (.aload_n 1, 1) := by decide +kernel
theorem dX4_readPath_7 : decode cX4_readPath 7 = .ok (.getfield 145, 3) := by decide +kernel
theorem dX4_readPath_10 : decode cX4_readPath 10 = .ok (.iconst 1, 1) := by decide +kernel
theorem dX4_readPath_11 : decode cX4_readPath 11 = .ok (.isub, 1) := by decide +kernel
theorem dX4_readPath_12 : decode cX4_readPath 12 = .ok (.invokevirtual 140, 3) := by decide +kernel
theorem dX4_readPath_15 : decode cX4_readPath 15 = .ok (.istore_n 2, 1) := by decide +kernel
theorem dX4_readPath_16 : decode cX4_readPath 16 = .ok (.iload_n 2, 1) := by decide +kernel
theorem dX4_readPath_17 : decode cX4_readPath 17 = .ok (.iconst (-1), 1) := by decide +kernel
theorem dX4_readPath_18 : decode cX4_readPath 18 = .ok (.if_icmp .eq 12, 3) := by decide +kernel
theorem dX4_readPath_21 : decode cX4_readPath 21 = .ok (.aload_n 0, 1) := by decide +kernel
theorem dX4_readPath_22 : decode cX4_readPath 22 = .ok (.ldc 153, 2) := by decide +kernel
theorem dX4_readPath_24 : decode cX4_readPath 24 = .ok (.invokevirtual 137, 3) := by decide +kernel
theorem dX4_readPath_27 : decode cX4_readPath 27 = .ok (.ifCond .ne 5, 3) := by decide +kernel
theorem dX4_readPath_30 : decode cX4_readPath 30 = .ok (.iconst 0, 1) := by decide +kernel
theorem dX4_readPath_31 : decode cX4_readPath 31 = .ok (.ireturn, 1) := by decide +kernel
theorem dX4_readPath_32 : decode cX4_readPath 32 = .ok (.aload_n 0, 1) := by decide +kernel
theorem dX4_readPath_33 : decode cX4_readPath 33 = .ok (.getfield 22, 3) := by decide +kernel
theorem dX4_readPath_36 : decode cX4_readPath 36 = .ok (.iconst 2, 1) := by decide +kernel
theorem dX4_readPath_37 : decode cX4_readPath 37 = .ok (.if_icmp .ne 30, 3) := by decide +kernel
theorem dX4_readPath_40 : decode cX4_readPath 40 = .ok (.aload_n 0, 1) := by decide +kernel
theorem dX4_readPath_41 : decode cX4_readPath 41 = .ok (.getfield 28, 3) := by decide +kernel
theorem dX4_readPath_44 : decode cX4_readPath 44 = .ok (.iload_n 2, 1) := by decide +kernel
theorem dX4_readPath_45 : decode cX4_readPath 45 = .ok (.if_icmp .eq 16, 3) := by decide +kernel
theorem dX4_readPath_48 : decode cX4_readPath 48 = .ok (.aload_n 1, 1) := by decide +kernel
theorem dX4_readPath_49 : decode cX4_readPath 49 = .ok (.iload_n 2, 1) := by decide +kernel
theorem dX4_readPath_50 : decode cX4_readPath 50 = .ok (.aload_n 0, 1) := by decide +kernel
theorem dX4_readPath_51 : decode cX4_readPath 51 = .ok (.getfield 28, 3) := by decide +kernel
theorem dX4_readPath_54 : decode cX4_readPath 54 = .ok (.invokevirtual 155, 3) := by decide +kernel
theorem dX4_readPath_57 : decode cX4_readPath 57 = .ok (.iconst (-1), 1) := by decide +kernel
theorem dX4_readPath_58 : decode cX4_readPath 58 = .ok (.if_icmp .eq 9, 3) := by decide +kernel
theorem dX4_readPath_61 : decode cX4_readPath 61 = .ok (.aload_n 0, 1) := by decide +kernel
theorem dX4_readPath_62 : decode cX4_readPath 62 = .ok (.iconst 2, 1) := by decide +kernel
theorem dX4_readPath_63 : decode cX4_readPath 63 = .ok (.invokevirtual 75, 3) := by decide +kernel
theorem dX4_readPath_66 : decode cX4_readPath 66 = .ok (.ireturn, 1) := by decide +kernel
theorem dX4_readPath_67 : decode cX4_readPath 67 = .ok (.aload_n 0, 1) := by decide +kernel
theorem dX4_readPath_68 : decode cX4_readPath 68 = .ok (.iconst 0, 1) := by decide +kernel
theorem dX4_readPath_69 : decode cX4_readPath 69 = .ok (.aload_n 1, 1) := by decide +kernel
theorem dX4_readPath_70 : decode cX4_readPath 70 = .ok (.getfield 145, 3) := by decide +kernel
theorem dX4_readPath_73 : decode cX4_readPath 73 = .ok (.iconst 1, 1) := by decide +kernel
theorem dX4_readPath_74 : decode cX4_readPath 74 = .ok (.isub, 1) := by decide +kernel
theorem dX4_readPath_75 : decode cX4_readPath 75 = .ok (.invokevirtual 140, 3) := by decide +kernel
theorem dX4_readPath_78 : decode cX4_readPath 78 = .ok (.istore_n 3, 1) := by decide +kernel
theorem dX4_readPath_79 : decode cX4_readPath 79 = .ok (.iload_n 3, 1) := by decide +kernel
theorem dX4_readPath_80 : decode cX4_readPath 80 = .ok (.iconst (-1), 1) := by decide +kernel
theorem dX4_readPath_81 : decode cX4_readPath 81 = .ok (.if_icmp .ne 5, 3) := by decide +kernel
theorem dX4_readPath_84 : decode cX4_readPath 84 = .ok (.iconst 0, 1) := by decide +kernel
theorem dX4_readPath_85 : decode cX4_readPath 85 = .ok (.ireturn, 1) := by decide +kernel
theorem dX4_readPath_86 : decode cX4_readPath 86 = .ok (.aload_n 1, 1) := by decide +kernel
theorem dX4_readPath_87 : decode cX4_readPath 87 = .ok (.getfield 158, 3) := by decide +kernel
theorem dX4_readPath_90 : decode cX4_readPath 90 = .ok (.aload_n 1, 1) := by decide +kernel
theorem dX4_readPath_91 : decode cX4_readPath 91 = .ok (.getfield 95, 3) := by decide +kernel
theorem dX4_readPath_94 : decode cX4_readPath 94 = .ok (.iload_n 2, 1) := by decide +kernel
theorem dX4_readPath_95 : decode cX4_readPath 95 = .ok (.iastore, 1) := by decide +kernel
theorem dX4_readPath_96 : decode cX4_readPath 96 = .ok (.aload_n 1, 1) := by decide +kernel
theorem dX4_readPath_97 : decode cX4_readPath 97 = .ok (.getfield 161, 3) := by decide +kernel
theorem dX4_readPath_100 : decode cX4_readPath 100 = .ok (.aload_n 1, 1) := by decide +kernel
theorem dX4_readPath_101 : decode cX4_readPath 101 = .ok (.getfield 95, 3) := by decide +kernel
theorem dX4_readPath_104 : decode cX4_readPath 104 = .ok (.iload_n 3, 1) := by decide +kernel
theorem dX4_readPath_105 : decode cX4_readPath 105 = .ok (.iastore, 1) := by decide +kernel
theorem dX4_readPath_106 : decode cX4_readPath 106 = .ok (.aload_n 1, 1) := by decide +kernel
theorem dX4_readPath_107 : decode cX4_readPath 107 = .ok (.dup, 1) := by decide +kernel
theorem dX4_readPath_108 : decode cX4_readPath 108 = .ok (.getfield 95, 3) := by decide +kernel
theorem dX4_readPath_111 : decode cX4_readPath 111 = .ok (.iconst 1, 1) := by decide +kernel
theorem dX4_readPath_112 : decode cX4_readPath 112 = .ok (.iadd, 1) := by decide +kernel
theorem dX4_readPath_113 : decode cX4_readPath 113 = .ok (.putfield 95, 3) := by decide +kernel
theorem dX4_readPath_116 : decode cX4_readPath 116 = .ok (.iconst 1, 1) := by decide +kernel
theorem dX4_readPath_117 : decode cX4_readPath 117 = .ok (.ireturn, 1) := by decide +kernel
theorem dX4_readBride_0 : decode cX4_readBride 0 = .ok (.aload_n 0, 1) := by decide +kernel
theorem dX4_readBride_1 : decode cX4_readBride 1 = .ok (.invokevirtual 48, 3) := by decide +kernel
theorem dX4_readBride_4 : decode cX4_readBride 4 = .ok (.aload_n 0, 1) := by decide +kernel
theorem dX4_readBride_5 : decode cX4_readBride 5 = .ok (.ldc 93, 2) := by decide +kernel
theorem dX4_readBride_7 : decode cX4_readBride 7 = .ok (.invokevirtual 137, 3) := by decide +kernel
theorem dX4_readBride_10 : decode cX4_readBride 10 = .ok (.ifCond .eq 17, 3) := by decide +kernel
theorem dX4_readBride_13 : decode cX4_readBride 13 = .ok (.aload_n 0, 1) := by decide +kernel
theorem dX4_readBride_14 : decode cX4_readBride 14 = .ok (.iconst 0, 1) := by decide +kernel
theorem dX4_readBride_15 : decode cX4_readBride 15 = .ok (.aload_n 1, 1) := by decide +kernel
theorem dX4_readBride_16 : decode cX4_readBride 16 = .ok (.getfield 95, 3) := by decide +kernel
theorem dX4_readBride_19 : decode cX4_readBride 19 = .ok (.iconst 1, 1) := by decide +kernel
theorem dX4_readBride_20 : decode cX4_readBride 20 = .ok (.isub, 1) := by decide +kernel
theorem dX4_readBride_21 : decode cX4_readBride 21 = .ok (.invokevirtual 140, 3) := by decide +kernel
theorem dX4_readBride_24 : decode cX4_readBride 24 = .ok (.goto 4, 3) := by decide +kernel
theorem dX4_readBride_27 : decode cX4_readBride 27 = .ok (.iconst (-1), 1) := by decide +kernel
theorem dX4_readBride_28 : decode cX4_readBride 28 = .ok (.istore_n 2, 1) := by decide +kernel
theorem dX4_readBride_29 : decode cX4_readBride 29 = .ok (.iload_n 2, 1) := by decide +kernel
theorem dX4_readBride_30 : decode cX4_readBride 30 = .ok (.iconst (-1), 1) := by decide +kernel
theorem dX4_readBride_31 : decode cX4_readBride 31 = .ok (.if_icmp .ne 5, 3) := by decide +kernel
theorem dX4_readBride_34 : decode cX4_readBride 34 = .ok (.iconst 0, 1) := by decide +kernel
theorem dX4_readBride_35 : decode cX4_readBride 35 = .ok (.ireturn, 1) := by decide +kernel
theorem dX4_readBride_36 : decode cX4_readBride 36 = .ok (.aload_n 0, 1) := by decide +kernel
theorem dX4_readBride_37 : decode cX4_readBride 37 = .ok (.ldc 164, 2) := by decide +kernel
theorem dX4_readBride_39 : decode cX4_readBride 39 = .ok (.invokevirtual 137, 3) := by decide +kernel
theorem dX4_readBride_42 : decode cX4_readBride 42 = .ok (.ifCond .eq 17, 3) := by decide +kernel
theorem dX4_readBride_45 : decode cX4_readBride 45 = .ok (.aload_n 0, 1) := by decide +kernel
theorem dX4_readBride_46 : decode cX4_readBride 46 = .ok (.iconst 0, 1) := by decide +kernel
theorem dX4_readBride_47 : decode cX4_readBride 47 = .ok (.aload_n 1, 1) := by decide +kernel
theorem dX4_readBride_48 : decode cX4_readBride 48 = .ok (.getfield 147, 3) := by decide +kernel
theorem dX4_readBride_51 : decode cX4_readBride 51 = .ok (.iconst 1, 1) := by decide +kernel
theorem dX4_readBride_52 : decode cX4_readBride 52 = .ok (.isub, 1) := by decide +kernel
theorem dX4_readBride_53 : decode cX4_readBride 53 = .ok (.invokevirtual 140, 3) := by decide +kernel
theorem dX4_readBride_56 : decode cX4_readBride 56 = .ok (.goto 4, 3) := by decide +kernel
theorem dX4_readBride_59 : decode cX4_readBride 59 = .ok (.iconst (-1), 1) := by decide +kernel
theorem dX4_readBride_60 : decode cX4_readBride 60 = .ok (.istore_n 3, 1) := by decide +kernel
theorem dX4_readBride_61 : decode cX4_readBride 61 = .ok (.iload_n 3, 1) := by decide +kernel
theorem dX4_readBride_62 : decode cX4_readBride 62 = .ok (.iconst (-1), 1) := by decide +kernel
theorem dX4_readBride_63 : decode cX4_readBride 63 = .ok (.if_icmp .ne 5, 3) := by decide +kernel
theorem dX4_readBride_66 : decode cX4_readBride 66 = .ok (.iconst 0, 1) := by decide +kernel
theorem dX4_readBride_67 : decode cX4_readBride 67 = .ok (.ireturn, 1) := by decide +kernel
theorem dX4_readBride_68 : decode cX4_readBride 68 = .ok (.aload_n 1, 1) := by decide +kernel
theorem dX4_readBride_69 : decode cX4_readBride 69 = .ok (.getfield 166, 3) := by decide +kernel
theorem dX4_readBride_72 : decode cX4_readBride 72 = .ok (.aload_n 1, 1) := by decide +kernel
theorem dX4_readBride_73 : decode cX4_readBride 73 = .ok (.getfield 103, 3) := by decide +kernel
theorem dX4_readBride_76 : decode cX4_readBride 76 = .ok (.iload_n 2, 1) := by decide +kernel
theorem dX4_readBride_77 : decode cX4_readBride 77 = .ok (.iastore, 1) := by decide +kernel
theorem dX4_readBride_78 : decode cX4_readBride 78 = .ok (.aload_n 1, 1) := by decide +kernel
theorem dX4_readBride_79 : decode cX4_readBride 79 = .ok (.getfield 169, 3) := by decide +kernel
theorem dX4_readBride_82 : decode cX4_readBride 82 = .ok (.aload_n 1, 1) := by decide +kernel
theorem dX4_readBride_83 : decode cX4_readBride 83 = .ok (.getfield 103, 3) := by decide +kernel
theorem dX4_readBride_86 : decode cX4_readBride 86 = .ok (.iload_n 3, 1) := by decide +kernel
theorem dX4_readBride_87 : decode cX4_readBride 87 = .ok (.iastore, 1) := by decide +kernel
theorem dX4_readBride_88 : decode cX4_readBride 88 = .ok (.aload_n 1, 1) := by decide +kernel
theorem dX4_readBride_89 : decode cX4_readBride 89 = .ok (.dup, 1) := by decide +kernel
theorem dX4_readBride_90 : decode cX4_readBride 90 = .ok (.getfield 103, 3) := by decide +kernel
theorem dX4_readBride_93 : decode cX4_readBride 93 = .ok (.iconst 1, 1) := by decide +kernel
theorem dX4_readBride_94 : decode cX4_readBride 94 = .ok (.iadd, 1) := by decide +kernel
theorem dX4_readBride_95 : decode cX4_readBride 95 = .ok (.putfield 103, 3) := by decide +kernel
theorem dX4_readBride_98 : decode cX4_readBride 98 = .ok (.iconst 1, 1) := by decide +kernel
theorem dX4_readBride_99 : decode cX4_readBride 99 = .ok (.ireturn, 1) := by decide +kernel
theorem dX4_readSuitor_0 : decode cX4_readSuitor 0 = .ok (.aload_n 0, 1) := by decide +kernel
theorem dX4_readSuitor_1 : decode cX4_readSuitor 1 = .ok (.invokevirtual 48, 3) := by decide +kernel
theorem dX4_readSuitor_4 : decode cX4_readSuitor 4 = .ok (.aload_n 0, 1) := by decide +kernel
theorem dX4_readSuitor_5 : decode cX4_readSuitor 5 = .ok (.ldc 172, 2) := by decide +kernel
theorem dX4_readSuitor_7 : decode cX4_readSuitor 7 = .ok (.invokevirtual 137, 3) := by decide +kernel
theorem dX4_readSuitor_10 : decode cX4_readSuitor 10 = .ok (.ifCond .eq 13, 3) := by decide +kernel
theorem dX4_readSuitor_13 : decode cX4_readSuitor 13 = .ok (.aload_n 0, 1) := by decide +kernel
theorem dX4_readSuitor_14 : decode cX4_readSuitor 14 = .ok (.iconst 0, 1) := by decide +kernel
theorem dX4_readSuitor_15 : decode cX4_readSuitor 15 = .ok (.bipush 30, 2) := by decide +kernel
theorem dX4_readSuitor_17 : decode cX4_readSuitor 17 = .ok (.invokevirtual 140, 3) := by decide +kernel
theorem dX4_readSuitor_20 : decode cX4_readSuitor 20 = .ok (.goto 4, 3) := by decide +kernel
theorem dX4_readSuitor_23 : decode cX4_readSuitor 23 = .ok (.iconst (-1), 1) := by decide +kernel
theorem dX4_readSuitor_24 : decode cX4_readSuitor 24 = .ok (.istore_n 2, 1) := by decide +kernel
theorem dX4_readSuitor_25 : decode cX4_readSuitor 25 = .ok (.iload_n 2, 1) := by decide +kernel
theorem dX4_readSuitor_26 : decode cX4_readSuitor 26 = .ok (.iconst (-1), 1) := by decide +kernel
theorem dX4_readSuitor_27 : decode cX4_readSuitor 27 = .ok (.if_icmp .ne 5, 3) := by decide +kernel
theorem dX4_readSuitor_30 : decode cX4_readSuitor 30 = .ok (.iconst 0, 1) := by decide +kernel
theorem dX4_readSuitor_31 : decode cX4_readSuitor 31 = .ok (.ireturn, 1) := by decide +kernel
theorem dX4_readSuitor_32 : decode cX4_readSuitor 32 = .ok (.aload_n 0, 1) := by decide +kernel
theorem dX4_readSuitor_33 : decode cX4_readSuitor 33 = .ok (.ldc 174, 2) := by decide +kernel
theorem dX4_readSuitor_35 : decode cX4_readSuitor 35 = .ok (.invokevirtual 137, 3) := by decide +kernel
theorem dX4_readSuitor_38 : decode cX4_readSuitor 38 = .ok (.ifCond .eq 13, 3) := by decide +kernel
theorem dX4_readSuitor_41 : decode cX4_readSuitor 41 = .ok (.aload_n 0, 1) := by decide +kernel
theorem dX4_readSuitor_42 : decode cX4_readSuitor 42 = .ok (.iconst 0, 1) := by decide +kernel
theorem dX4_readSuitor_43 : decode cX4_readSuitor 43 = .ok (.bipush 100, 2) := by decide +kernel
theorem dX4_readSuitor_45 : decode cX4_readSuitor 45 = .ok (.invokevirtual 140, 3) := by decide +kernel
theorem dX4_readSuitor_48 : decode cX4_readSuitor 48 = .ok (.goto 4, 3) := by decide +kernel
theorem dX4_readSuitor_51 : decode cX4_readSuitor 51 = .ok (.iconst (-1), 1) := by decide +kernel
theorem dX4_readSuitor_52 : decode cX4_readSuitor 52 = .ok (.istore_n 3, 1) := by decide +kernel
theorem dX4_readSuitor_53 : decode cX4_readSuitor 53 = .ok (.iload_n 3, 1) := by decide +kernel
theorem dX4_readSuitor_54 : decode cX4_readSuitor 54 = .ok (.iconst (-1), 1) := by decide +kernel
theorem dX4_readSuitor_55 : decode cX4_readSuitor 55 = .ok (.if_icmp .eq 12, 3) := by decide +kernel
theorem dX4_readSuitor_58 : decode cX4_readSuitor 58 = .ok (.aload_n 0, 1) := by decide +kernel
theorem dX4_readSuitor_59 : decode cX4_readSuitor 59 = .ok (.ldc 176, 2) := by decide +kernel
theorem dX4_readSuitor_61 : decode cX4_readSuitor 61 = .ok (.invokevirtual 137, 3) := by decide +kernel
theorem dX4_readSuitor_64 : decode cX4_readSuitor 64 = .ok (.ifCond .ne 5, 3) := by decide +kernel
theorem dX4_readSuitor_67 : decode cX4_readSuitor 67 = .ok (.iconst 0, 1) := by decide +kernel
theorem dX4_readSuitor_68 : decode cX4_readSuitor 68 = .ok (.ireturn, 1) := by decide +kernel
theorem dX4_readSuitor_69 : decode cX4_readSuitor 69 = .ok (.aload_n 0, 1) := by decide +kernel
theorem dX4_readSuitor_70 : decode cX4_readSuitor 70 = .ok (.aload_n 1, 1) := by decide +kernel
theorem dX4_readSuitor_71 : decode cX4_readSuitor 71 = .ok (.invokevirtual 178, 3) := by decide +kernel
theorem dX4_readSuitor_74 : decode cX4_readSuitor 74 = .ok (.istore 4, 2) := by decide +kernel
theorem dX4_readSuitor_76 : decode cX4_readSuitor 76 = .ok (.iload 4, 2) := by decide +kernel
theorem dX4_readSuitor_78 : decode cX4_readSuitor 78 = .ok (.iconst (-1), 1) := by decide +kernel
theorem dX4_readSuitor_79 : decode cX4_readSuitor 79 = .ok (.if_icmp .ne 5, 3) := by decide +kernel
theorem dX4_readSuitor_82 : decode cX4_readSuitor 82 = .ok (.iconst 0, 1) := by decide +kernel
theorem dX4_readSuitor_83 : decode cX4_readSuitor 83 = .ok (.ireturn, 1) := by decide +kernel
theorem dX4_readSuitor_84 : decode cX4_readSuitor 84 = .ok (.aload_n 1, 1) := by decide +kernel
theorem dX4_readSuitor_85 : decode cX4_readSuitor 85 = .ok (.getfield 182, 3) := by decide +kernel
theorem dX4_readSuitor_88 : decode cX4_readSuitor 88 = .ok (.aload_n 1, 1) := by decide +kernel
theorem dX4_readSuitor_89 : decode cX4_readSuitor 89 = .ok (.getfield 111, 3) := by decide +kernel
theorem dX4_readSuitor_92 : decode cX4_readSuitor 92 = .ok (.iload_n 2, 1) := by decide +kernel
theorem dX4_readSuitor_93 : decode cX4_readSuitor 93 = .ok (.iastore, 1) := by decide +kernel
theorem dX4_readSuitor_94 : decode cX4_readSuitor 94 = .ok (.aload_n 1, 1) := by decide +kernel
theorem dX4_readSuitor_95 : decode cX4_readSuitor 95 = .ok (.getfield 184, 3) := by decide +kernel
theorem dX4_readSuitor_98 : decode cX4_readSuitor 98 = .ok (.aload_n 1, 1) := by decide +kernel
theorem dX4_readSuitor_99 : decode cX4_readSuitor 99 = .ok (.getfield 111, 3) := by decide +kernel
theorem dX4_readSuitor_102 : decode cX4_readSuitor 102 = .ok (.iload_n 3, 1) := by decide +kernel
theorem dX4_readSuitor_103 : decode cX4_readSuitor 103 = .ok (.iastore, 1) := by decide +kernel
theorem dX4_readSuitor_104 : decode cX4_readSuitor 104 = .ok (.aload_n 1, 1) := by decide +kernel
theorem dX4_readSuitor_105 : decode cX4_readSuitor 105 = .ok (.getfield 186, 3) := by decide +kernel
theorem dX4_readSuitor_108 : decode cX4_readSuitor 108 = .ok (.aload_n 1, 1) := by decide +kernel
theorem dX4_readSuitor_109 : decode cX4_readSuitor 109 = .ok (.getfield 111, 3) := by decide +kernel
theorem dX4_readSuitor_112 : decode cX4_readSuitor 112 = .ok (.iload 4, 2) := by decide +kernel
theorem dX4_readSuitor_114 : decode cX4_readSuitor 114 = .ok (.iastore, 1) := by decide +kernel
theorem dX4_readSuitor_115 : decode cX4_readSuitor 115 = .ok (.aload_n 1, 1) := by decide +kernel
theorem dX4_readSuitor_116 : decode cX4_readSuitor 116 = .ok (.dup, 1) := by decide +kernel
theorem dX4_readSuitor_117 : decode cX4_readSuitor 117 = .ok (.getfield 111, 3) := by decide +kernel
theorem dX4_readSuitor_120 : decode cX4_readSuitor 120 = .ok (.iconst 1, 1) := by decide +kernel
theorem dX4_readSuitor_121 : decode cX4_readSuitor 121 = .ok (.iadd, 1) := by decide +kernel
theorem dX4_readSuitor_122 : decode cX4_readSuitor 122 = .ok (.putfield 111, 3) := by decide +kernel
theorem dX4_readSuitor_125 : decode cX4_readSuitor 125 = .ok (.iconst 1, 1) := by decide +kernel
theorem dX4_readSuitor_126 : decode cX4_readSuitor 126 = .ok (.ireturn, 1) := by decide +kernel
theorem dX4_takeBrides_0 : decode cX4_takeBrides 0 = .ok (.iconst 0, 1) := by decide +kernel
theorem dX4_takeBrides_1 : decode cX4_takeBrides 1 = .ok (.istore_n 2, 1) := by decide +kernel
theorem dX4_takeBrides_2 : decode cX4_takeBrides 2 = .ok (.iconst 0, 1) := by decide +kernel
theorem dX4_takeBrides_3 : decode cX4_takeBrides 3 = .ok (.istore_n 3, 1) := by decide +kernel
theorem dX4_takeBrides_4 : decode cX4_takeBrides 4 = .ok (.iload_n 3, 1) := by decide +kernel
theorem dX4_takeBrides_5 : decode cX4_takeBrides 5 = .ok (.iconst 4, 1) := by decide +kernel
theorem dX4_takeBrides_6 : decode cX4_takeBrides 6 = .ok (.if_icmp .gt 87, 3) := by decide +kernel
theorem dX4_takeBrides_9 : decode cX4_takeBrides 9 = .ok (.iload_n 3, 1) := by decide +kernel
theorem dX4_takeBrides_10 : decode cX4_takeBrides 10 = .ok (.ifCond .le 13, 3) := by decide +kernel
theorem dX4_takeBrides_13 : decode cX4_takeBrides 13 = .ok (.aload_n 0, 1) := by decide +kernel
theorem dX4_takeBrides_14 : decode cX4_takeBrides 14 = .ok (.getfield 22, 3) := by decide +kernel
theorem dX4_takeBrides_17 : decode cX4_takeBrides 17 = .ok (.iconst 2, 1) := by decide +kernel
theorem dX4_takeBrides_18 : decode cX4_takeBrides 18 = .ok (.if_icmp .eq 5, 3) := by decide +kernel
theorem dX4_takeBrides_21 : decode cX4_takeBrides 21 = .ok (.iload_n 2, 1) := by decide +kernel
theorem dX4_takeBrides_22 : decode cX4_takeBrides 22 = .ok (.ireturn, 1) := by decide +kernel
theorem dX4_takeBrides_23 : decode cX4_takeBrides 23 = .ok (.aload_n 0, 1) := by decide +kernel
theorem dX4_takeBrides_24 : decode cX4_takeBrides 24 = .ok (.getfield 22, 3) := by decide +kernel
theorem dX4_takeBrides_27 : decode cX4_takeBrides 27 = .ok (.iconst 2, 1) := by decide +kernel
theorem dX4_takeBrides_28 : decode cX4_takeBrides 28 = .ok (.if_icmp .ne 31, 3) := by decide +kernel
theorem dX4_takeBrides_31 : decode cX4_takeBrides 31 = .ok (.aload_n 0, 1) := by decide +kernel
theorem dX4_takeBrides_32 : decode cX4_takeBrides 32 = .ok (.getfield 28, 3) := by decide +kernel
theorem dX4_takeBrides_35 : decode cX4_takeBrides 35 = .ok (.iconst 4, 1) := by decide +kernel
theorem dX4_takeBrides_36 : decode cX4_takeBrides 36 = .ok (.if_icmp .ge 23, 3) := by decide +kernel
theorem dX4_takeBrides_39 : decode cX4_takeBrides 39 = .ok (.iload_n 2, 1) := by decide +kernel
theorem dX4_takeBrides_40 : decode cX4_takeBrides 40 = .ok (.aload_n 0, 1) := by decide +kernel
theorem dX4_takeBrides_41 : decode cX4_takeBrides 41 = .ok (.getfield 28, 3) := by decide +kernel
theorem dX4_takeBrides_44 : decode cX4_takeBrides 44 = .ok (.ishr, 1) := by decide +kernel
theorem dX4_takeBrides_45 : decode cX4_takeBrides 45 = .ok (.iconst 1, 1) := by decide +kernel
theorem dX4_takeBrides_46 : decode cX4_takeBrides 46 = .ok (.iand, 1) := by decide +kernel
theorem dX4_takeBrides_47 : decode cX4_takeBrides 47 = .ok (.iconst 1, 1) := by decide +kernel
theorem dX4_takeBrides_48 : decode cX4_takeBrides 48 = .ok (.if_icmp .ne 11, 3) := by decide +kernel
theorem dX4_takeBrides_51 : decode cX4_takeBrides 51 = .ok (.aload_n 0, 1) := by decide +kernel
theorem dX4_takeBrides_52 : decode cX4_takeBrides 52 = .ok (.iconst 2, 1) := by decide +kernel
theorem dX4_takeBrides_53 : decode cX4_takeBrides 53 = .ok (.invokevirtual 75, 3) := by decide +kernel
theorem dX4_takeBrides_56 : decode cX4_takeBrides 56 = .ok (.pop, 1) := by decide +kernel
theorem dX4_takeBrides_57 : decode cX4_takeBrides 57 = .ok (.iconst (-1), 1) := by decide +kernel
theorem dX4_takeBrides_58 : decode cX4_takeBrides 58 = .ok (.ireturn, 1) := by decide +kernel
theorem dX4_takeBrides_59 : decode cX4_takeBrides 59 = .ok (.aload_n 0, 1) := by decide +kernel
theorem dX4_takeBrides_60 : decode cX4_takeBrides 60 = .ok (.iconst 0, 1) := by decide +kernel
theorem dX4_takeBrides_61 : decode cX4_takeBrides 61 = .ok (.aload_n 1, 1) := by decide +kernel
theorem dX4_takeBrides_62 : decode cX4_takeBrides 62 = .ok (.getfield 103, 3) := by decide +kernel
theorem dX4_takeBrides_65 : decode cX4_takeBrides 65 = .ok (.iconst 1, 1) := by decide +kernel
theorem dX4_takeBrides_66 : decode cX4_takeBrides 66 = .ok (.isub, 1) := by decide +kernel
theorem dX4_takeBrides_67 : decode cX4_takeBrides 67 = .ok (.invokevirtual 140, 3) := by decide +kernel
theorem dX4_takeBrides_70 : decode cX4_takeBrides 70 = .ok (.istore 4, 2) := by decide +kernel
theorem dX4_takeBrides_72 : decode cX4_takeBrides 72 = .ok (.iload 4, 2) := by decide +kernel
theorem dX4_takeBrides_74 : decode cX4_takeBrides 74 = .ok (.iconst (-1), 1) := by decide +kernel
theorem dX4_takeBrides_75 : decode cX4_takeBrides 75 = .ok (.if_icmp .ne 5, 3) := by decide +kernel
theorem dX4_takeBrides_78 : decode cX4_takeBrides 78 = .ok (.iconst (-1), 1) := by decide +kernel
theorem dX4_takeBrides_79 : decode cX4_takeBrides 79 = .ok (.ireturn, 1) := by decide +kernel
theorem dX4_takeBrides_80 : decode cX4_takeBrides 80 = .ok (.iload_n 2, 1) := by decide +kernel
theorem dX4_takeBrides_81 : decode cX4_takeBrides 81 = .ok (.iconst 1, 1) := by decide +kernel
theorem dX4_takeBrides_82 : decode cX4_takeBrides 82 = .ok (.iload 4, 2) := by decide +kernel
theorem dX4_takeBrides_84 : decode cX4_takeBrides 84 = .ok (.ishl, 1) := by decide +kernel
theorem dX4_takeBrides_85 : decode cX4_takeBrides 85 = .ok (.ior, 1) := by decide +kernel
theorem dX4_takeBrides_86 : decode cX4_takeBrides 86 = .ok (.istore_n 2, 1) := by decide +kernel
theorem dX4_takeBrides_87 : decode cX4_takeBrides 87 = .ok (.iinc 3 1, 3) := by decide +kernel
theorem dX4_takeBrides_90 : decode cX4_takeBrides 90 = .ok (.goto (-86), 3) := by decide +kernel
theorem dX4_takeBrides_93 : decode cX4_takeBrides 93 = .ok (.iload_n 2, 1) := by decide +kernel
theorem dX4_takeBrides_94 : decode cX4_takeBrides 94 = .ok (.ireturn, 1) := by decide +kernel
theorem dX4_readRain_0 : decode cX4_readRain 0 = .ok (.aload_n 0, 1) := by decide +kernel
theorem dX4_readRain_1 : decode cX4_readRain 1 = .ok (.invokevirtual 48, 3) := by decide +kernel
theorem dX4_readRain_4 : decode cX4_readRain 4 = .ok (.aload_n 0, 1) := by decide +kernel
theorem dX4_readRain_5 : decode cX4_readRain 5 = .ok (.iconst 0, 1) := by decide +kernel
theorem dX4_readRain_6 : decode cX4_readRain 6 = .ok (.aload_n 1, 1) := by decide +kernel
theorem dX4_readRain_7 : decode cX4_readRain 7 = .ok (.getfield 147, 3) := by decide +kernel
theorem dX4_readRain_10 : decode cX4_readRain 10 = .ok (.iconst 1, 1) := by decide +kernel
theorem dX4_readRain_11 : decode cX4_readRain 11 = .ok (.isub, 1) := by decide +kernel
theorem dX4_readRain_12 : decode cX4_readRain 12 = .ok (.invokevirtual 140, 3) := by decide +kernel
theorem dX4_readRain_15 : decode cX4_readRain 15 = .ok (.istore_n 2, 1) := by decide +kernel
theorem dX4_readRain_16 : decode cX4_readRain 16 = .ok (.iload_n 2, 1) := by decide +kernel
theorem dX4_readRain_17 : decode cX4_readRain 17 = .ok (.iconst (-1), 1) := by decide +kernel
theorem dX4_readRain_18 : decode cX4_readRain 18 = .ok (.if_icmp .ne 5, 3) := by decide +kernel
theorem dX4_readRain_21 : decode cX4_readRain 21 = .ok (.iconst 0, 1) := by decide +kernel
theorem dX4_readRain_22 : decode cX4_readRain 22 = .ok (.ireturn, 1) := by decide +kernel
theorem dX4_readRain_23 : decode cX4_readRain 23 = .ok (.aload_n 0, 1) := by decide +kernel
theorem dX4_readRain_24 : decode cX4_readRain 24 = .ok (.ldc 189, 2) := by decide +kernel
theorem dX4_readRain_26 : decode cX4_readRain 26 = .ok (.invokevirtual 137, 3) := by decide +kernel
theorem dX4_readRain_29 : decode cX4_readRain 29 = .ok (.ifCond .eq 13, 3) := by decide +kernel
theorem dX4_readRain_32 : decode cX4_readRain 32 = .ok (.aload_n 0, 1) := by decide +kernel
theorem dX4_readRain_33 : decode cX4_readRain 33 = .ok (.iconst 0, 1) := by decide +kernel
theorem dX4_readRain_34 : decode cX4_readRain 34 = .ok (.bipush 100, 2) := by decide +kernel
theorem dX4_readRain_36 : decode cX4_readRain 36 = .ok (.invokevirtual 140, 3) := by decide +kernel
theorem dX4_readRain_39 : decode cX4_readRain 39 = .ok (.goto 4, 3) := by decide +kernel
theorem dX4_readRain_42 : decode cX4_readRain 42 = .ok (.iconst (-1), 1) := by decide +kernel
theorem dX4_readRain_43 : decode cX4_readRain 43 = .ok (.istore_n 3, 1) := by decide +kernel
theorem dX4_readRain_44 : decode cX4_readRain 44 = .ok (.iload_n 3, 1) := by decide +kernel
theorem dX4_readRain_45 : decode cX4_readRain 45 = .ok (.iconst (-1), 1) := by decide +kernel
theorem dX4_readRain_46 : decode cX4_readRain 46 = .ok (.if_icmp .ne 5, 3) := by decide +kernel
theorem dX4_readRain_49 : decode cX4_readRain 49 = .ok (.iconst 0, 1) := by decide +kernel
theorem dX4_readRain_50 : decode cX4_readRain 50 = .ok (.ireturn, 1) := by decide +kernel
theorem dX4_readRain_51 : decode cX4_readRain 51 = .ok (.aload_n 1, 1) := by decide +kernel
theorem dX4_readRain_52 : decode cX4_readRain 52 = .ok (.getfield 191, 3) := by decide +kernel
theorem dX4_readRain_55 : decode cX4_readRain 55 = .ok (.iload_n 2, 1) := by decide +kernel
theorem dX4_readRain_56 : decode cX4_readRain 56 = .ok (.iload_n 3, 1) := by decide +kernel
theorem dX4_readRain_57 : decode cX4_readRain 57 = .ok (.iastore, 1) := by decide +kernel
theorem dX4_readRain_58 : decode cX4_readRain 58 = .ok (.iconst 1, 1) := by decide +kernel
theorem dX4_readRain_59 : decode cX4_readRain 59 = .ok (.ireturn, 1) := by decide +kernel
theorem dX4_readWalker_0 : decode cX4_readWalker 0 = .ok (.aload_n 0, 1) := by decide +kernel
theorem dX4_readWalker_1 : decode cX4_readWalker 1 = .ok (.invokevirtual 48, 3) := by decide +kernel
theorem dX4_readWalker_4 : decode cX4_readWalker 4 = .ok (.aload_n 0, 1) := by decide +kernel
theorem dX4_readWalker_5 : decode cX4_readWalker 5 = .ok (.ldc 193, 2) := by decide +kernel
theorem dX4_readWalker_7 : decode cX4_readWalker 7 = .ok (.invokevirtual 137, 3) := by decide +kernel
theorem dX4_readWalker_10 : decode cX4_readWalker 10 = .ok (.ifCond .eq 13, 3) := by decide +kernel
theorem dX4_readWalker_13 : decode cX4_readWalker 13 = .ok (.aload_n 0, 1) := by decide +kernel
theorem dX4_readWalker_14 : decode cX4_readWalker 14 = .ok (.iconst 0, 1) := by decide +kernel
theorem dX4_readWalker_15 : decode cX4_readWalker 15 = .ok (.bipush 99, 2) := by decide +kernel
theorem dX4_readWalker_17 : decode cX4_readWalker 17 = .ok (.invokevirtual 140, 3) := by decide +kernel
theorem dX4_readWalker_20 : decode cX4_readWalker 20 = .ok (.goto 4, 3) := by decide +kernel
theorem dX4_readWalker_23 : decode cX4_readWalker 23 = .ok (.iconst (-1), 1) := by decide +kernel
theorem dX4_readWalker_24 : decode cX4_readWalker 24 = .ok (.istore_n 2, 1) := by decide +kernel
theorem dX4_readWalker_25 : decode cX4_readWalker 25 = .ok (.iload_n 2, 1) := by decide +kernel
theorem dX4_readWalker_26 : decode cX4_readWalker 26 = .ok (.iconst (-1), 1) := by decide +kernel
theorem dX4_readWalker_27 : decode cX4_readWalker 27 = .ok (.if_icmp .ne 5, 3) := by decide +kernel
theorem dX4_readWalker_30 : decode cX4_readWalker 30 = .ok (.iconst 0, 1) := by decide +kernel
theorem dX4_readWalker_31 : decode cX4_readWalker 31 = .ok (.ireturn, 1) := by decide +kernel
theorem dX4_readWalker_32 : decode cX4_readWalker 32 = .ok (.aload_n 0, 1) := by decide +kernel
theorem dX4_readWalker_33 : decode cX4_readWalker 33 = .ok (.ldc 195, 2) := by decide +kernel
theorem dX4_readWalker_35 : decode cX4_readWalker 35 = .ok (.invokevirtual 137, 3) := by decide +kernel
theorem dX4_readWalker_38 : decode cX4_readWalker 38 = .ok (.ifCond .eq 17, 3) := by decide +kernel
theorem dX4_readWalker_41 : decode cX4_readWalker 41 = .ok (.aload_n 0, 1) := by decide +kernel
theorem dX4_readWalker_42 : decode cX4_readWalker 42 = .ok (.iconst 0, 1) := by decide +kernel
theorem dX4_readWalker_43 : decode cX4_readWalker 43 = .ok (.aload_n 1, 1) := by decide +kernel
theorem dX4_readWalker_44 : decode cX4_readWalker 44 = .ok (.getfield 145, 3) := by decide +kernel
theorem dX4_readWalker_47 : decode cX4_readWalker 47 = .ok (.iconst 1, 1) := by decide +kernel
theorem dX4_readWalker_48 : decode cX4_readWalker 48 = .ok (.isub, 1) := by decide +kernel
theorem dX4_readWalker_49 : decode cX4_readWalker 49 = .ok (.invokevirtual 140, 3) := by decide +kernel
theorem dX4_readWalker_52 : decode cX4_readWalker 52 = .ok (.goto 4, 3) := by decide +kernel
theorem dX4_readWalker_55 : decode cX4_readWalker 55 = .ok (.iconst (-1), 1) := by decide +kernel
theorem dX4_readWalker_56 : decode cX4_readWalker 56 = .ok (.istore_n 3, 1) := by decide +kernel
theorem dX4_readWalker_57 : decode cX4_readWalker 57 = .ok (.iload_n 3, 1) := by decide +kernel
theorem dX4_readWalker_58 : decode cX4_readWalker 58 = .ok (.iconst (-1), 1) := by decide +kernel
theorem dX4_readWalker_59 : decode cX4_readWalker 59 = .ok (.if_icmp .ne 5, 3) := by decide +kernel
theorem dX4_readWalker_62 : decode cX4_readWalker 62 = .ok (.iconst 0, 1) := by decide +kernel
theorem dX4_readWalker_63 : decode cX4_readWalker 63 = .ok (.ireturn, 1) := by decide +kernel
theorem dX4_readWalker_64 : decode cX4_readWalker 64 = .ok (.aload_n 1, 1) := by decide +kernel
theorem dX4_readWalker_65 : decode cX4_readWalker 65 = .ok (.getfield 197, 3) := by decide +kernel
theorem dX4_readWalker_68 : decode cX4_readWalker 68 = .ok (.aload_n 1, 1) := by decide +kernel
theorem dX4_readWalker_69 : decode cX4_readWalker 69 = .ok (.getfield 124, 3) := by decide +kernel
theorem dX4_readWalker_72 : decode cX4_readWalker 72 = .ok (.iload_n 2, 1) := by decide +kernel
theorem dX4_readWalker_73 : decode cX4_readWalker 73 = .ok (.iastore, 1) := by decide +kernel
theorem dX4_readWalker_74 : decode cX4_readWalker 74 = .ok (.aload_n 1, 1) := by decide +kernel
theorem dX4_readWalker_75 : decode cX4_readWalker 75 = .ok (.getfield 200, 3) := by decide +kernel
theorem dX4_readWalker_78 : decode cX4_readWalker 78 = .ok (.aload_n 1, 1) := by decide +kernel
theorem dX4_readWalker_79 : decode cX4_readWalker 79 = .ok (.getfield 124, 3) := by decide +kernel
theorem dX4_readWalker_82 : decode cX4_readWalker 82 = .ok (.iload_n 3, 1) := by decide +kernel
theorem dX4_readWalker_83 : decode cX4_readWalker 83 = .ok (.iastore, 1) := by decide +kernel
theorem dX4_readWalker_84 : decode cX4_readWalker 84 = .ok (.aload_n 1, 1) := by decide +kernel
theorem dX4_readWalker_85 : decode cX4_readWalker 85 = .ok (.dup, 1) := by decide +kernel
theorem dX4_readWalker_86 : decode cX4_readWalker 86 = .ok (.getfield 124, 3) := by decide +kernel
theorem dX4_readWalker_89 : decode cX4_readWalker 89 = .ok (.iconst 1, 1) := by decide +kernel
theorem dX4_readWalker_90 : decode cX4_readWalker 90 = .ok (.iadd, 1) := by decide +kernel
theorem dX4_readWalker_91 : decode cX4_readWalker 91 = .ok (.putfield 124, 3) := by decide +kernel
theorem dX4_readWalker_94 : decode cX4_readWalker 94 = .ok (.iconst 1, 1) := by decide +kernel
theorem dX4_readWalker_95 : decode cX4_readWalker 95 = .ok (.ireturn, 1) := by decide +kernel
theorem dX4_readCourt_0 : decode cX4_readCourt 0 = .ok (.aload_n 0, 1) := by decide +kernel
theorem dX4_readCourt_1 : decode cX4_readCourt 1 = .ok (.invokevirtual 48, 3) := by decide +kernel
theorem dX4_readCourt_4 : decode cX4_readCourt 4 = .ok (.aload_n 0, 1) := by decide +kernel
theorem dX4_readCourt_5 : decode cX4_readCourt 5 = .ok (.iconst 0, 1) := by decide +kernel
theorem dX4_readCourt_6 : decode cX4_readCourt 6 = .ok (.aload_n 1, 1) := by decide +kernel
theorem dX4_readCourt_7 : decode cX4_readCourt 7 = .ok (.getfield 111, 3) := by decide +kernel
theorem dX4_readCourt_10 : decode cX4_readCourt 10 = .ok (.iconst 1, 1) := by decide +kernel
theorem dX4_readCourt_11 : decode cX4_readCourt 11 = .ok (.isub, 1) := by decide +kernel
theorem dX4_readCourt_12 : decode cX4_readCourt 12 = .ok (.invokevirtual 140, 3) := by decide +kernel
theorem dX4_readCourt_15 : decode cX4_readCourt 15 = .ok (.istore_n 2, 1) := by decide +kernel
theorem dX4_readCourt_16 : decode cX4_readCourt 16 = .ok (.iload_n 2, 1) := by decide +kernel
theorem dX4_readCourt_17 : decode cX4_readCourt 17 = .ok (.iconst (-1), 1) := by decide +kernel
theorem dX4_readCourt_18 : decode cX4_readCourt 18 = .ok (.if_icmp .ne 5, 3) := by decide +kernel
theorem dX4_readCourt_21 : decode cX4_readCourt 21 = .ok (.iconst 0, 1) := by decide +kernel
theorem dX4_readCourt_22 : decode cX4_readCourt 22 = .ok (.ireturn, 1) := by decide +kernel
theorem dX4_readCourt_23 : decode cX4_readCourt 23 = .ok (.aload_n 0, 1) := by decide +kernel
theorem dX4_readCourt_24 : decode cX4_readCourt 24 = .ok (.getfield 22, 3) := by decide +kernel
theorem dX4_readCourt_27 : decode cX4_readCourt 27 = .ok (.iconst 2, 1) := by decide +kernel
theorem dX4_readCourt_28 : decode cX4_readCourt 28 = .ok (.if_icmp .ne 21, 3) := by decide +kernel
theorem dX4_readCourt_31 : decode cX4_readCourt 31 = .ok (.aload_n 1, 1) := by decide +kernel
theorem dX4_readCourt_32 : decode cX4_readCourt 32 = .ok (.iload_n 2, 1) := by decide +kernel
theorem dX4_readCourt_33 : decode cX4_readCourt 33 = .ok (.aload_n 0, 1) := by decide +kernel
theorem dX4_readCourt_34 : decode cX4_readCourt 34 = .ok (.getfield 28, 3) := by decide +kernel
theorem dX4_readCourt_37 : decode cX4_readCourt 37 = .ok (.invokevirtual 203, 3) := by decide +kernel
theorem dX4_readCourt_40 : decode cX4_readCourt 40 = .ok (.ifCond .ne 9, 3) := by decide +kernel
theorem dX4_readCourt_43 : decode cX4_readCourt 43 = .ok (.aload_n 0, 1) := by decide +kernel
theorem dX4_readCourt_44 : decode cX4_readCourt 44 = .ok (.iconst 2, 1) := by decide +kernel
theorem dX4_readCourt_45 : decode cX4_readCourt 45 = .ok (.invokevirtual 75, 3) := by decide +kernel
theorem dX4_readCourt_48 : decode cX4_readCourt 48 = .ok (.ireturn, 1) := by decide +kernel
theorem dX4_readCourt_49 : decode cX4_readCourt 49 = .ok (.aload_n 0, 1) := by decide +kernel
theorem dX4_readCourt_50 : decode cX4_readCourt 50 = .ok (.iconst 0, 1) := by decide +kernel
theorem dX4_readCourt_51 : decode cX4_readCourt 51 = .ok (.aload_n 1, 1) := by decide +kernel
theorem dX4_readCourt_52 : decode cX4_readCourt 52 = .ok (.getfield 103, 3) := by decide +kernel
theorem dX4_readCourt_55 : decode cX4_readCourt 55 = .ok (.iconst 1, 1) := by decide +kernel
theorem dX4_readCourt_56 : decode cX4_readCourt 56 = .ok (.isub, 1) := by decide +kernel
theorem dX4_readCourt_57 : decode cX4_readCourt 57 = .ok (.invokevirtual 140, 3) := by decide +kernel
theorem dX4_readCourt_60 : decode cX4_readCourt 60 = .ok (.istore_n 3, 1) := by decide +kernel
theorem dX4_readCourt_61 : decode cX4_readCourt 61 = .ok (.iload_n 3, 1) := by decide +kernel
theorem dX4_readCourt_62 : decode cX4_readCourt 62 = .ok (.iconst (-1), 1) := by decide +kernel
theorem dX4_readCourt_63 : decode cX4_readCourt 63 = .ok (.if_icmp .ne 5, 3) := by decide +kernel
theorem dX4_readCourt_66 : decode cX4_readCourt 66 = .ok (.iconst 0, 1) := by decide +kernel
theorem dX4_readCourt_67 : decode cX4_readCourt 67 = .ok (.ireturn, 1) := by decide +kernel
theorem dX4_readCourt_68 : decode cX4_readCourt 68 = .ok (.aload_n 1, 1) := by decide +kernel
theorem dX4_readCourt_69 : decode cX4_readCourt 69 = .ok (.getfield 207, 3) := by decide +kernel
theorem dX4_readCourt_72 : decode cX4_readCourt 72 = .ok (.iload_n 2, 1) := by decide +kernel
theorem dX4_readCourt_73 : decode cX4_readCourt 73 = .ok (.iload_n 3, 1) := by decide +kernel
theorem dX4_readCourt_74 : decode cX4_readCourt 74 = .ok (.iastore, 1) := by decide +kernel
theorem dX4_readCourt_75 : decode cX4_readCourt 75 = .ok (.iconst 1, 1) := by decide +kernel
theorem dX4_readCourt_76 : decode cX4_readCourt 76 = .ok (.ireturn, 1) := by decide +kernel
theorem dX5_init_0 : decode cX5_init 0 = .ok (.aload_n 0, 1) := by decide +kernel
theorem dX5_init_1 : decode cX5_init 1 = .ok (.invokespecial 3, 3) := by decide +kernel
theorem dX5_init_4 : decode cX5_init 4 = .ok (.aload_n 0, 1) := by decide +kernel
theorem dX5_init_5 : decode cX5_init 5 = .ok (.bipush 7, 2) := by decide +kernel
theorem dX5_init_7 : decode cX5_init 7 = .ok (.newarray .int, 2) := by decide +kernel
theorem dX5_init_9 : decode cX5_init 9 = .ok (.putfield 9, 3) := by decide +kernel
theorem dX5_init_12 : decode cX5_init 12 = .ok (.aload_n 0, 1) := by decide +kernel
theorem dX5_init_13 : decode cX5_init 13 = .ok (.bipush 35, 2) := by decide +kernel
theorem dX5_init_15 : decode cX5_init 15 = .ok (.newarray .long, 2) := by decide +kernel
theorem dX5_init_17 : decode cX5_init 17 = .ok (.putfield 15, 3) := by decide +kernel
theorem dX5_init_20 : decode cX5_init 20 = .ok (.aload_n 0, 1) := by decide +kernel
theorem dX5_init_21 : decode cX5_init 21 = .ok (.bipush 8, 2) := by decide +kernel
theorem dX5_init_23 : decode cX5_init 23 = .ok (.newarray .long, 2) := by decide +kernel
theorem dX5_init_25 : decode cX5_init 25 = .ok (.putfield 19, 3) := by decide +kernel
theorem dX5_init_28 : decode cX5_init 28 = .ok (.aload_n 0, 1) := by decide +kernel
theorem dX5_init_29 : decode cX5_init 29 = .ok (.bipush 8, 2) := by decide +kernel
theorem dX5_init_31 : decode cX5_init 31 = .ok (.newarray .int, 2) := by decide +kernel
theorem dX5_init_33 : decode cX5_init 33 = .ok (.putfield 22, 3) := by decide +kernel
theorem dX5_init_36 : decode cX5_init 36 = .ok (.aload_n 0, 1) := by decide +kernel
theorem dX5_init_37 : decode cX5_init 37 = .ok (.bipush 7, 2) := by decide +kernel
theorem dX5_init_39 : decode cX5_init 39 = .ok (.newarray .int, 2) := by decide +kernel
theorem dX5_init_41 : decode cX5_init 41 = .ok (.putfield 25, 3) := by decide +kernel
theorem dX5_init_44 : decode cX5_init 44 = .ok (.aload_n 0, 1) := by decide +kernel
theorem dX5_init_45 : decode cX5_init 45 = .ok (.bipush 7, 2) := by decide +kernel
theorem dX5_init_47 : decode cX5_init 47 = .ok (.newarray .int, 2) := by decide +kernel
theorem dX5_init_49 : decode cX5_init 49 = .ok (.putfield 28, 3) := by decide +kernel
theorem dX5_init_52 : decode cX5_init 52 = .ok (.aload_n 0, 1) := by decide +kernel
theorem dX5_init_53 : decode cX5_init 53 = .ok (.bipush 7, 2) := by decide +kernel
theorem dX5_init_55 : decode cX5_init 55 = .ok (.newarray .int, 2) := by decide +kernel
theorem dX5_init_57 : decode cX5_init 57 = .ok (.putfield 31, 3) := by decide +kernel
theorem dX5_init_60 : decode cX5_init 60 = .ok (.return_, 1) := by decide +kernel
theorem dX5_seek_0 : decode cX5_seek 0 = .ok (.aload_n 0, 1) := by decide +kernel
theorem dX5_seek_1 : decode cX5_seek 1 = .ok (.aload_n 1, 1) := by decide +kernel
theorem dX5_seek_2 : decode cX5_seek 2 = .ok (.getfield 34, 3) := by decide +kernel
theorem dX5_seek_5 : decode cX5_seek 5 = .ok (.putfield 40, 3) := by decide +kernel
theorem dX5_seek_8 : decode cX5_seek 8 = .ok (.aload_n 0, 1) := by decide +kernel
theorem dX5_seek_9 : decode cX5_seek 9 = .ok (.iconst 0, 1) := by decide +kernel
theorem dX5_seek_10 : decode cX5_seek 10 = .ok (.putfield 41, 3) := by decide +kernel
theorem dX5_seek_13 : decode cX5_seek 13 = .ok (.aload_n 0, 1) := by decide +kernel
theorem dX5_seek_14 : decode cX5_seek 14 = .ok (.iconst (-1), 1) := by decide +kernel
theorem dX5_seek_15 : decode cX5_seek 15 = .ok (.putfield 44, 3) := by decide +kernel
theorem dX5_seek_18 : decode cX5_seek 18 = .ok (.aload_n 0, 1) := by decide +kernel
theorem dX5_seek_19 : decode cX5_seek 19 = .ok (.iconst (-1), 1) := by decide +kernel
theorem dX5_seek_20 : decode cX5_seek 20 = .ok (.putfield 47, 3) := by decide +kernel
theorem dX5_seek_23 : decode cX5_seek 23 = .ok (.aload_n 0, 1) := by decide +kernel
theorem dX5_seek_24 : decode cX5_seek 24 = .ok (.getfield 28, 3) := by decide +kernel
theorem dX5_seek_27 : decode cX5_seek 27 = .ok (.iconst (-1), 1) := by decide +kernel
theorem dX5_seek_28 : decode cX5_seek 28 = .ok (.invokestatic 50, 3) := by decide +kernel
theorem dX5_seek_31 : decode cX5_seek 31 = .ok (.aload_n 0, 1) := by decide +kernel
theorem dX5_seek_32 : decode cX5_seek 32 = .ok (.getfield 31, 3) := by decide +kernel
theorem dX5_seek_35 : decode cX5_seek 35 = .ok (.iconst 0, 1) := by decide +kernel
theorem dX5_seek_36 : decode cX5_seek 36 = .ok (.invokestatic 50, 3) := by decide +kernel
theorem dX5_seek_39 : decode cX5_seek 39 = .ok (.aload_n 0, 1) := by decide +kernel
theorem dX5_seek_40 : decode cX5_seek 40 = .ok (.getfield 19, 3) := by decide +kernel
theorem dX5_seek_43 : decode cX5_seek 43 = .ok (.aload_n 0, 1) := by decide +kernel
theorem dX5_seek_44 : decode cX5_seek 44 = .ok (.getfield 40, 3) := by decide +kernel
theorem dX5_seek_47 : decode cX5_seek 47 = .ok (.lconst 0, 1) := by decide +kernel
theorem dX5_seek_48 : decode cX5_seek 48 = .ok (.lastore, 1) := by decide +kernel
theorem dX5_seek_49 : decode cX5_seek 49 = .ok (.aload_n 0, 1) := by decide +kernel
theorem dX5_seek_50 : decode cX5_seek 50 = .ok (.getfield 22, 3) := by decide +kernel
theorem dX5_seek_53 : decode cX5_seek 53 = .ok (.aload_n 0, 1) := by decide +kernel
theorem dX5_seek_54 : decode cX5_seek 54 = .ok (.getfield 40, 3) := by decide +kernel
theorem dX5_seek_57 : decode cX5_seek 57 = .ok (.iconst 1, 1) := by decide +kernel
theorem dX5_seek_58 : decode cX5_seek 58 = .ok (.iastore, 1) := by decide +kernel
theorem dX5_seek_59 : decode cX5_seek 59 = .ok (.aload_n 0, 1) := by decide +kernel
theorem dX5_seek_60 : decode cX5_seek 60 = .ok (.getfield 40, 3) := by decide +kernel
theorem dX5_seek_63 : decode cX5_seek 63 = .ok (.iconst 1, 1) := by decide +kernel
theorem dX5_seek_64 : decode cX5_seek 64 = .ok (.isub, 1) := by decide +kernel
theorem dX5_seek_65 : decode cX5_seek 65 = .ok (.istore_n 3, 1) := by decide +kernel
theorem dX5_seek_66 : decode cX5_seek 66 = .ok (.iload_n 3, 1) := by decide +kernel
theorem dX5_seek_67 : decode cX5_seek 67 = .ok (.ifCond .lt 71, 3) := by decide +kernel
theorem dX5_seek_70 : decode cX5_seek 70 = .ok (.aload_n 0, 1) := by decide +kernel
theorem dX5_seek_71 : decode cX5_seek 71 = .ok (.getfield 9, 3) := by decide +kernel
theorem dX5_seek_74 : decode cX5_seek 74 = .ok (.iload_n 3, 1) := by decide +kernel
theorem dX5_seek_75 : decode cX5_seek 75 = .ok (.aload_n 1, 1) := by decide +kernel
theorem dX5_seek_76 : decode cX5_seek 76 = .ok (.getfield 56, 3) := by decide +kernel
theorem dX5_seek_79 : decode cX5_seek 79 = .ok (.iload_n 3, 1) := by decide +kernel
theorem dX5_seek_80 : decode cX5_seek 80 = .ok (.iaload, 1) := by decide +kernel
theorem dX5_seek_81 : decode cX5_seek 81 = .ok (.iconst 1, 1) := by decide +kernel
theorem dX5_seek_82 : decode cX5_seek 82 = .ok (.ishl, 1) := by decide +kernel
theorem dX5_seek_83 : decode cX5_seek 83 = .ok (.iconst 1, 1) := by decide +kernel
theorem dX5_seek_84 : decode cX5_seek 84 = .ok (.ior, 1) := by decide +kernel
theorem dX5_seek_85 : decode cX5_seek 85 = .ok (.iastore, 1) := by decide +kernel
theorem dX5_seek_86 : decode cX5_seek 86 = .ok (.aload_n 0, 1) := by decide +kernel
theorem dX5_seek_87 : decode cX5_seek 87 = .ok (.getfield 19, 3) := by decide +kernel
theorem dX5_seek_90 : decode cX5_seek 90 = .ok (.iload_n 3, 1) := by decide +kernel
theorem dX5_seek_91 : decode cX5_seek 91 = .ok (.aload_n 0, 1) := by decide +kernel
theorem dX5_seek_92 : decode cX5_seek 92 = .ok (.getfield 19, 3) := by decide +kernel
theorem dX5_seek_95 : decode cX5_seek 95 = .ok (.iload_n 3, 1) := by decide +kernel
theorem dX5_seek_96 : decode cX5_seek 96 = .ok (.iconst 1, 1) := by decide +kernel
theorem dX5_seek_97 : decode cX5_seek 97 = .ok (.iadd, 1) := by decide +kernel
theorem dX5_seek_98 : decode cX5_seek 98 = .ok (.laload, 1) := by decide +kernel
theorem dX5_seek_99 : decode cX5_seek 99 = .ok (.aload_n 0, 1) := by decide +kernel
theorem dX5_seek_100 : decode cX5_seek 100 = .ok (.aload_n 1, 1) := by decide +kernel
theorem dX5_seek_101 : decode cX5_seek 101 = .ok (.aload_n 2, 1) := by decide +kernel
theorem dX5_seek_102 : decode cX5_seek 102 = .ok (.iload_n 3, 1) := by decide +kernel
theorem dX5_seek_103 : decode cX5_seek 103 = .ok (.invokevirtual 59, 3) := by decide +kernel
theorem dX5_seek_106 : decode cX5_seek 106 = .ok (.ladd, 1) := by decide +kernel
theorem dX5_seek_107 : decode cX5_seek 107 = .ok (.lastore, 1) := by decide +kernel
theorem dX5_seek_108 : decode cX5_seek 108 = .ok (.aload_n 0, 1) := by decide +kernel
theorem dX5_seek_109 : decode cX5_seek 109 = .ok (.getfield 22, 3) := by decide +kernel
theorem dX5_seek_112 : decode cX5_seek 112 = .ok (.iload_n 3, 1) := by decide +kernel
theorem dX5_seek_113 : decode cX5_seek 113 = .ok (.aload_n 0, 1) := by decide +kernel
theorem dX5_seek_114 : decode cX5_seek 114 = .ok (.getfield 22, 3) := by decide +kernel
theorem dX5_seek_117 : decode cX5_seek 117 = .ok (.iload_n 3, 1) := by decide +kernel
theorem dX5_seek_118 : decode cX5_seek 118 = .ok (.iconst 1, 1) := by decide +kernel
theorem dX5_seek_119 : decode cX5_seek 119 = .ok (.iadd, 1) := by decide +kernel
theorem dX5_seek_120 : decode cX5_seek 120 = .ok (.iaload, 1) := by decide +kernel
theorem dX5_seek_121 : decode cX5_seek 121 = .ok (.aload_n 0, 1) := by decide +kernel
theorem dX5_seek_122 : decode cX5_seek 122 = .ok (.getfield 9, 3) := by decide +kernel
theorem dX5_seek_125 : decode cX5_seek 125 = .ok (.iload_n 3, 1) := by decide +kernel
theorem dX5_seek_126 : decode cX5_seek 126 = .ok (.iaload, 1) := by decide +kernel
theorem dX5_seek_127 : decode cX5_seek 127 = .ok (.invokestatic 63, 3) := by decide +kernel
theorem dX5_seek_130 : decode cX5_seek 130 = .ok (.imul, 1) := by decide +kernel
theorem dX5_seek_131 : decode cX5_seek 131 = .ok (.iastore, 1) := by decide +kernel
theorem dX5_seek_132 : decode cX5_seek 132 = .ok (.iinc 3 (-1), 3) := by decide +kernel
theorem dX5_seek_135 : decode cX5_seek 135 = .ok (.goto (-69), 3) := by decide +kernel
theorem dX5_seek_138 : decode cX5_seek 138 = .ok (.aload_n 0, 1) := by decide +kernel
theorem dX5_seek_139 : decode cX5_seek 139 = .ok (.aload_n 2, 1) := by decide +kernel
theorem dX5_seek_140 : decode cX5_seek 140 = .ok (.iconst 0, 1) := by decide +kernel
theorem dX5_seek_141 : decode cX5_seek 141 = .ok (.lconst 0, 1) := by decide +kernel
theorem dX5_seek_142 : decode cX5_seek 142 = .ok (.iconst 0, 1) := by decide +kernel
theorem dX5_seek_143 : decode cX5_seek 143 = .ok (.iconst 0, 1) := by decide +kernel
theorem dX5_seek_144 : decode cX5_seek 144 = .ok (.invokestatic 69, 3) := by decide +kernel
theorem dX5_seek_147 : decode cX5_seek 147 = .ok (.return_, 1) := by decide +kernel
theorem dX5_addsOf_0 : decode cX5_addsOf 0 = .ok (.lconst 0, 1) := by decide +kernel
theorem dX5_addsOf_1 : decode cX5_addsOf 1 = .ok (.lstore 4, 2) := by decide +kernel
theorem dX5_addsOf_3 : decode cX5_addsOf 3 = .ok (.aload_n 0, 1) := by decide +kernel
theorem dX5_addsOf_4 : decode cX5_addsOf 4 = .ok (.getfield 15, 3) := by decide +kernel
theorem dX5_addsOf_7 : decode cX5_addsOf 7 = .ok (.iload_n 3, 1) := by decide +kernel
theorem dX5_addsOf_8 : decode cX5_addsOf 8 = .ok (.iconst 5, 1) := by decide +kernel
theorem dX5_addsOf_9 : decode cX5_addsOf 9 = .ok (.imul, 1) := by decide +kernel
theorem dX5_addsOf_10 : decode cX5_addsOf 10 = .ok (.lconst 0, 1) := by decide +kernel
theorem dX5_addsOf_11 : decode cX5_addsOf 11 = .ok (.lastore, 1) := by decide +kernel
theorem dX5_addsOf_12 : decode cX5_addsOf 12 = .ok (.iconst 0, 1) := by decide +kernel
theorem dX5_addsOf_13 : decode cX5_addsOf 13 = .ok (.istore 6, 2) := by decide +kernel
theorem dX5_addsOf_15 : decode cX5_addsOf 15 = .ok (.iload 6, 2) := by decide +kernel
theorem dX5_addsOf_17 : decode cX5_addsOf 17 = .ok (.aload_n 1, 1) := by decide +kernel
theorem dX5_addsOf_18 : decode cX5_addsOf 18 = .ok (.getfield 73, 3) := by decide +kernel
theorem dX5_addsOf_21 : decode cX5_addsOf 21 = .ok (.if_icmp .ge 51, 3) := by decide +kernel
theorem dX5_addsOf_24 : decode cX5_addsOf 24 = .ok (.aload_n 1, 1) := by decide +kernel
theorem dX5_addsOf_25 : decode cX5_addsOf 25 = .ok (.iload_n 3, 1) := by decide +kernel
theorem dX5_addsOf_26 : decode cX5_addsOf 26 = .ok (.iload 6, 2) := by decide +kernel
theorem dX5_addsOf_28 : decode cX5_addsOf 28 = .ok (.invokevirtual 76, 3) := by decide +kernel
theorem dX5_addsOf_31 : decode cX5_addsOf 31 = .ok (.ifCond .eq 35, 3) := by decide +kernel
theorem dX5_addsOf_34 : decode cX5_addsOf 34 = .ok (.aload_n 2, 1) := by decide +kernel
theorem dX5_addsOf_35 : decode cX5_addsOf 35 = .ok (.aload_n 1, 1) := by decide +kernel
theorem dX5_addsOf_36 : decode cX5_addsOf 36 = .ok (.iload_n 3, 1) := by decide +kernel
theorem dX5_addsOf_37 : decode cX5_addsOf 37 = .ok (.iload 6, 2) := by decide +kernel
theorem dX5_addsOf_39 : decode cX5_addsOf 39 = .ok (.invokevirtual 80, 3) := by decide +kernel
theorem dX5_addsOf_42 : decode cX5_addsOf 42 = .ok (.lstore 7, 2) := by decide +kernel
theorem dX5_addsOf_44 : decode cX5_addsOf 44 = .ok (.aload_n 0, 1) := by decide +kernel
theorem dX5_addsOf_45 : decode cX5_addsOf 45 = .ok (.getfield 15, 3) := by decide +kernel
theorem dX5_addsOf_48 : decode cX5_addsOf 48 = .ok (.iload_n 3, 1) := by decide +kernel
theorem dX5_addsOf_49 : decode cX5_addsOf 49 = .ok (.iconst 5, 1) := by decide +kernel
theorem dX5_addsOf_50 : decode cX5_addsOf 50 = .ok (.imul, 1) := by decide +kernel
theorem dX5_addsOf_51 : decode cX5_addsOf 51 = .ok (.iload 6, 2) := by decide +kernel
theorem dX5_addsOf_53 : decode cX5_addsOf 53 = .ok (.iadd, 1) := by decide +kernel
theorem dX5_addsOf_54 : decode cX5_addsOf 54 = .ok (.iconst 1, 1) := by decide +kernel
theorem dX5_addsOf_55 : decode cX5_addsOf 55 = .ok (.iadd, 1) := by decide +kernel
theorem dX5_addsOf_56 : decode cX5_addsOf 56 = .ok (.lload 7, 2) := by decide +kernel
theorem dX5_addsOf_58 : decode cX5_addsOf 58 = .ok (.lastore, 1) := by decide +kernel
theorem dX5_addsOf_59 : decode cX5_addsOf 59 = .ok (.lload 4, 2) := by decide +kernel
theorem dX5_addsOf_61 : decode cX5_addsOf 61 = .ok (.lload 7, 2) := by decide +kernel
theorem dX5_addsOf_63 : decode cX5_addsOf 63 = .ok (.lor, 1) := by decide +kernel
theorem dX5_addsOf_64 : decode cX5_addsOf 64 = .ok (.lstore 4, 2) := by decide +kernel
theorem dX5_addsOf_66 : decode cX5_addsOf 66 = .ok (.iinc 6 1, 3) := by decide +kernel
theorem dX5_addsOf_69 : decode cX5_addsOf 69 = .ok (.goto (-54), 3) := by decide +kernel
theorem dX5_addsOf_72 : decode cX5_addsOf 72 = .ok (.lload 4, 2) := by decide +kernel
theorem dX5_addsOf_74 : decode cX5_addsOf 74 = .ok (.lreturn, 1) := by decide +kernel
theorem dX5_chooseOn_0 : decode cX5_chooseOn 0 = .ok (.iload_n 2, 1) := by decide +kernel
theorem dX5_chooseOn_1 : decode cX5_chooseOn 1 = .ok (.aload_n 0, 1) := by decide +kernel
theorem dX5_chooseOn_2 : decode cX5_chooseOn 2 = .ok (.getfield 40, 3) := by decide +kernel
theorem dX5_chooseOn_5 : decode cX5_chooseOn 5 = .ok (.if_icmp .le 4, 3) := by decide +kernel
theorem dX5_chooseOn_8 : decode cX5_chooseOn 8 = .ok (.return_, 1) := by decide +kernel
theorem dX5_chooseOn_9 : decode cX5_chooseOn 9 = .ok (.aload_n 1, 1) := by decide +kernel
theorem dX5_chooseOn_10 : decode cX5_chooseOn 10 = .ok (.lload_n 3, 1) := by decide +kernel
theorem dX5_chooseOn_11 : decode cX5_chooseOn 11 = .ok (.lload_n 3, 1) := by decide +kernel
theorem dX5_chooseOn_12 : decode cX5_chooseOn 12 = .ok (.aload_n 0, 1) := by decide +kernel
theorem dX5_chooseOn_13 : decode cX5_chooseOn 13 = .ok (.getfield 19, 3) := by decide +kernel
theorem dX5_chooseOn_16 : decode cX5_chooseOn 16 = .ok (.iload_n 2, 1) := by decide +kernel
theorem dX5_chooseOn_17 : decode cX5_chooseOn 17 = .ok (.laload, 1) := by decide +kernel
theorem dX5_chooseOn_18 : decode cX5_chooseOn 18 = .ok (.ladd, 1) := by decide +kernel
theorem dX5_chooseOn_19 : decode cX5_chooseOn 19 = .ok (.invokevirtual 86, 3) := by decide +kernel
theorem dX5_chooseOn_22 : decode cX5_chooseOn 22 = .ok (.istore 7, 2) := by decide +kernel
theorem dX5_chooseOn_24 : decode cX5_chooseOn 24 = .ok (.iload 7, 2) := by decide +kernel
theorem dX5_chooseOn_26 : decode cX5_chooseOn 26 = .ok (.iconst 1, 1) := by decide +kernel
theorem dX5_chooseOn_27 : decode cX5_chooseOn 27 = .ok (.if_icmp .ne 12, 3) := by decide +kernel
theorem dX5_chooseOn_30 : decode cX5_chooseOn 30 = .ok (.aload_n 0, 1) := by decide +kernel
theorem dX5_chooseOn_31 : decode cX5_chooseOn 31 = .ok (.iload_n 2, 1) := by decide +kernel
theorem dX5_chooseOn_32 : decode cX5_chooseOn 32 = .ok (.iload 5, 2) := by decide +kernel
theorem dX5_chooseOn_34 : decode cX5_chooseOn 34 = .ok (.iload 6, 2) := by decide +kernel
theorem dX5_chooseOn_36 : decode cX5_chooseOn 36 = .ok (.invokevirtual 90, 3) := by decide +kernel
theorem dX5_chooseOn_39 : decode cX5_chooseOn 39 = .ok (.iload 7, 2) := by decide +kernel
theorem dX5_chooseOn_41 : decode cX5_chooseOn 41 = .ok (.iconst 2, 1) := by decide +kernel
theorem dX5_chooseOn_42 : decode cX5_chooseOn 42 = .ok (.if_icmp .ne 11, 3) := by decide +kernel
theorem dX5_chooseOn_45 : decode cX5_chooseOn 45 = .ok (.iload_n 2, 1) := by decide +kernel
theorem dX5_chooseOn_46 : decode cX5_chooseOn 46 = .ok (.aload_n 0, 1) := by decide +kernel
theorem dX5_chooseOn_47 : decode cX5_chooseOn 47 = .ok (.getfield 40, 3) := by decide +kernel
theorem dX5_chooseOn_50 : decode cX5_chooseOn 50 = .ok (.if_icmp .ne 4, 3) := by decide +kernel
theorem dX5_chooseOn_53 : decode cX5_chooseOn 53 = .ok (.return_, 1) := by decide +kernel
theorem dX5_chooseOn_54 : decode cX5_chooseOn 54 = .ok (.iconst 0, 1) := by decide +kernel
theorem dX5_chooseOn_55 : decode cX5_chooseOn 55 = .ok (.istore 8, 2) := by decide +kernel
theorem dX5_chooseOn_57 : decode cX5_chooseOn 57 = .ok (.iload 8, 2) := by decide +kernel
theorem dX5_chooseOn_59 : decode cX5_chooseOn 59 = .ok (.iconst 5, 1) := by decide +kernel
theorem dX5_chooseOn_60 : decode cX5_chooseOn 60 = .ok (.if_icmp .ge 90, 3) := by decide +kernel
theorem dX5_chooseOn_63 : decode cX5_chooseOn 63 = .ok (.aload_n 0, 1) := by decide +kernel
theorem dX5_chooseOn_64 : decode cX5_chooseOn 64 = .ok (.getfield 9, 3) := by decide +kernel
theorem dX5_chooseOn_67 : decode cX5_chooseOn 67 = .ok (.iload_n 2, 1) := by decide +kernel
theorem dX5_chooseOn_68 : decode cX5_chooseOn 68 = .ok (.iaload, 1) := by decide +kernel
theorem dX5_chooseOn_69 : decode cX5_chooseOn 69 = .ok (.iload 8, 2) := by decide +kernel
theorem dX5_chooseOn_71 : decode cX5_chooseOn 71 = .ok (.ishr, 1) := by decide +kernel
theorem dX5_chooseOn_72 : decode cX5_chooseOn 72 = .ok (.iconst 1, 1) := by decide +kernel
theorem dX5_chooseOn_73 : decode cX5_chooseOn 73 = .ok (.iand, 1) := by decide +kernel
theorem dX5_chooseOn_74 : decode cX5_chooseOn 74 = .ok (.iconst 1, 1) := by decide +kernel
theorem dX5_chooseOn_75 : decode cX5_chooseOn 75 = .ok (.if_icmp .ne 69, 3) := by decide +kernel
theorem dX5_chooseOn_78 : decode cX5_chooseOn 78 = .ok (.aload_n 0, 1) := by decide +kernel
theorem dX5_chooseOn_79 : decode cX5_chooseOn 79 = .ok (.getfield 25, 3) := by decide +kernel
theorem dX5_chooseOn_82 : decode cX5_chooseOn 82 = .ok (.iload_n 2, 1) := by decide +kernel
theorem dX5_chooseOn_83 : decode cX5_chooseOn 83 = .ok (.iload 8, 2) := by decide +kernel
theorem dX5_chooseOn_85 : decode cX5_chooseOn 85 = .ok (.iastore, 1) := by decide +kernel
theorem dX5_chooseOn_86 : decode cX5_chooseOn 86 = .ok (.lload_n 3, 1) := by decide +kernel
theorem dX5_chooseOn_87 : decode cX5_chooseOn 87 = .ok (.aload_n 0, 1) := by decide +kernel
theorem dX5_chooseOn_88 : decode cX5_chooseOn 88 = .ok (.getfield 15, 3) := by decide +kernel
theorem dX5_chooseOn_91 : decode cX5_chooseOn 91 = .ok (.iload_n 2, 1) := by decide +kernel
theorem dX5_chooseOn_92 : decode cX5_chooseOn 92 = .ok (.iconst 5, 1) := by decide +kernel
theorem dX5_chooseOn_93 : decode cX5_chooseOn 93 = .ok (.imul, 1) := by decide +kernel
theorem dX5_chooseOn_94 : decode cX5_chooseOn 94 = .ok (.iload 8, 2) := by decide +kernel
theorem dX5_chooseOn_96 : decode cX5_chooseOn 96 = .ok (.iadd, 1) := by decide +kernel
theorem dX5_chooseOn_97 : decode cX5_chooseOn 97 = .ok (.laload, 1) := by decide +kernel
theorem dX5_chooseOn_98 : decode cX5_chooseOn 98 = .ok (.ladd, 1) := by decide +kernel
theorem dX5_chooseOn_99 : decode cX5_chooseOn 99 = .ok (.lstore 9, 2) := by decide +kernel
theorem dX5_chooseOn_101 : decode cX5_chooseOn 101 = .ok (.iload 8, 2) := by decide +kernel
theorem dX5_chooseOn_103 : decode cX5_chooseOn 103 = .ok (.ifCond .ne 20, 3) := by decide +kernel
theorem dX5_chooseOn_106 : decode cX5_chooseOn 106 = .ok (.aload_n 0, 1) := by decide +kernel
theorem dX5_chooseOn_107 : decode cX5_chooseOn 107 = .ok (.aload_n 1, 1) := by decide +kernel
theorem dX5_chooseOn_108 : decode cX5_chooseOn 108 = .ok (.iload_n 2, 1) := by decide +kernel
theorem dX5_chooseOn_109 : decode cX5_chooseOn 109 = .ok (.iconst 1, 1) := by decide +kernel
theorem dX5_chooseOn_110 : decode cX5_chooseOn 110 = .ok (.iadd, 1) := by decide +kernel
theorem dX5_chooseOn_111 : decode cX5_chooseOn 111 = .ok (.lload 9, 2) := by decide +kernel
theorem dX5_chooseOn_113 : decode cX5_chooseOn 113 = .ok (.iload 5, 2) := by decide +kernel
theorem dX5_chooseOn_115 : decode cX5_chooseOn 115 = .ok (.iload 6, 2) := by decide +kernel
theorem dX5_chooseOn_117 : decode cX5_chooseOn 117 = .ok (.invokestatic 69, 3) := by decide +kernel
theorem dX5_chooseOn_120 : decode cX5_chooseOn 120 = .ok (.goto 24, 3) := by decide +kernel
theorem dX5_chooseOn_123 : decode cX5_chooseOn 123 = .ok (.aload_n 0, 1) := by decide +kernel
theorem dX5_chooseOn_124 : decode cX5_chooseOn 124 = .ok (.aload_n 1, 1) := by decide +kernel
theorem dX5_chooseOn_125 : decode cX5_chooseOn 125 = .ok (.iload_n 2, 1) := by decide +kernel
theorem dX5_chooseOn_126 : decode cX5_chooseOn 126 = .ok (.iconst 1, 1) := by decide +kernel
theorem dX5_chooseOn_127 : decode cX5_chooseOn 127 = .ok (.iadd, 1) := by decide +kernel
theorem dX5_chooseOn_128 : decode cX5_chooseOn 128 = .ok (.lload 9, 2) := by decide +kernel
theorem dX5_chooseOn_130 : decode cX5_chooseOn 130 = .ok (.iload 5, 2) := by decide +kernel
theorem dX5_chooseOn_132 : decode cX5_chooseOn 132 = .ok (.iconst 1, 1) := by decide +kernel
theorem dX5_chooseOn_133 : decode cX5_chooseOn 133 = .ok (.iload 8, 2) := by decide +kernel
theorem dX5_chooseOn_135 : decode cX5_chooseOn 135 = .ok (.ishl, 1) := by decide +kernel
theorem dX5_chooseOn_136 : decode cX5_chooseOn 136 = .ok (.ior, 1) := by decide +kernel
theorem dX5_chooseOn_137 : decode cX5_chooseOn 137 = .ok (.iload 6, 2) := by decide +kernel
theorem dX5_chooseOn_139 : decode cX5_chooseOn 139 = .ok (.iconst 1, 1) := by decide +kernel
theorem dX5_chooseOn_140 : decode cX5_chooseOn 140 = .ok (.iadd, 1) := by decide +kernel
theorem dX5_chooseOn_141 : decode cX5_chooseOn 141 = .ok (.invokestatic 69, 3) := by decide +kernel
theorem dX5_chooseOn_144 : decode cX5_chooseOn 144 = .ok (.iinc 8 1, 3) := by decide +kernel
theorem dX5_chooseOn_147 : decode cX5_chooseOn 147 = .ok (.goto (-90), 3) := by decide +kernel
theorem dX5_chooseOn_150 : decode cX5_chooseOn 150 = .ok (.return_, 1) := by decide +kernel
theorem dX5_noteAll_0 : decode cX5_noteAll 0 = .ok (.iload_n 3, 1) := by decide +kernel
theorem dX5_noteAll_1 : decode cX5_noteAll 1 = .ok (.iload_n 2, 1) := by decide +kernel
theorem dX5_noteAll_2 : decode cX5_noteAll 2 = .ok (.invokestatic 63, 3) := by decide +kernel
theorem dX5_noteAll_5 : decode cX5_noteAll 5 = .ok (.isub, 1) := by decide +kernel
theorem dX5_noteAll_6 : decode cX5_noteAll 6 = .ok (.istore 4, 2) := by decide +kernel
theorem dX5_noteAll_8 : decode cX5_noteAll 8 = .ok (.aload_n 0, 1) := by decide +kernel
theorem dX5_noteAll_9 : decode cX5_noteAll 9 = .ok (.getfield 44, 3) := by decide +kernel
theorem dX5_noteAll_12 : decode cX5_noteAll 12 = .ok (.iconst (-1), 1) := by decide +kernel
theorem dX5_noteAll_13 : decode cX5_noteAll 13 = .ok (.if_icmp .eq 12, 3) := by decide +kernel
theorem dX5_noteAll_16 : decode cX5_noteAll 16 = .ok (.iload 4, 2) := by decide +kernel
theorem dX5_noteAll_18 : decode cX5_noteAll 18 = .ok (.aload_n 0, 1) := by decide +kernel
theorem dX5_noteAll_19 : decode cX5_noteAll 19 = .ok (.getfield 44, 3) := by decide +kernel
theorem dX5_noteAll_22 : decode cX5_noteAll 22 = .ok (.if_icmp .ge 7, 3) := by decide +kernel
theorem dX5_noteAll_25 : decode cX5_noteAll 25 = .ok (.iconst 1, 1) := by decide +kernel
theorem dX5_noteAll_26 : decode cX5_noteAll 26 = .ok (.goto 4, 3) := by decide +kernel
theorem dX5_noteAll_29 : decode cX5_noteAll 29 = .ok (.iconst 0, 1) := by decide +kernel
theorem dX5_noteAll_30 : decode cX5_noteAll 30 = .ok (.istore 5, 2) := by decide +kernel
theorem dX5_noteAll_32 : decode cX5_noteAll 32 = .ok (.aload_n 0, 1) := by decide +kernel
theorem dX5_noteAll_33 : decode cX5_noteAll 33 = .ok (.dup, 1) := by decide +kernel
theorem dX5_noteAll_34 : decode cX5_noteAll 34 = .ok (.getfield 41, 3) := by decide +kernel
theorem dX5_noteAll_37 : decode cX5_noteAll 37 = .ok (.aload_n 0, 1) := by decide +kernel
theorem dX5_noteAll_38 : decode cX5_noteAll 38 = .ok (.getfield 22, 3) := by decide +kernel
theorem dX5_noteAll_41 : decode cX5_noteAll 41 = .ok (.iload_n 1, 1) := by decide +kernel
theorem dX5_noteAll_42 : decode cX5_noteAll 42 = .ok (.iaload, 1) := by decide +kernel
theorem dX5_noteAll_43 : decode cX5_noteAll 43 = .ok (.iadd, 1) := by decide +kernel
theorem dX5_noteAll_44 : decode cX5_noteAll 44 = .ok (.putfield 41, 3) := by decide +kernel
theorem dX5_noteAll_47 : decode cX5_noteAll 47 = .ok (.aload_n 0, 1) := by decide +kernel
theorem dX5_noteAll_48 : decode cX5_noteAll 48 = .ok (.aload_n 0, 1) := by decide +kernel
theorem dX5_noteAll_49 : decode cX5_noteAll 49 = .ok (.getfield 47, 3) := by decide +kernel
theorem dX5_noteAll_52 : decode cX5_noteAll 52 = .ok (.iconst (-1), 1) := by decide +kernel
theorem dX5_noteAll_53 : decode cX5_noteAll 53 = .ok (.if_icmp .ne 7, 3) := by decide +kernel
theorem dX5_noteAll_56 : decode cX5_noteAll 56 = .ok (.iload_n 3, 1) := by decide +kernel
theorem dX5_noteAll_57 : decode cX5_noteAll 57 = .ok (.goto 11, 3) := by decide +kernel
theorem dX5_noteAll_60 : decode cX5_noteAll 60 = .ok (.aload_n 0, 1) := by decide +kernel
theorem dX5_noteAll_61 : decode cX5_noteAll 61 = .ok (.getfield 47, 3) := by decide +kernel
theorem dX5_noteAll_64 : decode cX5_noteAll 64 = .ok (.iload_n 3, 1) := by decide +kernel
theorem dX5_noteAll_65 : decode cX5_noteAll 65 = .ok (.invokestatic 94, 3) := by decide +kernel
theorem dX5_noteAll_68 : decode cX5_noteAll 68 = .ok (.putfield 47, 3) := by decide +kernel
theorem dX5_noteAll_71 : decode cX5_noteAll 71 = .ok (.aload_n 0, 1) := by decide +kernel
theorem dX5_noteAll_72 : decode cX5_noteAll 72 = .ok (.iload 5, 2) := by decide +kernel
theorem dX5_noteAll_74 : decode cX5_noteAll 74 = .ok (.ifCond .eq 8, 3) := by decide +kernel
theorem dX5_noteAll_77 : decode cX5_noteAll 77 = .ok (.iload 4, 2) := by decide +kernel
theorem dX5_noteAll_79 : decode cX5_noteAll 79 = .ok (.goto 7, 3) := by decide +kernel
theorem dX5_noteAll_82 : decode cX5_noteAll 82 = .ok (.aload_n 0, 1) := by decide +kernel
theorem dX5_noteAll_83 : decode cX5_noteAll 83 = .ok (.getfield 44, 3) := by decide +kernel
theorem dX5_noteAll_86 : decode cX5_noteAll 86 = .ok (.putfield 44, 3) := by decide +kernel
theorem dX5_noteAll_89 : decode cX5_noteAll 89 = .ok (.iconst 0, 1) := by decide +kernel
theorem dX5_noteAll_90 : decode cX5_noteAll 90 = .ok (.istore 6, 2) := by decide +kernel
theorem dX5_noteAll_92 : decode cX5_noteAll 92 = .ok (.iload 6, 2) := by decide +kernel
theorem dX5_noteAll_94 : decode cX5_noteAll 94 = .ok (.aload_n 0, 1) := by decide +kernel
theorem dX5_noteAll_95 : decode cX5_noteAll 95 = .ok (.getfield 40, 3) := by decide +kernel
theorem dX5_noteAll_98 : decode cX5_noteAll 98 = .ok (.if_icmp .ge 75, 3) := by decide +kernel
theorem dX5_noteAll_101 : decode cX5_noteAll 101 = .ok (.aload_n 0, 1) := by decide +kernel
theorem dX5_noteAll_102 : decode cX5_noteAll 102 = .ok (.getfield 31, 3) := by decide +kernel
theorem dX5_noteAll_105 : decode cX5_noteAll 105 = .ok (.iload 6, 2) := by decide +kernel
theorem dX5_noteAll_107 : decode cX5_noteAll 107 = .ok (.dup2, 1) := by decide +kernel
theorem dX5_noteAll_108 : decode cX5_noteAll 108 = .ok (.iaload, 1) := by decide +kernel
theorem dX5_noteAll_109 : decode cX5_noteAll 109 = .ok (.iload 6, 2) := by decide +kernel
theorem dX5_noteAll_111 : decode cX5_noteAll 111 = .ok (.iload_n 1, 1) := by decide +kernel
theorem dX5_noteAll_112 : decode cX5_noteAll 112 = .ok (.if_icmp .ge 15, 3) := by decide +kernel
theorem dX5_noteAll_115 : decode cX5_noteAll 115 = .ok (.iconst 1, 1) := by decide +kernel
theorem dX5_noteAll_116 : decode cX5_noteAll 116 = .ok (.aload_n 0, 1) := by decide +kernel
theorem dX5_noteAll_117 : decode cX5_noteAll 117 = .ok (.getfield 25, 3) := by decide +kernel
theorem dX5_noteAll_120 : decode cX5_noteAll 120 = .ok (.iload 6, 2) := by decide +kernel
theorem dX5_noteAll_122 : decode cX5_noteAll 122 = .ok (.iaload, 1) := by decide +kernel
theorem dX5_noteAll_123 : decode cX5_noteAll 123 = .ok (.ishl, 1) := by decide +kernel
theorem dX5_noteAll_124 : decode cX5_noteAll 124 = .ok (.goto 10, 3) := by decide +kernel
theorem dX5_noteAll_127 : decode cX5_noteAll 127 = .ok (.aload_n 0, 1) := by decide +kernel
theorem dX5_noteAll_128 : decode cX5_noteAll 128 = .ok (.getfield 9, 3) := by decide +kernel
theorem dX5_noteAll_131 : decode cX5_noteAll 131 = .ok (.iload 6, 2) := by decide +kernel
theorem dX5_noteAll_133 : decode cX5_noteAll 133 = .ok (.iaload, 1) := by decide +kernel
theorem dX5_noteAll_134 : decode cX5_noteAll 134 = .ok (.ior, 1) := by decide +kernel
theorem dX5_noteAll_135 : decode cX5_noteAll 135 = .ok (.iastore, 1) := by decide +kernel
theorem dX5_noteAll_136 : decode cX5_noteAll 136 = .ok (.iload 5, 2) := by decide +kernel
theorem dX5_noteAll_138 : decode cX5_noteAll 138 = .ok (.ifCond .eq 29, 3) := by decide +kernel
theorem dX5_noteAll_141 : decode cX5_noteAll 141 = .ok (.aload_n 0, 1) := by decide +kernel
theorem dX5_noteAll_142 : decode cX5_noteAll 142 = .ok (.getfield 28, 3) := by decide +kernel
theorem dX5_noteAll_145 : decode cX5_noteAll 145 = .ok (.iload 6, 2) := by decide +kernel
theorem dX5_noteAll_147 : decode cX5_noteAll 147 = .ok (.iload 6, 2) := by decide +kernel
theorem dX5_noteAll_149 : decode cX5_noteAll 149 = .ok (.iload_n 1, 1) := by decide +kernel
theorem dX5_noteAll_150 : decode cX5_noteAll 150 = .ok (.if_icmp .ge 15, 3) := by decide +kernel
theorem dX5_noteAll_153 : decode cX5_noteAll 153 = .ok (.aload_n 0, 1) := by decide +kernel
theorem dX5_noteAll_154 : decode cX5_noteAll 154 = .ok (.getfield 25, 3) := by decide +kernel
theorem dX5_noteAll_157 : decode cX5_noteAll 157 = .ok (.iload 6, 2) := by decide +kernel
theorem dX5_noteAll_159 : decode cX5_noteAll 159 = .ok (.iaload, 1) := by decide +kernel
theorem dX5_noteAll_160 : decode cX5_noteAll 160 = .ok (.iconst 1, 1) := by decide +kernel
theorem dX5_noteAll_161 : decode cX5_noteAll 161 = .ok (.isub, 1) := by decide +kernel
theorem dX5_noteAll_162 : decode cX5_noteAll 162 = .ok (.goto 4, 3) := by decide +kernel
theorem dX5_noteAll_165 : decode cX5_noteAll 165 = .ok (.iconst (-1), 1) := by decide +kernel
theorem dX5_noteAll_166 : decode cX5_noteAll 166 = .ok (.iastore, 1) := by decide +kernel
theorem dX5_noteAll_167 : decode cX5_noteAll 167 = .ok (.iinc 6 1, 3) := by decide +kernel
theorem dX5_noteAll_170 : decode cX5_noteAll 170 = .ok (.goto (-78), 3) := by decide +kernel
theorem dX5_noteAll_173 : decode cX5_noteAll 173 = .ok (.return_, 1) := by decide +kernel
theorem dX5_sameByAll_0 : decode cX5_sameByAll 0 = .ok (.iconst 0, 1) := by decide +kernel
theorem dX5_sameByAll_1 : decode cX5_sameByAll 1 = .ok (.istore_n 2, 1) := by decide +kernel
theorem dX5_sameByAll_2 : decode cX5_sameByAll 2 = .ok (.iload_n 2, 1) := by decide +kernel
theorem dX5_sameByAll_3 : decode cX5_sameByAll 3 = .ok (.iconst 5, 1) := by decide +kernel
theorem dX5_sameByAll_4 : decode cX5_sameByAll 4 = .ok (.if_icmp .ge 34, 3) := by decide +kernel
theorem dX5_sameByAll_7 : decode cX5_sameByAll 7 = .ok (.aload_n 0, 1) := by decide +kernel
theorem dX5_sameByAll_8 : decode cX5_sameByAll 8 = .ok (.getfield 31, 3) := by decide +kernel
theorem dX5_sameByAll_11 : decode cX5_sameByAll 11 = .ok (.iload_n 1, 1) := by decide +kernel
theorem dX5_sameByAll_12 : decode cX5_sameByAll 12 = .ok (.iaload, 1) := by decide +kernel
theorem dX5_sameByAll_13 : decode cX5_sameByAll 13 = .ok (.iconst 1, 1) := by decide +kernel
theorem dX5_sameByAll_14 : decode cX5_sameByAll 14 = .ok (.iload_n 2, 1) := by decide +kernel
theorem dX5_sameByAll_15 : decode cX5_sameByAll 15 = .ok (.ishl, 1) := by decide +kernel
theorem dX5_sameByAll_16 : decode cX5_sameByAll 16 = .ok (.if_icmp .ne 16, 3) := by decide +kernel
theorem dX5_sameByAll_19 : decode cX5_sameByAll 19 = .ok (.iload_n 2, 1) := by decide +kernel
theorem dX5_sameByAll_20 : decode cX5_sameByAll 20 = .ok (.ifCond .ne 8, 3) := by decide +kernel
theorem dX5_sameByAll_23 : decode cX5_sameByAll 23 = .ok (.bipush 9, 2) := by decide +kernel
theorem dX5_sameByAll_25 : decode cX5_sameByAll 25 = .ok (.goto 6, 3) := by decide +kernel
theorem dX5_sameByAll_28 : decode cX5_sameByAll 28 = .ok (.iload_n 2, 1) := by decide +kernel
theorem dX5_sameByAll_29 : decode cX5_sameByAll 29 = .ok (.iconst 1, 1) := by decide +kernel
theorem dX5_sameByAll_30 : decode cX5_sameByAll 30 = .ok (.isub, 1) := by decide +kernel
theorem dX5_sameByAll_31 : decode cX5_sameByAll 31 = .ok (.ireturn, 1) := by decide +kernel
theorem dX5_sameByAll_32 : decode cX5_sameByAll 32 = .ok (.iinc 2 1, 3) := by decide +kernel
theorem dX5_sameByAll_35 : decode cX5_sameByAll 35 = .ok (.goto (-33), 3) := by decide +kernel
theorem dX5_sameByAll_38 : decode cX5_sameByAll 38 = .ok (.iconst (-1), 1) := by decide +kernel
theorem dX5_sameByAll_39 : decode cX5_sameByAll 39 = .ok (.ireturn, 1) := by decide +kernel
theorem dX6_init_0 : decode cX6_init 0 = .ok (.aload_n 0, 1) := by decide +kernel
theorem dX6_init_1 : decode cX6_init 1 = .ok (.invokespecial 3, 3) := by decide +kernel
theorem dX6_init_4 : decode cX6_init 4 = .ok (.aload_n 0, 1) := by decide +kernel
theorem dX6_init_5 : decode cX6_init 5 = .ok (.iconst 0, 1) := by decide +kernel
theorem dX6_init_6 : decode cX6_init 6 = .ok (.putfield 9, 3) := by decide +kernel
theorem dX6_init_9 : decode cX6_init 9 = .ok (.aload_n 0, 1) := by decide +kernel
theorem dX6_init_10 : decode cX6_init 10 = .ok (.iconst (-1), 1) := by decide +kernel
theorem dX6_init_11 : decode cX6_init 11 = .ok (.putfield 15, 3) := by decide +kernel
theorem dX6_init_14 : decode cX6_init 14 = .ok (.aload_n 0, 1) := by decide +kernel
theorem dX6_init_15 : decode cX6_init 15 = .ok (.bipush 60, 2) := by decide +kernel
theorem dX6_init_17 : decode cX6_init 17 = .ok (.newarray .long, 2) := by decide +kernel
theorem dX6_init_19 : decode cX6_init 19 = .ok (.putfield 18, 3) := by decide +kernel
theorem dX6_init_22 : decode cX6_init 22 = .ok (.return_, 1) := by decide +kernel
theorem dX6_holds_0 : decode cX6_holds 0 = .ok (.iload_n 1, 1) := by decide +kernel
theorem dX6_holds_1 : decode cX6_holds 1 = .ok (.ifCond .lt 25, 3) := by decide +kernel
theorem dX6_holds_4 : decode cX6_holds 4 = .ok (.iload_n 2, 1) := by decide +kernel
theorem dX6_holds_5 : decode cX6_holds 5 = .ok (.ifCond .lt 21, 3) := by decide +kernel
theorem dX6_holds_8 : decode cX6_holds 8 = .ok (.iload_n 1, 1) := by decide +kernel
theorem dX6_holds_9 : decode cX6_holds 9 = .ok (.i2l, 1) := by decide +kernel
theorem dX6_holds_10 : decode cX6_holds 10 = .ok (.iload_n 2, 1) := by decide +kernel
theorem dX6_holds_11 : decode cX6_holds 11 = .ok (.i2l, 1) := by decide +kernel
theorem dX6_holds_12 : decode cX6_holds 12 = .ok (.ladd, 1) := by decide +kernel
theorem dX6_holds_13 : decode cX6_holds 13 = .ok (.aload_n 0, 1) := by decide +kernel
theorem dX6_holds_14 : decode cX6_holds 14 = .ok (.getfield 15, 3) := by decide +kernel
theorem dX6_holds_17 : decode cX6_holds 17 = .ok (.i2l, 1) := by decide +kernel
theorem dX6_holds_18 : decode cX6_holds 18 = .ok (.lcmp, 1) := by decide +kernel
theorem dX6_holds_19 : decode cX6_holds 19 = .ok (.ifCond .gt 7, 3) := by decide +kernel
theorem dX6_holds_22 : decode cX6_holds 22 = .ok (.iconst 1, 1) := by decide +kernel
theorem dX6_holds_23 : decode cX6_holds 23 = .ok (.goto 4, 3) := by decide +kernel
theorem dX6_holds_26 : decode cX6_holds 26 = .ok (.iconst 0, 1) := by decide +kernel
theorem dX6_holds_27 : decode cX6_holds 27 = .ok (.ireturn, 1) := by decide +kernel
theorem dX6_measures_0 : decode cX6_measures 0 = .ok (.aload_n 0, 1) := by decide +kernel
theorem dX6_measures_1 : decode cX6_measures 1 = .ok (.getfield 15, 3) := by decide +kernel
theorem dX6_measures_4 : decode cX6_measures 4 = .ok (.iconst 3, 1) := by decide +kernel
theorem dX6_measures_5 : decode cX6_measures 5 = .ok (.idiv, 1) := by decide +kernel
theorem dX6_measures_6 : decode cX6_measures 6 = .ok (.ireturn, 1) := by decide +kernel
theorem dX6_numberAt_0 : decode cX6_numberAt 0 = .ok (.iload_n 1, 1) := by decide +kernel
theorem dX6_numberAt_1 : decode cX6_numberAt 1 = .ok (.ifCond .lt 21, 3) := by decide +kernel
theorem dX6_numberAt_4 : decode cX6_numberAt 4 = .ok (.iload_n 1, 1) := by decide +kernel
theorem dX6_numberAt_5 : decode cX6_numberAt 5 = .ok (.aload_n 0, 1) := by decide +kernel
theorem dX6_numberAt_6 : decode cX6_numberAt 6 = .ok (.getfield 18, 3) := by decide +kernel
theorem dX6_numberAt_9 : decode cX6_numberAt 9 = .ok (.arraylength, 1) := by decide +kernel
theorem dX6_numberAt_10 : decode cX6_numberAt 10 = .ok (.if_icmp .ge 12, 3) := by decide +kernel
theorem dX6_numberAt_13 : decode cX6_numberAt 13 = .ok (.aload_n 0, 1) := by decide +kernel
theorem dX6_numberAt_14 : decode cX6_numberAt 14 = .ok (.getfield 18, 3) := by decide +kernel
theorem dX6_numberAt_17 : decode cX6_numberAt 17 = .ok (.iload_n 1, 1) := by decide +kernel
theorem dX6_numberAt_18 : decode cX6_numberAt 18 = .ok (.laload, 1) := by decide +kernel
theorem dX6_numberAt_19 : decode cX6_numberAt 19 = .ok (.goto 6, 3) := by decide +kernel
theorem dX6_numberAt_22 : decode cX6_numberAt 22 = .ok (.ldc2_w 22, 3) := by decide +kernel
theorem dX6_numberAt_25 : decode cX6_numberAt 25 = .ok (.lreturn, 1) := by decide +kernel
theorem dX6_pathOf_0 : decode cX6_pathOf 0 = .ok (.aload_n 0, 1) := by decide +kernel
theorem dX6_pathOf_1 : decode cX6_pathOf 1 = .ok (.iload_n 1, 1) := by decide +kernel
theorem dX6_pathOf_2 : decode cX6_pathOf 2 = .ok (.iconst 3, 1) := by decide +kernel
theorem dX6_pathOf_3 : decode cX6_pathOf 3 = .ok (.imul, 1) := by decide +kernel
theorem dX6_pathOf_4 : decode cX6_pathOf 4 = .ok (.invokevirtual 24, 3) := by decide +kernel
theorem dX6_pathOf_7 : decode cX6_pathOf 7 = .ok (.l2i, 1) := by decide +kernel
theorem dX6_pathOf_8 : decode cX6_pathOf 8 = .ok (.ireturn, 1) := by decide +kernel
theorem dX6_yearOf_0 : decode cX6_yearOf 0 = .ok (.aload_n 0, 1) := by decide +kernel
theorem dX6_yearOf_1 : decode cX6_yearOf 1 = .ok (.iload_n 1, 1) := by decide +kernel
theorem dX6_yearOf_2 : decode cX6_yearOf 2 = .ok (.iconst 3, 1) := by decide +kernel
theorem dX6_yearOf_3 : decode cX6_yearOf 3 = .ok (.imul, 1) := by decide +kernel
theorem dX6_yearOf_4 : decode cX6_yearOf 4 = .ok (.iconst 1, 1) := by decide +kernel
theorem dX6_yearOf_5 : decode cX6_yearOf 5 = .ok (.iadd, 1) := by decide +kernel
theorem dX6_yearOf_6 : decode cX6_yearOf 6 = .ok (.invokevirtual 24, 3) := by decide +kernel
theorem dX6_yearOf_9 : decode cX6_yearOf 9 = .ok (.l2i, 1) := by decide +kernel
theorem dX6_yearOf_10 : decode cX6_yearOf 10 = .ok (.ireturn, 1) := by decide +kernel
theorem dX6_leapTold_0 : decode cX6_leapTold 0 = .ok (.aload_n 0, 1) := by decide +kernel
theorem dX6_leapTold_1 : decode cX6_leapTold 1 = .ok (.iload_n 1, 1) := by decide +kernel
theorem dX6_leapTold_2 : decode cX6_leapTold 2 = .ok (.iconst 3, 1) := by decide +kernel
theorem dX6_leapTold_3 : decode cX6_leapTold 3 = .ok (.imul, 1) := by decide +kernel
theorem dX6_leapTold_4 : decode cX6_leapTold 4 = .ok (.iconst 2, 1) := by decide +kernel
theorem dX6_leapTold_5 : decode cX6_leapTold 5 = .ok (.iadd, 1) := by decide +kernel
theorem dX6_leapTold_6 : decode cX6_leapTold 6 = .ok (.invokevirtual 24, 3) := by decide +kernel
theorem dX6_leapTold_9 : decode cX6_leapTold 9 = .ok (.lreturn, 1) := by decide +kernel
theorem dX6_isMeasured_0 : decode cX6_isMeasured 0 = .ok (.aload_n 0, 1) := by decide +kernel
theorem dX6_isMeasured_1 : decode cX6_isMeasured 1 = .ok (.getfield 15, 3) := by decide +kernel
theorem dX6_isMeasured_4 : decode cX6_isMeasured 4 = .ok (.iconst 3, 1) := by decide +kernel
theorem dX6_isMeasured_5 : decode cX6_isMeasured 5 = .ok (.irem, 1) := by decide +kernel
theorem dX6_isMeasured_6 : decode cX6_isMeasured 6 = .ok (.ifCond .eq 5, 3) := by decide +kernel
theorem dX6_isMeasured_9 : decode cX6_isMeasured 9 = .ok (.iconst 0, 1) := by decide +kernel
theorem dX6_isMeasured_10 : decode cX6_isMeasured 10 = .ok (.ireturn, 1) := by decide +kernel
theorem dX6_isMeasured_11 : decode cX6_isMeasured 11 = .ok (.iconst 0, 1) := by decide +kernel
theorem dX6_isMeasured_12 : decode cX6_isMeasured 12 = .ok (.istore_n 2, 1) := by decide +kernel
theorem dX6_isMeasured_13 : decode cX6_isMeasured 13 = .ok (.iload_n 2, 1) := by decide +kernel
theorem dX6_isMeasured_14 : decode cX6_isMeasured 14 = .ok (.aload_n 0, 1) := by decide +kernel
theorem dX6_isMeasured_15 : decode cX6_isMeasured 15 = .ok (.invokevirtual 28, 3) := by decide +kernel
theorem dX6_isMeasured_18 : decode cX6_isMeasured 18 = .ok (.if_icmp .ge 64, 3) := by decide +kernel
theorem dX6_isMeasured_21 : decode cX6_isMeasured 21 = .ok (.aload_n 0, 1) := by decide +kernel
theorem dX6_isMeasured_22 : decode cX6_isMeasured 22 = .ok (.iload_n 2, 1) := by decide +kernel
theorem dX6_isMeasured_23 : decode cX6_isMeasured 23 = .ok (.iconst 3, 1) := by decide +kernel
theorem dX6_isMeasured_24 : decode cX6_isMeasured 24 = .ok (.imul, 1) := by decide +kernel
theorem dX6_isMeasured_25 : decode cX6_isMeasured 25 = .ok (.invokevirtual 24, 3) := by decide +kernel
theorem dX6_isMeasured_28 : decode cX6_isMeasured 28 = .ok (.lstore_n 3, 1) := by decide +kernel
theorem dX6_isMeasured_29 : decode cX6_isMeasured 29 = .ok (.aload_n 0, 1) := by decide +kernel
theorem dX6_isMeasured_30 : decode cX6_isMeasured 30 = .ok (.iload_n 2, 1) := by decide +kernel
theorem dX6_isMeasured_31 : decode cX6_isMeasured 31 = .ok (.iconst 3, 1) := by decide +kernel
theorem dX6_isMeasured_32 : decode cX6_isMeasured 32 = .ok (.imul, 1) := by decide +kernel
theorem dX6_isMeasured_33 : decode cX6_isMeasured 33 = .ok (.iconst 1, 1) := by decide +kernel
theorem dX6_isMeasured_34 : decode cX6_isMeasured 34 = .ok (.iadd, 1) := by decide +kernel
theorem dX6_isMeasured_35 : decode cX6_isMeasured 35 = .ok (.invokevirtual 24, 3) := by decide +kernel
theorem dX6_isMeasured_38 : decode cX6_isMeasured 38 = .ok (.lstore 5, 2) := by decide +kernel
theorem dX6_isMeasured_40 : decode cX6_isMeasured 40 = .ok (.lload_n 3, 1) := by decide +kernel
theorem dX6_isMeasured_41 : decode cX6_isMeasured 41 = .ok (.lconst 0, 1) := by decide +kernel
theorem dX6_isMeasured_42 : decode cX6_isMeasured 42 = .ok (.lcmp, 1) := by decide +kernel
theorem dX6_isMeasured_43 : decode cX6_isMeasured 43 = .ok (.ifCond .lt 31, 3) := by decide +kernel
theorem dX6_isMeasured_46 : decode cX6_isMeasured 46 = .ok (.lload_n 3, 1) := by decide +kernel
theorem dX6_isMeasured_47 : decode cX6_isMeasured 47 = .ok (.aload_n 1, 1) := by decide +kernel
theorem dX6_isMeasured_48 : decode cX6_isMeasured 48 = .ok (.getfield 32, 3) := by decide +kernel
theorem dX6_isMeasured_51 : decode cX6_isMeasured 51 = .ok (.i2l, 1) := by decide +kernel
theorem dX6_isMeasured_52 : decode cX6_isMeasured 52 = .ok (.lcmp, 1) := by decide +kernel
theorem dX6_isMeasured_53 : decode cX6_isMeasured 53 = .ok (.ifCond .ge 21, 3) := by decide +kernel
theorem dX6_isMeasured_56 : decode cX6_isMeasured 56 = .ok (.lload 5, 2) := by decide +kernel
theorem dX6_isMeasured_58 : decode cX6_isMeasured 58 = .ok (.lconst 0, 1) := by decide +kernel
theorem dX6_isMeasured_59 : decode cX6_isMeasured 59 = .ok (.lcmp, 1) := by decide +kernel
theorem dX6_isMeasured_60 : decode cX6_isMeasured 60 = .ok (.ifCond .lt 14, 3) := by decide +kernel
theorem dX6_isMeasured_63 : decode cX6_isMeasured 63 = .ok (.lload 5, 2) := by decide +kernel
theorem dX6_isMeasured_65 : decode cX6_isMeasured 65 = .ok (.aload_n 1, 1) := by decide +kernel
theorem dX6_isMeasured_66 : decode cX6_isMeasured 66 = .ok (.getfield 37, 3) := by decide +kernel
theorem dX6_isMeasured_69 : decode cX6_isMeasured 69 = .ok (.i2l, 1) := by decide +kernel
theorem dX6_isMeasured_70 : decode cX6_isMeasured 70 = .ok (.lcmp, 1) := by decide +kernel
theorem dX6_isMeasured_71 : decode cX6_isMeasured 71 = .ok (.ifCond .lt 5, 3) := by decide +kernel
theorem dX6_isMeasured_74 : decode cX6_isMeasured 74 = .ok (.iconst 0, 1) := by decide +kernel
theorem dX6_isMeasured_75 : decode cX6_isMeasured 75 = .ok (.ireturn, 1) := by decide +kernel
theorem dX6_isMeasured_76 : decode cX6_isMeasured 76 = .ok (.iinc 2 1, 3) := by decide +kernel
theorem dX6_isMeasured_79 : decode cX6_isMeasured 79 = .ok (.goto (-66), 3) := by decide +kernel
theorem dX6_isMeasured_82 : decode cX6_isMeasured 82 = .ok (.iconst 1, 1) := by decide +kernel
theorem dX6_isMeasured_83 : decode cX6_isMeasured 83 = .ok (.ireturn, 1) := by decide +kernel
theorem dX7_init_0 : decode cX7_init 0 = .ok (.aload_n 0, 1) := by decide +kernel
theorem dX7_init_1 : decode cX7_init 1 = .ok (.invokespecial 3, 3) := by decide +kernel
theorem dX7_init_4 : decode cX7_init 4 = .ok (.aload_n 0, 1) := by decide +kernel
theorem dX7_init_5 : decode cX7_init 5 = .ok (.new 9, 3) := by decide +kernel
theorem dX7_init_8 : decode cX7_init 8 = .ok (.dup, 1) := by decide +kernel
theorem dX7_init_9 : decode cX7_init 9 = .ok (.invokespecial 11, 3) := by decide +kernel
theorem dX7_init_12 : decode cX7_init 12 = .ok (.putfield 12, 3) := by decide +kernel
theorem dX7_init_15 : decode cX7_init 15 = .ok (.aload_n 0, 1) := by decide +kernel
theorem dX7_init_16 : decode cX7_init 16 = .ok (.bipush 8, 2) := by decide +kernel
theorem dX7_init_18 : decode cX7_init 18 = .ok (.newarray .int, 2) := by decide +kernel
theorem dX7_init_20 : decode cX7_init 20 = .ok (.putfield 18, 3) := by decide +kernel
theorem dX7_init_23 : decode cX7_init 23 = .ok (.aload_n 0, 1) := by decide +kernel
theorem dX7_init_24 : decode cX7_init 24 = .ok (.bipush 8, 2) := by decide +kernel
theorem dX7_init_26 : decode cX7_init 26 = .ok (.newarray .int, 2) := by decide +kernel
theorem dX7_init_28 : decode cX7_init 28 = .ok (.putfield 22, 3) := by decide +kernel
theorem dX7_init_31 : decode cX7_init 31 = .ok (.aload_n 0, 1) := by decide +kernel
theorem dX7_init_32 : decode cX7_init 32 = .ok (.bipush 8, 2) := by decide +kernel
theorem dX7_init_34 : decode cX7_init 34 = .ok (.newarray .int, 2) := by decide +kernel
theorem dX7_init_36 : decode cX7_init 36 = .ok (.putfield 25, 3) := by decide +kernel
theorem dX7_init_39 : decode cX7_init 39 = .ok (.return_, 1) := by decide +kernel
theorem dX7_findAll_0 : decode cX7_findAll 0 = .ok (.aload_n 0, 1) := by decide +kernel
theorem dX7_findAll_1 : decode cX7_findAll 1 = .ok (.aload_n 1, 1) := by decide +kernel
theorem dX7_findAll_2 : decode cX7_findAll 2 = .ok (.putfield 12, 3) := by decide +kernel
theorem dX7_findAll_5 : decode cX7_findAll 5 = .ok (.aload_n 0, 1) := by decide +kernel
theorem dX7_findAll_6 : decode cX7_findAll 6 = .ok (.iload_n 3, 1) := by decide +kernel
theorem dX7_findAll_7 : decode cX7_findAll 7 = .ok (.putfield 28, 3) := by decide +kernel
theorem dX7_findAll_10 : decode cX7_findAll 10 = .ok (.aload_n 0, 1) := by decide +kernel
theorem dX7_findAll_11 : decode cX7_findAll 11 = .ok (.iload 4, 2) := by decide +kernel
theorem dX7_findAll_13 : decode cX7_findAll 13 = .ok (.putfield 32, 3) := by decide +kernel
theorem dX7_findAll_16 : decode cX7_findAll 16 = .ok (.aload_n 0, 1) := by decide +kernel
theorem dX7_findAll_17 : decode cX7_findAll 17 = .ok (.aload_n 0, 1) := by decide +kernel
theorem dX7_findAll_18 : decode cX7_findAll 18 = .ok (.getfield 12, 3) := by decide +kernel
theorem dX7_findAll_21 : decode cX7_findAll 21 = .ok (.aload_n 0, 1) := by decide +kernel
theorem dX7_findAll_22 : decode cX7_findAll 22 = .ok (.getfield 12, 3) := by decide +kernel
theorem dX7_findAll_25 : decode cX7_findAll 25 = .ok (.getfield 35, 3) := by decide +kernel
theorem dX7_findAll_28 : decode cX7_findAll 28 = .ok (.iload_n 2, 1) := by decide +kernel
theorem dX7_findAll_29 : decode cX7_findAll 29 = .ok (.iaload, 1) := by decide +kernel
theorem dX7_findAll_30 : decode cX7_findAll 30 = .ok (.aload_n 0, 1) := by decide +kernel
theorem dX7_findAll_31 : decode cX7_findAll 31 = .ok (.getfield 32, 3) := by decide +kernel
theorem dX7_findAll_34 : decode cX7_findAll 34 = .ok (.iconst (-1), 1) := by decide +kernel
theorem dX7_findAll_35 : decode cX7_findAll 35 = .ok (.invokevirtual 38, 3) := by decide +kernel
theorem dX7_findAll_38 : decode cX7_findAll 38 = .ok (.putfield 42, 3) := by decide +kernel
theorem dX7_findAll_41 : decode cX7_findAll 41 = .ok (.aload_n 0, 1) := by decide +kernel
theorem dX7_findAll_42 : decode cX7_findAll 42 = .ok (.iconst 0, 1) := by decide +kernel
theorem dX7_findAll_43 : decode cX7_findAll 43 = .ok (.putfield 45, 3) := by decide +kernel
theorem dX7_findAll_46 : decode cX7_findAll 46 = .ok (.aload_n 0, 1) := by decide +kernel
theorem dX7_findAll_47 : decode cX7_findAll 47 = .ok (.iconst (-1), 1) := by decide +kernel
theorem dX7_findAll_48 : decode cX7_findAll 48 = .ok (.putfield 48, 3) := by decide +kernel
theorem dX7_findAll_51 : decode cX7_findAll 51 = .ok (.aload_n 0, 1) := by decide +kernel
theorem dX7_findAll_52 : decode cX7_findAll 52 = .ok (.iconst (-1), 1) := by decide +kernel
theorem dX7_findAll_53 : decode cX7_findAll 53 = .ok (.putfield 51, 3) := by decide +kernel
theorem dX7_findAll_56 : decode cX7_findAll 56 = .ok (.aload_n 0, 1) := by decide +kernel
theorem dX7_findAll_57 : decode cX7_findAll 57 = .ok (.ldc2_w 54, 3) := by decide +kernel
theorem dX7_findAll_60 : decode cX7_findAll 60 = .ok (.putfield 56, 3) := by decide +kernel
theorem dX7_findAll_63 : decode cX7_findAll 63 = .ok (.aload_n 0, 1) := by decide +kernel
theorem dX7_findAll_64 : decode cX7_findAll 64 = .ok (.iconst 0, 1) := by decide +kernel
theorem dX7_findAll_65 : decode cX7_findAll 65 = .ok (.aload_n 0, 1) := by decide +kernel
theorem dX7_findAll_66 : decode cX7_findAll 66 = .ok (.getfield 12, 3) := by decide +kernel
theorem dX7_findAll_69 : decode cX7_findAll 69 = .ok (.getfield 60, 3) := by decide +kernel
theorem dX7_findAll_72 : decode cX7_findAll 72 = .ok (.iload_n 2, 1) := by decide +kernel
theorem dX7_findAll_73 : decode cX7_findAll 73 = .ok (.iaload, 1) := by decide +kernel
theorem dX7_findAll_74 : decode cX7_findAll 74 = .ok (.iconst 0, 1) := by decide +kernel
theorem dX7_findAll_75 : decode cX7_findAll 75 = .ok (.ldc2_w 63, 3) := by decide +kernel
theorem dX7_findAll_78 : decode cX7_findAll 78 = .ok (.invokestatic 65, 3) := by decide +kernel
theorem dX7_findAll_81 : decode cX7_findAll 81 = .ok (.return_, 1) := by decide +kernel
theorem dX7_goOn_0 : decode cX7_goOn 0 = .ok (.iload_n 1, 1) := by decide +kernel
theorem dX7_goOn_1 : decode cX7_goOn 1 = .ok (.bipush 8, 2) := by decide +kernel
theorem dX7_goOn_3 : decode cX7_goOn 3 = .ok (.if_icmp .lt 4, 3) := by decide +kernel
theorem dX7_goOn_6 : decode cX7_goOn 6 = .ok (.return_, 1) := by decide +kernel
theorem dX7_goOn_7 : decode cX7_goOn 7 = .ok (.aload_n 0, 1) := by decide +kernel
theorem dX7_goOn_8 : decode cX7_goOn 8 = .ok (.getfield 18, 3) := by decide +kernel
theorem dX7_goOn_11 : decode cX7_goOn 11 = .ok (.iload_n 1, 1) := by decide +kernel
theorem dX7_goOn_12 : decode cX7_goOn 12 = .ok (.iload_n 2, 1) := by decide +kernel
theorem dX7_goOn_13 : decode cX7_goOn 13 = .ok (.iastore, 1) := by decide +kernel
theorem dX7_goOn_14 : decode cX7_goOn 14 = .ok (.iload_n 2, 1) := by decide +kernel
theorem dX7_goOn_15 : decode cX7_goOn 15 = .ok (.aload_n 0, 1) := by decide +kernel
theorem dX7_goOn_16 : decode cX7_goOn 16 = .ok (.getfield 28, 3) := by decide +kernel
theorem dX7_goOn_19 : decode cX7_goOn 19 = .ok (.if_icmp .ne 13, 3) := by decide +kernel
theorem dX7_goOn_22 : decode cX7_goOn 22 = .ok (.aload_n 0, 1) := by decide +kernel
theorem dX7_goOn_23 : decode cX7_goOn 23 = .ok (.iload_n 1, 1) := by decide +kernel
theorem dX7_goOn_24 : decode cX7_goOn 24 = .ok (.iconst 1, 1) := by decide +kernel
theorem dX7_goOn_25 : decode cX7_goOn 25 = .ok (.iadd, 1) := by decide +kernel
theorem dX7_goOn_26 : decode cX7_goOn 26 = .ok (.lload 4, 2) := by decide +kernel
theorem dX7_goOn_28 : decode cX7_goOn 28 = .ok (.invokevirtual 69, 3) := by decide +kernel
theorem dX7_goOn_31 : decode cX7_goOn 31 = .ok (.return_, 1) := by decide +kernel
theorem dX7_goOn_32 : decode cX7_goOn 32 = .ok (.iload_n 3, 1) := by decide +kernel
theorem dX7_goOn_33 : decode cX7_goOn 33 = .ok (.iconst 1, 1) := by decide +kernel
theorem dX7_goOn_34 : decode cX7_goOn 34 = .ok (.iload_n 2, 1) := by decide +kernel
theorem dX7_goOn_35 : decode cX7_goOn 35 = .ok (.ishl, 1) := by decide +kernel
theorem dX7_goOn_36 : decode cX7_goOn 36 = .ok (.ior, 1) := by decide +kernel
theorem dX7_goOn_37 : decode cX7_goOn 37 = .ok (.istore 6, 2) := by decide +kernel
theorem dX7_goOn_39 : decode cX7_goOn 39 = .ok (.iconst 0, 1) := by decide +kernel
theorem dX7_goOn_40 : decode cX7_goOn 40 = .ok (.istore 7, 2) := by decide +kernel
theorem dX7_goOn_42 : decode cX7_goOn 42 = .ok (.iload 7, 2) := by decide +kernel
theorem dX7_goOn_44 : decode cX7_goOn 44 = .ok (.aload_n 0, 1) := by decide +kernel
theorem dX7_goOn_45 : decode cX7_goOn 45 = .ok (.getfield 12, 3) := by decide +kernel
theorem dX7_goOn_48 : decode cX7_goOn 48 = .ok (.getfield 73, 3) := by decide +kernel
theorem dX7_goOn_51 : decode cX7_goOn 51 = .ok (.if_icmp .ge 76, 3) := by decide +kernel
theorem dX7_goOn_54 : decode cX7_goOn 54 = .ok (.iload 6, 2) := by decide +kernel
theorem dX7_goOn_56 : decode cX7_goOn 56 = .ok (.iload 7, 2) := by decide +kernel
theorem dX7_goOn_58 : decode cX7_goOn 58 = .ok (.ishr, 1) := by decide +kernel
theorem dX7_goOn_59 : decode cX7_goOn 59 = .ok (.iconst 1, 1) := by decide +kernel
theorem dX7_goOn_60 : decode cX7_goOn 60 = .ok (.iand, 1) := by decide +kernel
theorem dX7_goOn_61 : decode cX7_goOn 61 = .ok (.ifCond .ne 60, 3) := by decide +kernel
theorem dX7_goOn_64 : decode cX7_goOn 64 = .ok (.aload_n 0, 1) := by decide +kernel
theorem dX7_goOn_65 : decode cX7_goOn 65 = .ok (.getfield 12, 3) := by decide +kernel
theorem dX7_goOn_68 : decode cX7_goOn 68 = .ok (.iload_n 2, 1) := by decide +kernel
theorem dX7_goOn_69 : decode cX7_goOn 69 = .ok (.iload 7, 2) := by decide +kernel
theorem dX7_goOn_71 : decode cX7_goOn 71 = .ok (.invokevirtual 76, 3) := by decide +kernel
theorem dX7_goOn_74 : decode cX7_goOn 74 = .ok (.istore 8, 2) := by decide +kernel
theorem dX7_goOn_76 : decode cX7_goOn 76 = .ok (.iload 8, 2) := by decide +kernel
theorem dX7_goOn_78 : decode cX7_goOn 78 = .ok (.iconst (-1), 1) := by decide +kernel
theorem dX7_goOn_79 : decode cX7_goOn 79 = .ok (.if_icmp .eq 42, 3) := by decide +kernel
theorem dX7_goOn_82 : decode cX7_goOn 82 = .ok (.aload_n 0, 1) := by decide +kernel
theorem dX7_goOn_83 : decode cX7_goOn 83 = .ok (.getfield 42, 3) := by decide +kernel
theorem dX7_goOn_86 : decode cX7_goOn 86 = .ok (.iload 8, 2) := by decide +kernel
theorem dX7_goOn_88 : decode cX7_goOn 88 = .ok (.ishr, 1) := by decide +kernel
theorem dX7_goOn_89 : decode cX7_goOn 89 = .ok (.iconst 1, 1) := by decide +kernel
theorem dX7_goOn_90 : decode cX7_goOn 90 = .ok (.iand, 1) := by decide +kernel
theorem dX7_goOn_91 : decode cX7_goOn 91 = .ok (.iconst 1, 1) := by decide +kernel
theorem dX7_goOn_92 : decode cX7_goOn 92 = .ok (.if_icmp .ne 29, 3) := by decide +kernel
theorem dX7_goOn_95 : decode cX7_goOn 95 = .ok (.aload_n 0, 1) := by decide +kernel
theorem dX7_goOn_96 : decode cX7_goOn 96 = .ok (.iload_n 1, 1) := by decide +kernel
theorem dX7_goOn_97 : decode cX7_goOn 97 = .ok (.iconst 1, 1) := by decide +kernel
theorem dX7_goOn_98 : decode cX7_goOn 98 = .ok (.iadd, 1) := by decide +kernel
theorem dX7_goOn_99 : decode cX7_goOn 99 = .ok (.iload 7, 2) := by decide +kernel
theorem dX7_goOn_101 : decode cX7_goOn 101 = .ok (.iload 6, 2) := by decide +kernel
theorem dX7_goOn_103 : decode cX7_goOn 103 = .ok (.aload_n 0, 1) := by decide +kernel
theorem dX7_goOn_104 : decode cX7_goOn 104 = .ok (.getfield 12, 3) := by decide +kernel
theorem dX7_goOn_107 : decode cX7_goOn 107 = .ok (.lload 4, 2) := by decide +kernel
theorem dX7_goOn_109 : decode cX7_goOn 109 = .ok (.iload 8, 2) := by decide +kernel
theorem dX7_goOn_111 : decode cX7_goOn 111 = .ok (.aload_n 0, 1) := by decide +kernel
theorem dX7_goOn_112 : decode cX7_goOn 112 = .ok (.getfield 32, 3) := by decide +kernel
theorem dX7_goOn_115 : decode cX7_goOn 115 = .ok (.invokevirtual 80, 3) := by decide +kernel
theorem dX7_goOn_118 : decode cX7_goOn 118 = .ok (.invokestatic 65, 3) := by decide +kernel
theorem dX7_goOn_121 : decode cX7_goOn 121 = .ok (.iinc 7 1, 3) := by decide +kernel
theorem dX7_goOn_124 : decode cX7_goOn 124 = .ok (.goto (-82), 3) := by decide +kernel
theorem dX7_goOn_127 : decode cX7_goOn 127 = .ok (.return_, 1) := by decide +kernel
theorem dX7_noteWay_0 : decode cX7_noteWay 0 = .ok (.aload_n 0, 1) := by decide +kernel
theorem dX7_noteWay_1 : decode cX7_noteWay 1 = .ok (.dup, 1) := by decide +kernel
theorem dX7_noteWay_2 : decode cX7_noteWay 2 = .ok (.getfield 45, 3) := by decide +kernel
theorem dX7_noteWay_5 : decode cX7_noteWay 5 = .ok (.iconst 1, 1) := by decide +kernel
theorem dX7_noteWay_6 : decode cX7_noteWay 6 = .ok (.iadd, 1) := by decide +kernel
theorem dX7_noteWay_7 : decode cX7_noteWay 7 = .ok (.putfield 45, 3) := by decide +kernel
theorem dX7_noteWay_10 : decode cX7_noteWay 10 = .ok (.aload_n 0, 1) := by decide +kernel
theorem dX7_noteWay_11 : decode cX7_noteWay 11 = .ok (.getfield 48, 3) := by decide +kernel
theorem dX7_noteWay_14 : decode cX7_noteWay 14 = .ok (.iconst (-1), 1) := by decide +kernel
theorem dX7_noteWay_15 : decode cX7_noteWay 15 = .ok (.if_icmp .eq 11, 3) := by decide +kernel
theorem dX7_noteWay_18 : decode cX7_noteWay 18 = .ok (.iload_n 1, 1) := by decide +kernel
theorem dX7_noteWay_19 : decode cX7_noteWay 19 = .ok (.aload_n 0, 1) := by decide +kernel
theorem dX7_noteWay_20 : decode cX7_noteWay 20 = .ok (.getfield 48, 3) := by decide +kernel
theorem dX7_noteWay_23 : decode cX7_noteWay 23 = .ok (.if_icmp .ge 19, 3) := by decide +kernel
theorem dX7_noteWay_26 : decode cX7_noteWay 26 = .ok (.aload_n 0, 1) := by decide +kernel
theorem dX7_noteWay_27 : decode cX7_noteWay 27 = .ok (.iload_n 1, 1) := by decide +kernel
theorem dX7_noteWay_28 : decode cX7_noteWay 28 = .ok (.putfield 48, 3) := by decide +kernel
theorem dX7_noteWay_31 : decode cX7_noteWay 31 = .ok (.aload_n 0, 1) := by decide +kernel
theorem dX7_noteWay_32 : decode cX7_noteWay 32 = .ok (.getfield 18, 3) := by decide +kernel
theorem dX7_noteWay_35 : decode cX7_noteWay 35 = .ok (.aload_n 0, 1) := by decide +kernel
theorem dX7_noteWay_36 : decode cX7_noteWay 36 = .ok (.getfield 22, 3) := by decide +kernel
theorem dX7_noteWay_39 : decode cX7_noteWay 39 = .ok (.invokestatic 84, 3) := by decide +kernel
theorem dX7_noteWay_42 : decode cX7_noteWay 42 = .ok (.lload_n 2, 1) := by decide +kernel
theorem dX7_noteWay_43 : decode cX7_noteWay 43 = .ok (.aload_n 0, 1) := by decide +kernel
theorem dX7_noteWay_44 : decode cX7_noteWay 44 = .ok (.getfield 56, 3) := by decide +kernel
theorem dX7_noteWay_47 : decode cX7_noteWay 47 = .ok (.lcmp, 1) := by decide +kernel
theorem dX7_noteWay_48 : decode cX7_noteWay 48 = .ok (.ifCond .gt 20, 3) := by decide +kernel
theorem dX7_noteWay_51 : decode cX7_noteWay 51 = .ok (.lload_n 2, 1) := by decide +kernel
theorem dX7_noteWay_52 : decode cX7_noteWay 52 = .ok (.aload_n 0, 1) := by decide +kernel
theorem dX7_noteWay_53 : decode cX7_noteWay 53 = .ok (.getfield 56, 3) := by decide +kernel
theorem dX7_noteWay_56 : decode cX7_noteWay 56 = .ok (.lcmp, 1) := by decide +kernel
theorem dX7_noteWay_57 : decode cX7_noteWay 57 = .ok (.ifCond .ne 32, 3) := by decide +kernel
theorem dX7_noteWay_60 : decode cX7_noteWay 60 = .ok (.iload_n 1, 1) := by decide +kernel
theorem dX7_noteWay_61 : decode cX7_noteWay 61 = .ok (.aload_n 0, 1) := by decide +kernel
theorem dX7_noteWay_62 : decode cX7_noteWay 62 = .ok (.getfield 51, 3) := by decide +kernel
theorem dX7_noteWay_65 : decode cX7_noteWay 65 = .ok (.if_icmp .ge 24, 3) := by decide +kernel
theorem dX7_noteWay_68 : decode cX7_noteWay 68 = .ok (.aload_n 0, 1) := by decide +kernel
theorem dX7_noteWay_69 : decode cX7_noteWay 69 = .ok (.lload_n 2, 1) := by decide +kernel
theorem dX7_noteWay_70 : decode cX7_noteWay 70 = .ok (.putfield 56, 3) := by decide +kernel
theorem dX7_noteWay_73 : decode cX7_noteWay 73 = .ok (.aload_n 0, 1) := by decide +kernel
theorem dX7_noteWay_74 : decode cX7_noteWay 74 = .ok (.iload_n 1, 1) := by decide +kernel
theorem dX7_noteWay_75 : decode cX7_noteWay 75 = .ok (.putfield 51, 3) := by decide +kernel
theorem dX7_noteWay_78 : decode cX7_noteWay 78 = .ok (.aload_n 0, 1) := by decide +kernel
theorem dX7_noteWay_79 : decode cX7_noteWay 79 = .ok (.getfield 18, 3) := by decide +kernel
theorem dX7_noteWay_82 : decode cX7_noteWay 82 = .ok (.aload_n 0, 1) := by decide +kernel
theorem dX7_noteWay_83 : decode cX7_noteWay 83 = .ok (.getfield 25, 3) := by decide +kernel
theorem dX7_noteWay_86 : decode cX7_noteWay 86 = .ok (.invokestatic 84, 3) := by decide +kernel
theorem dX7_noteWay_89 : decode cX7_noteWay 89 = .ok (.return_, 1) := by decide +kernel
theorem dX8_init_0 : decode cX8_init 0 = .ok (.aload_n 0, 1) := by decide +kernel
theorem dX8_init_1 : decode cX8_init 1 = .ok (.invokespecial 1, 3) := by decide +kernel
theorem dX8_init_4 : decode cX8_init 4 = .ok (.aload_n 0, 1) := by decide +kernel
theorem dX8_init_5 : decode cX8_init 5 = .ok (.sipush 1400, 3) := by decide +kernel
theorem dX8_init_8 : decode cX8_init 8 = .ok (.newarray .byte, 2) := by decide +kernel
theorem dX8_init_10 : decode cX8_init 10 = .ok (.putfield 9, 3) := by decide +kernel
theorem dX8_init_13 : decode cX8_init 13 = .ok (.aload_n 0, 1) := by decide +kernel
theorem dX8_init_14 : decode cX8_init 14 = .ok (.iconst 0, 1) := by decide +kernel
theorem dX8_init_15 : decode cX8_init 15 = .ok (.putfield 13, 3) := by decide +kernel
theorem dX8_init_18 : decode cX8_init 18 = .ok (.aload_n 0, 1) := by decide +kernel
theorem dX8_init_19 : decode cX8_init 19 = .ok (.new 17, 3) := by decide +kernel
theorem dX8_init_22 : decode cX8_init 22 = .ok (.dup, 1) := by decide +kernel
theorem dX8_init_23 : decode cX8_init 23 = .ok (.invokespecial 19, 3) := by decide +kernel
theorem dX8_init_26 : decode cX8_init 26 = .ok (.putfield 20, 3) := by decide +kernel
theorem dX8_init_29 : decode cX8_init 29 = .ok (.aload_n 0, 1) := by decide +kernel
theorem dX8_init_30 : decode cX8_init 30 = .ok (.new 24, 3) := by decide +kernel
theorem dX8_init_33 : decode cX8_init 33 = .ok (.dup, 1) := by decide +kernel
theorem dX8_init_34 : decode cX8_init 34 = .ok (.invokespecial 26, 3) := by decide +kernel
theorem dX8_init_37 : decode cX8_init 37 = .ok (.putfield 27, 3) := by decide +kernel
theorem dX8_init_40 : decode cX8_init 40 = .ok (.aload_n 0, 1) := by decide +kernel
theorem dX8_init_41 : decode cX8_init 41 = .ok (.new 24, 3) := by decide +kernel
theorem dX8_init_44 : decode cX8_init 44 = .ok (.dup, 1) := by decide +kernel
theorem dX8_init_45 : decode cX8_init 45 = .ok (.invokespecial 26, 3) := by decide +kernel
theorem dX8_init_48 : decode cX8_init 48 = .ok (.putfield 31, 3) := by decide +kernel
theorem dX8_init_51 : decode cX8_init 51 = .ok (.aload_n 0, 1) := by decide +kernel
theorem dX8_init_52 : decode cX8_init 52 = .ok (.iconst 3, 1) := by decide +kernel
theorem dX8_init_53 : decode cX8_init 53 = .ok (.anewarray 24, 3) := by decide +kernel
theorem dX8_init_56 : decode cX8_init 56 = .ok (.putfield 34, 3) := by decide +kernel
theorem dX8_init_59 : decode cX8_init 59 = .ok (.aload_n 0, 1) := by decide +kernel
theorem dX8_init_60 : decode cX8_init 60 = .ok (.iconst 3, 1) := by decide +kernel
theorem dX8_init_61 : decode cX8_init 61 = .ok (.newarray .boolean, 2) := by decide +kernel
theorem dX8_init_63 : decode cX8_init 63 = .ok (.putfield 38, 3) := by decide +kernel
theorem dX8_init_66 : decode cX8_init 66 = .ok (.aload_n 0, 1) := by decide +kernel
theorem dX8_init_67 : decode cX8_init 67 = .ok (.iconst 4, 1) := by decide +kernel
theorem dX8_init_68 : decode cX8_init 68 = .ok (.anewarray 42, 3) := by decide +kernel
theorem dX8_init_71 : decode cX8_init 71 = .ok (.putfield 44, 3) := by decide +kernel
theorem dX8_init_74 : decode cX8_init 74 = .ok (.aload_n 0, 1) := by decide +kernel
theorem dX8_init_75 : decode cX8_init 75 = .ok (.new 48, 3) := by decide +kernel
theorem dX8_init_78 : decode cX8_init 78 = .ok (.dup, 1) := by decide +kernel
theorem dX8_init_79 : decode cX8_init 79 = .ok (.invokespecial 50, 3) := by decide +kernel
theorem dX8_init_82 : decode cX8_init 82 = .ok (.putfield 51, 3) := by decide +kernel
theorem dX8_init_85 : decode cX8_init 85 = .ok (.aload_n 0, 1) := by decide +kernel
theorem dX8_init_86 : decode cX8_init 86 = .ok (.new 55, 3) := by decide +kernel
theorem dX8_init_89 : decode cX8_init 89 = .ok (.dup, 1) := by decide +kernel
theorem dX8_init_90 : decode cX8_init 90 = .ok (.invokespecial 57, 3) := by decide +kernel
theorem dX8_init_93 : decode cX8_init 93 = .ok (.putfield 58, 3) := by decide +kernel
theorem dX8_init_96 : decode cX8_init 96 = .ok (.aload_n 0, 1) := by decide +kernel
theorem dX8_init_97 : decode cX8_init 97 = .ok (.new 62, 3) := by decide +kernel
theorem dX8_init_100 : decode cX8_init 100 = .ok (.dup, 1) := by decide +kernel
theorem dX8_init_101 : decode cX8_init 101 = .ok (.invokespecial 64, 3) := by decide +kernel
theorem dX8_init_104 : decode cX8_init 104 = .ok (.putfield 65, 3) := by decide +kernel
theorem dX8_init_107 : decode cX8_init 107 = .ok (.aload_n 0, 1) := by decide +kernel
theorem dX8_init_108 : decode cX8_init 108 = .ok (.new 69, 3) := by decide +kernel
theorem dX8_init_111 : decode cX8_init 111 = .ok (.dup, 1) := by decide +kernel
theorem dX8_init_112 : decode cX8_init 112 = .ok (.invokespecial 71, 3) := by decide +kernel
theorem dX8_init_115 : decode cX8_init 115 = .ok (.putfield 72, 3) := by decide +kernel
theorem dX8_init_118 : decode cX8_init 118 = .ok (.aload_n 0, 1) := by decide +kernel
theorem dX8_init_119 : decode cX8_init 119 = .ok (.bipush 7, 2) := by decide +kernel
theorem dX8_init_121 : decode cX8_init 121 = .ok (.newarray .int, 2) := by decide +kernel
theorem dX8_init_123 : decode cX8_init 123 = .ok (.putfield 76, 3) := by decide +kernel
theorem dX8_init_126 : decode cX8_init 126 = .ok (.aload_n 0, 1) := by decide +kernel
theorem dX8_init_127 : decode cX8_init 127 = .ok (.bipush 8, 2) := by decide +kernel
theorem dX8_init_129 : decode cX8_init 129 = .ok (.newarray .int, 2) := by decide +kernel
theorem dX8_init_131 : decode cX8_init 131 = .ok (.putfield 80, 3) := by decide +kernel
theorem dX8_init_134 : decode cX8_init 134 = .ok (.aload_n 0, 1) := by decide +kernel
theorem dX8_init_135 : decode cX8_init 135 = .ok (.bipush 10, 2) := by decide +kernel
theorem dX8_init_137 : decode cX8_init 137 = .ok (.newarray .int, 2) := by decide +kernel
theorem dX8_init_139 : decode cX8_init 139 = .ok (.putfield 83, 3) := by decide +kernel
theorem dX8_init_142 : decode cX8_init 142 = .ok (.iconst 0, 1) := by decide +kernel
theorem dX8_init_143 : decode cX8_init 143 = .ok (.istore_n 1, 1) := by decide +kernel
theorem dX8_init_144 : decode cX8_init 144 = .ok (.iload_n 1, 1) := by decide +kernel
theorem dX8_init_145 : decode cX8_init 145 = .ok (.iconst 3, 1) := by decide +kernel
theorem dX8_init_146 : decode cX8_init 146 = .ok (.if_icmp .ge 22, 3) := by decide +kernel
theorem dX8_init_149 : decode cX8_init 149 = .ok (.aload_n 0, 1) := by decide +kernel
theorem dX8_init_150 : decode cX8_init 150 = .ok (.getfield 34, 3) := by decide +kernel
theorem dX8_init_153 : decode cX8_init 153 = .ok (.iload_n 1, 1) := by decide +kernel
theorem dX8_init_154 : decode cX8_init 154 = .ok (.new 24, 3) := by decide +kernel
theorem dX8_init_157 : decode cX8_init 157 = .ok (.dup, 1) := by decide +kernel
theorem dX8_init_158 : decode cX8_init 158 = .ok (.invokespecial 26, 3) := by decide +kernel
theorem dX8_init_161 : decode cX8_init 161 = .ok (.aastore, 1) := by decide +kernel
theorem dX8_init_162 : decode cX8_init 162 = .ok (.iinc 1 1, 3) := by decide +kernel
theorem dX8_init_165 : decode cX8_init 165 = .ok (.goto (-21), 3) := by decide +kernel
theorem dX8_init_168 : decode cX8_init 168 = .ok (.iconst 0, 1) := by decide +kernel
theorem dX8_init_169 : decode cX8_init 169 = .ok (.istore_n 1, 1) := by decide +kernel
theorem dX8_init_170 : decode cX8_init 170 = .ok (.iload_n 1, 1) := by decide +kernel
theorem dX8_init_171 : decode cX8_init 171 = .ok (.iconst 4, 1) := by decide +kernel
theorem dX8_init_172 : decode cX8_init 172 = .ok (.if_icmp .ge 22, 3) := by decide +kernel
theorem dX8_init_175 : decode cX8_init 175 = .ok (.aload_n 0, 1) := by decide +kernel
theorem dX8_init_176 : decode cX8_init 176 = .ok (.getfield 44, 3) := by decide +kernel
theorem dX8_init_179 : decode cX8_init 179 = .ok (.iload_n 1, 1) := by decide +kernel
theorem dX8_init_180 : decode cX8_init 180 = .ok (.new 42, 3) := by decide +kernel
theorem dX8_init_183 : decode cX8_init 183 = .ok (.dup, 1) := by decide +kernel
theorem dX8_init_184 : decode cX8_init 184 = .ok (.invokespecial 86, 3) := by decide +kernel
theorem dX8_init_187 : decode cX8_init 187 = .ok (.aastore, 1) := by decide +kernel
theorem dX8_init_188 : decode cX8_init 188 = .ok (.iinc 1 1, 3) := by decide +kernel
theorem dX8_init_191 : decode cX8_init 191 = .ok (.goto (-21), 3) := by decide +kernel
theorem dX8_init_194 : decode cX8_init 194 = .ok (.return_, 1) := by decide +kernel
theorem dX8_feed_0 : decode cX8_feed 0 = .ok (.aload_n 0, 1) := by decide +kernel
theorem dX8_feed_1 : decode cX8_feed 1 = .ok (.getfield 13, 3) := by decide +kernel
theorem dX8_feed_4 : decode cX8_feed 4 = .ok (.bipush 20, 2) := by decide +kernel
theorem dX8_feed_6 : decode cX8_feed 6 = .ok (.iadd, 1) := by decide +kernel
theorem dX8_feed_7 : decode cX8_feed 7 = .ok (.sipush 1400, 3) := by decide +kernel
theorem dX8_feed_10 : decode cX8_feed 10 = .ok (.if_icmp .le 5, 3) := by decide +kernel
theorem dX8_feed_13 : decode cX8_feed 13 = .ok (.iconst (-1), 1) := by decide +kernel
theorem dX8_feed_14 : decode cX8_feed 14 = .ok (.ireturn, 1) := by decide +kernel
theorem dX8_feed_15 : decode cX8_feed 15 = .ok (.aload_n 0, 1) := by decide +kernel
theorem dX8_feed_16 : decode cX8_feed 16 = .ok (.iload_n 1, 1) := by decide +kernel
theorem dX8_feed_17 : decode cX8_feed 17 = .ok (.invokevirtual 87, 3) := by decide +kernel
theorem dX8_feed_20 : decode cX8_feed 20 = .ok (.aload_n 0, 1) := by decide +kernel
theorem dX8_feed_21 : decode cX8_feed 21 = .ok (.iload_n 2, 1) := by decide +kernel
theorem dX8_feed_22 : decode cX8_feed 22 = .ok (.invokevirtual 87, 3) := by decide +kernel
theorem dX8_feed_25 : decode cX8_feed 25 = .ok (.aload_n 0, 1) := by decide +kernel
theorem dX8_feed_26 : decode cX8_feed 26 = .ok (.iload_n 3, 1) := by decide +kernel
theorem dX8_feed_27 : decode cX8_feed 27 = .ok (.invokevirtual 87, 3) := by decide +kernel
theorem dX8_feed_30 : decode cX8_feed 30 = .ok (.aload_n 0, 1) := by decide +kernel
theorem dX8_feed_31 : decode cX8_feed 31 = .ok (.iload 4, 2) := by decide +kernel
theorem dX8_feed_33 : decode cX8_feed 33 = .ok (.invokevirtual 87, 3) := by decide +kernel
theorem dX8_feed_36 : decode cX8_feed 36 = .ok (.aload_n 0, 1) := by decide +kernel
theorem dX8_feed_37 : decode cX8_feed 37 = .ok (.iload 5, 2) := by decide +kernel
theorem dX8_feed_39 : decode cX8_feed 39 = .ok (.invokevirtual 87, 3) := by decide +kernel
theorem dX8_feed_42 : decode cX8_feed 42 = .ok (.aload_n 0, 1) := by decide +kernel
theorem dX8_feed_43 : decode cX8_feed 43 = .ok (.getfield 13, 3) := by decide +kernel
theorem dX8_feed_46 : decode cX8_feed 46 = .ok (.ireturn, 1) := by decide +kernel
theorem dX8_putNumber_0 : decode cX8_putNumber 0 = .ok (.bipush 24, 2) := by decide +kernel
theorem dX8_putNumber_2 : decode cX8_putNumber 2 = .ok (.istore_n 2, 1) := by decide +kernel
theorem dX8_putNumber_3 : decode cX8_putNumber 3 = .ok (.iload_n 2, 1) := by decide +kernel
theorem dX8_putNumber_4 : decode cX8_putNumber 4 = .ok (.ifCond .lt 51, 3) := by decide +kernel
theorem dX8_putNumber_7 : decode cX8_putNumber 7 = .ok (.aload_n 0, 1) := by decide +kernel
theorem dX8_putNumber_8 : decode cX8_putNumber 8 = .ok (.getfield 13, 3) := by decide +kernel
theorem dX8_putNumber_11 : decode cX8_putNumber 11 = .ok (.ifCond .lt 38, 3) := by decide +kernel
theorem dX8_putNumber_14 : decode cX8_putNumber 14 = .ok (.aload_n 0, 1) := by decide +kernel
theorem dX8_putNumber_15 : decode cX8_putNumber 15 = .ok (.getfield 13, 3) := by decide +kernel
theorem dX8_putNumber_18 : decode cX8_putNumber 18 = .ok (.aload_n 0, 1) := by decide +kernel
theorem dX8_putNumber_19 : decode cX8_putNumber 19 = .ok (.getfield 9, 3) := by decide +kernel
theorem dX8_putNumber_22 : decode cX8_putNumber 22 = .ok (.arraylength, 1) := by decide +kernel
theorem dX8_putNumber_23 : decode cX8_putNumber 23 = .ok (.if_icmp .ge 26, 3) := by decide +kernel
theorem dX8_putNumber_26 : decode cX8_putNumber 26 = .ok (.aload_n 0, 1) := by decide +kernel
theorem dX8_putNumber_27 : decode cX8_putNumber 27 = .ok (.getfield 9, 3) := by decide +kernel
theorem dX8_putNumber_30 : decode cX8_putNumber 30 = .ok (.aload_n 0, 1) := by decide +kernel
theorem dX8_putNumber_31 : decode cX8_putNumber 31 = .ok (.getfield 13, 3) := by decide +kernel
theorem dX8_putNumber_34 : decode cX8_putNumber 34 = .ok (.iload_n 1, 1) := by decide +kernel
theorem dX8_putNumber_35 : decode cX8_putNumber 35 = .ok (.iload_n 2, 1) := by decide +kernel
theorem dX8_putNumber_36 : decode cX8_putNumber 36 = .ok (.iushr, 1) := by decide +kernel
theorem dX8_putNumber_37 : decode cX8_putNumber 37 = .ok (.i2b, 1) := by decide +kernel
theorem dX8_putNumber_38 : decode cX8_putNumber 38 = .ok (.bastore, 1) := by decide +kernel
theorem dX8_putNumber_39 : decode cX8_putNumber 39 = .ok (.aload_n 0, 1) := by decide +kernel
theorem dX8_putNumber_40 : decode cX8_putNumber 40 = .ok (.dup, 1) := by decide +kernel
theorem dX8_putNumber_41 : decode cX8_putNumber 41 = .ok (.getfield 13, 3) := by decide +kernel
theorem dX8_putNumber_44 : decode cX8_putNumber 44 = .ok (.iconst 1, 1) := by decide +kernel
theorem dX8_putNumber_45 : decode cX8_putNumber 45 = .ok (.iadd, 1) := by decide +kernel
theorem dX8_putNumber_46 : decode cX8_putNumber 46 = .ok (.putfield 13, 3) := by decide +kernel
theorem dX8_putNumber_49 : decode cX8_putNumber 49 = .ok (.iinc 2 (-8), 3) := by decide +kernel
theorem dX8_putNumber_52 : decode cX8_putNumber 52 = .ok (.goto (-49), 3) := by decide +kernel
theorem dX8_putNumber_55 : decode cX8_putNumber 55 = .ok (.return_, 1) := by decide +kernel
theorem dX8_end_0 : decode cX8_end 0 = .ok (.iload_n 1, 1) := by decide +kernel
theorem dX8_end_1 : decode cX8_end 1 = .ok (.ifCond .lt 11, 3) := by decide +kernel
theorem dX8_end_4 : decode cX8_end 4 = .ok (.iload_n 1, 1) := by decide +kernel
theorem dX8_end_5 : decode cX8_end 5 = .ok (.aload_n 0, 1) := by decide +kernel
theorem dX8_end_6 : decode cX8_end 6 = .ok (.getfield 13, 3) := by decide +kernel
theorem dX8_end_9 : decode cX8_end 9 = .ok (.if_icmp .le 5, 3) := by decide +kernel
theorem dX8_end_12 : decode cX8_end 12 = .ok (.iconst (-1), 1) := by decide +kernel
theorem dX8_end_13 : decode cX8_end 13 = .ok (.ireturn, 1) := by decide +kernel
theorem dX8_end_14 : decode cX8_end 14 = .ok (.aload_n 0, 1) := by decide +kernel
theorem dX8_end_15 : decode cX8_end 15 = .ok (.iload_n 1, 1) := by decide +kernel
theorem dX8_end_16 : decode cX8_end 16 = .ok (.putfield 13, 3) := by decide +kernel
theorem dX8_end_19 : decode cX8_end 19 = .ok (.iload_n 1, 1) := by decide +kernel
theorem dX8_end_20 : decode cX8_end 20 = .ok (.ireturn, 1) := by decide +kernel
theorem dX8_mountain_0 : decode cX8_mountain 0 = .ok (.aload_n 0, 1) := by decide +kernel
theorem dX8_mountain_1 : decode cX8_mountain 1 = .ok (.getfield 13, 3) := by decide +kernel
theorem dX8_mountain_4 : decode cX8_mountain 4 = .ok (.istore_n 1, 1) := by decide +kernel
theorem dX8_mountain_5 : decode cX8_mountain 5 = .ok (.aload_n 0, 1) := by decide +kernel
theorem dX8_mountain_6 : decode cX8_mountain 6 = .ok (.iconst 0, 1) := by decide +kernel
theorem dX8_mountain_7 : decode cX8_mountain 7 = .ok (.putfield 13, 3) := by decide +kernel
theorem dX8_mountain_10 : decode cX8_mountain 10 = .ok (.aload_n 0, 1) := by decide +kernel
theorem dX8_mountain_11 : decode cX8_mountain 11 = .ok (.getfield 20, 3) := by decide +kernel
theorem dX8_mountain_14 : decode cX8_mountain 14 = .ok (.aload_n 0, 1) := by decide +kernel
theorem dX8_mountain_15 : decode cX8_mountain 15 = .ok (.getfield 9, 3) := by decide +kernel
theorem dX8_mountain_18 : decode cX8_mountain 18 = .ok (.iload_n 1, 1) := by decide +kernel
theorem dX8_mountain_19 : decode cX8_mountain 19 = .ok (.aload_n 0, 1) := by decide +kernel
theorem dX8_mountain_20 : decode cX8_mountain 20 = .ok (.getfield 31, 3) := by decide +kernel
theorem dX8_mountain_23 : decode cX8_mountain 23 = .ok (.invokevirtual 91, 3) := by decide +kernel
theorem dX8_mountain_26 : decode cX8_mountain 26 = .ok (.ifCond .ne 6, 3) := by decide +kernel
theorem dX8_mountain_29 : decode cX8_mountain 29 = .ok (.bipush (-4), 2) := by decide +kernel
theorem dX8_mountain_31 : decode cX8_mountain 31 = .ok (.ireturn, 1) := by decide +kernel
theorem dX8_mountain_32 : decode cX8_mountain 32 = .ok (.aload_n 0, 1) := by decide +kernel
theorem dX8_mountain_33 : decode cX8_mountain 33 = .ok (.getfield 27, 3) := by decide +kernel
theorem dX8_mountain_36 : decode cX8_mountain 36 = .ok (.astore_n 2, 1) := by decide +kernel
theorem dX8_mountain_37 : decode cX8_mountain 37 = .ok (.aload_n 0, 1) := by decide +kernel
theorem dX8_mountain_38 : decode cX8_mountain 38 = .ok (.aload_n 0, 1) := by decide +kernel
