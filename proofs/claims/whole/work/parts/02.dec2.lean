theorem dX9_is_82 : decode cX9_is 82 = .ok (.iload_n 2, 1) := by decide +kernel
theorem dX9_is_83 : decode cX9_is 83 = .ok (.ireturn, 1) := by decide +kernel
theorem dX9_takes_0 : decode cX9_takes 0 = .ok (.aload_n 0, 1) := by decide +kernel
theorem dX9_takes_1 : decode cX9_takes 1 = .ok (.aload_n 1, 1) := by decide +kernel
theorem dX9_takes_2 : decode cX9_takes 2 = .ok (.invokevirtual 149, 3) := by decide +kernel
theorem dX9_takes_5 : decode cX9_takes 5 = .ok (.istore_n 2, 1) := by decide +kernel
theorem dX9_takes_6 : decode cX9_takes 6 = .ok (.iload_n 2, 1) := by decide +kernel
theorem dX9_takes_7 : decode cX9_takes 7 = .ok (.ifCond .eq 7, 3) := by decide +kernel
theorem dX9_takes_10 : decode cX9_takes 10 = .ok (.aload_n 0, 1) := by decide +kernel
theorem dX9_takes_11 : decode cX9_takes 11 = .ok (.invokevirtual 153, 3) := by decide +kernel
theorem dX9_takes_14 : decode cX9_takes 14 = .ok (.iload_n 2, 1) := by decide +kernel
theorem dX9_takes_15 : decode cX9_takes 15 = .ok (.ireturn, 1) := by decide +kernel
theorem dX9_needs_0 : decode cX9_needs 0 = .ok (.aload_n 0, 1) := by decide +kernel
theorem dX9_needs_1 : decode cX9_needs 1 = .ok (.aload_n 1, 1) := by decide +kernel
theorem dX9_needs_2 : decode cX9_needs 2 = .ok (.invokevirtual 156, 3) := by decide +kernel
theorem dX9_needs_5 : decode cX9_needs 5 = .ok (.ifCond .ne 8, 3) := by decide +kernel
theorem dX9_needs_8 : decode cX9_needs 8 = .ok (.aload_n 0, 1) := by decide +kernel
theorem dX9_needs_9 : decode cX9_needs 9 = .ok (.iconst 1, 1) := by decide +kernel
theorem dX9_needs_10 : decode cX9_needs 10 = .ok (.invokevirtual 159, 3) := by decide +kernel
theorem dX9_needs_13 : decode cX9_needs 13 = .ok (.return_, 1) := by decide +kernel
theorem dX9_number_0 : decode cX9_number 0 = .ok (.aload_n 0, 1) := by decide +kernel
theorem dX9_number_1 : decode cX9_number 1 = .ok (.invokevirtual 136, 3) := by decide +kernel
theorem dX9_number_4 : decode cX9_number 4 = .ok (.ifCond .eq 16, 3) := by decide +kernel
theorem dX9_number_7 : decode cX9_number 7 = .ok (.aload_n 0, 1) := by decide +kernel
theorem dX9_number_8 : decode cX9_number 8 = .ok (.getfield 115, 3) := by decide +kernel
theorem dX9_number_11 : decode cX9_number 11 = .ok (.iconst 2, 1) := by decide +kernel
theorem dX9_number_12 : decode cX9_number 12 = .ok (.if_icmp .eq 8, 3) := by decide +kernel
theorem dX9_number_15 : decode cX9_number 15 = .ok (.aload_n 0, 1) := by decide +kernel
theorem dX9_number_16 : decode cX9_number 16 = .ok (.iconst 1, 1) := by decide +kernel
theorem dX9_number_17 : decode cX9_number 17 = .ok (.invokevirtual 159, 3) := by decide +kernel
theorem dX9_number_20 : decode cX9_number 20 = .ok (.aload_n 0, 1) := by decide +kernel
theorem dX9_number_21 : decode cX9_number 21 = .ok (.invokevirtual 136, 3) := by decide +kernel
theorem dX9_number_24 : decode cX9_number 24 = .ok (.ifCond .eq 23, 3) := by decide +kernel
theorem dX9_number_27 : decode cX9_number 27 = .ok (.aload_n 0, 1) := by decide +kernel
theorem dX9_number_28 : decode cX9_number 28 = .ok (.getfield 126, 3) := by decide +kernel
theorem dX9_number_31 : decode cX9_number 31 = .ok (.i2l, 1) := by decide +kernel
theorem dX9_number_32 : decode cX9_number 32 = .ok (.iload_n 1, 1) := by decide +kernel
theorem dX9_number_33 : decode cX9_number 33 = .ok (.i2l, 1) := by decide +kernel
theorem dX9_number_34 : decode cX9_number 34 = .ok (.iload_n 2, 1) := by decide +kernel
theorem dX9_number_35 : decode cX9_number 35 = .ok (.i2l, 1) := by decide +kernel
theorem dX9_number_36 : decode cX9_number 36 = .ok (.invokestatic 82, 3) := by decide +kernel
theorem dX9_number_39 : decode cX9_number 39 = .ok (.ifCond .ne 8, 3) := by decide +kernel
theorem dX9_number_42 : decode cX9_number 42 = .ok (.aload_n 0, 1) := by decide +kernel
theorem dX9_number_43 : decode cX9_number 43 = .ok (.iconst 2, 1) := by decide +kernel
theorem dX9_number_44 : decode cX9_number 44 = .ok (.invokevirtual 159, 3) := by decide +kernel
theorem dX9_number_47 : decode cX9_number 47 = .ok (.aload_n 0, 1) := by decide +kernel
theorem dX9_number_48 : decode cX9_number 48 = .ok (.invokevirtual 136, 3) := by decide +kernel
theorem dX9_number_51 : decode cX9_number 51 = .ok (.ifCond .ne 5, 3) := by decide +kernel
theorem dX9_number_54 : decode cX9_number 54 = .ok (.iconst 0, 1) := by decide +kernel
theorem dX9_number_55 : decode cX9_number 55 = .ok (.ireturn, 1) := by decide +kernel
theorem dX9_number_56 : decode cX9_number 56 = .ok (.aload_n 0, 1) := by decide +kernel
theorem dX9_number_57 : decode cX9_number 57 = .ok (.getfield 126, 3) := by decide +kernel
theorem dX9_number_60 : decode cX9_number 60 = .ok (.istore_n 3, 1) := by decide +kernel
theorem dX9_number_61 : decode cX9_number 61 = .ok (.aload_n 0, 1) := by decide +kernel
theorem dX9_number_62 : decode cX9_number 62 = .ok (.invokevirtual 153, 3) := by decide +kernel
theorem dX9_number_65 : decode cX9_number 65 = .ok (.iload_n 3, 1) := by decide +kernel
theorem dX9_number_66 : decode cX9_number 66 = .ok (.ireturn, 1) := by decide +kernel
theorem dX9_told_0 : decode cX9_told 0 = .ok (.aload_n 0, 1) := by decide +kernel
theorem dX9_told_1 : decode cX9_told 1 = .ok (.aload_n 1, 1) := by decide +kernel
theorem dX9_told_2 : decode cX9_told 2 = .ok (.invokevirtual 163, 3) := by decide +kernel
theorem dX9_told_5 : decode cX9_told 5 = .ok (.aload_n 0, 1) := by decide +kernel
theorem dX9_told_6 : decode cX9_told 6 = .ok (.iload_n 2, 1) := by decide +kernel
theorem dX9_told_7 : decode cX9_told 7 = .ok (.iload_n 3, 1) := by decide +kernel
theorem dX9_told_8 : decode cX9_told 8 = .ok (.invokevirtual 167, 3) := by decide +kernel
theorem dX9_told_11 : decode cX9_told 11 = .ok (.ireturn, 1) := by decide +kernel
theorem dX9_fault_0 : decode cX9_fault 0 = .ok (.iload_n 1, 1) := by decide +kernel
theorem dX9_fault_1 : decode cX9_fault 1 = .ok (.ifCond .ne 10, 3) := by decide +kernel
theorem dX9_fault_4 : decode cX9_fault 4 = .ok (.aload_n 0, 1) := by decide +kernel
theorem dX9_fault_5 : decode cX9_fault 5 = .ok (.getfield 133, 3) := by decide +kernel
theorem dX9_fault_8 : decode cX9_fault 8 = .ok (.goto 16, 3) := by decide +kernel
theorem dX9_fault_11 : decode cX9_fault 11 = .ok (.iload_n 1, 1) := by decide +kernel
theorem dX9_fault_12 : decode cX9_fault 12 = .ok (.iconst 1, 1) := by decide +kernel
theorem dX9_fault_13 : decode cX9_fault 13 = .ok (.if_icmp .ne 10, 3) := by decide +kernel
theorem dX9_fault_16 : decode cX9_fault 16 = .ok (.aload_n 0, 1) := by decide +kernel
theorem dX9_fault_17 : decode cX9_fault 17 = .ok (.getfield 27, 3) := by decide +kernel
theorem dX9_fault_20 : decode cX9_fault 20 = .ok (.goto 4, 3) := by decide +kernel
theorem dX9_fault_23 : decode cX9_fault 23 = .ok (.iconst (-1), 1) := by decide +kernel
theorem dX9_fault_24 : decode cX9_fault 24 = .ok (.ireturn, 1) := by decide +kernel
theorem dX9_freshPlace_0 : decode cX9_freshPlace 0 = .ok (.aload_n 0, 1) := by decide +kernel
theorem dX9_freshPlace_1 : decode cX9_freshPlace 1 = .ok (.iconst 0, 1) := by decide +kernel
theorem dX9_freshPlace_2 : decode cX9_freshPlace 2 = .ok (.aload_n 0, 1) := by decide +kernel
theorem dX9_freshPlace_3 : decode cX9_freshPlace 3 = .ok (.getfield 31, 3) := by decide +kernel
theorem dX9_freshPlace_6 : decode cX9_freshPlace 6 = .ok (.iconst 0, 1) := by decide +kernel
theorem dX9_freshPlace_7 : decode cX9_freshPlace 7 = .ok (.iaload, 1) := by decide +kernel
theorem dX9_freshPlace_8 : decode cX9_freshPlace 8 = .ok (.iconst 1, 1) := by decide +kernel
theorem dX9_freshPlace_9 : decode cX9_freshPlace 9 = .ok (.isub, 1) := by decide +kernel
theorem dX9_freshPlace_10 : decode cX9_freshPlace 10 = .ok (.invokevirtual 167, 3) := by decide +kernel
theorem dX9_freshPlace_13 : decode cX9_freshPlace 13 = .ok (.ireturn, 1) := by decide +kernel
theorem dX9_freshYear_0 : decode cX9_freshYear 0 = .ok (.aload_n 0, 1) := by decide +kernel
theorem dX9_freshYear_1 : decode cX9_freshYear 1 = .ok (.iconst 0, 1) := by decide +kernel
theorem dX9_freshYear_2 : decode cX9_freshYear 2 = .ok (.aload_n 0, 1) := by decide +kernel
theorem dX9_freshYear_3 : decode cX9_freshYear 3 = .ok (.getfield 31, 3) := by decide +kernel
theorem dX9_freshYear_6 : decode cX9_freshYear 6 = .ok (.iconst 1, 1) := by decide +kernel
theorem dX9_freshYear_7 : decode cX9_freshYear 7 = .ok (.iaload, 1) := by decide +kernel
theorem dX9_freshYear_8 : decode cX9_freshYear 8 = .ok (.iconst 1, 1) := by decide +kernel
theorem dX9_freshYear_9 : decode cX9_freshYear 9 = .ok (.isub, 1) := by decide +kernel
theorem dX9_freshYear_10 : decode cX9_freshYear 10 = .ok (.invokevirtual 167, 3) := by decide +kernel
theorem dX9_freshYear_13 : decode cX9_freshYear 13 = .ok (.ireturn, 1) := by decide +kernel
theorem dX9_isFreshPath_0 : decode cX9_isFreshPath 0 = .ok (.iconst 0, 1) := by decide +kernel
theorem dX9_isFreshPath_1 : decode cX9_isFreshPath 1 = .ok (.istore_n 3, 1) := by decide +kernel
theorem dX9_isFreshPath_2 : decode cX9_isFreshPath 2 = .ok (.iload_n 3, 1) := by decide +kernel
theorem dX9_isFreshPath_3 : decode cX9_isFreshPath 3 = .ok (.aload_n 0, 1) := by decide +kernel
theorem dX9_isFreshPath_4 : decode cX9_isFreshPath 4 = .ok (.getfield 31, 3) := by decide +kernel
theorem dX9_isFreshPath_7 : decode cX9_isFreshPath 7 = .ok (.iconst 2, 1) := by decide +kernel
theorem dX9_isFreshPath_8 : decode cX9_isFreshPath 8 = .ok (.iaload, 1) := by decide +kernel
theorem dX9_isFreshPath_9 : decode cX9_isFreshPath 9 = .ok (.if_icmp .ge 67, 3) := by decide +kernel
theorem dX9_isFreshPath_12 : decode cX9_isFreshPath 12 = .ok (.bipush 45, 2) := by decide +kernel
theorem dX9_isFreshPath_14 : decode cX9_isFreshPath 14 = .ok (.iconst 2, 1) := by decide +kernel
theorem dX9_isFreshPath_15 : decode cX9_isFreshPath 15 = .ok (.iload_n 3, 1) := by decide +kernel
theorem dX9_isFreshPath_16 : decode cX9_isFreshPath 16 = .ok (.imul, 1) := by decide +kernel
theorem dX9_isFreshPath_17 : decode cX9_isFreshPath 17 = .ok (.iadd, 1) := by decide +kernel
theorem dX9_isFreshPath_18 : decode cX9_isFreshPath 18 = .ok (.istore 4, 2) := by decide +kernel
theorem dX9_isFreshPath_20 : decode cX9_isFreshPath 20 = .ok (.aload_n 0, 1) := by decide +kernel
theorem dX9_isFreshPath_21 : decode cX9_isFreshPath 21 = .ok (.getfield 31, 3) := by decide +kernel
theorem dX9_isFreshPath_24 : decode cX9_isFreshPath 24 = .ok (.iload 4, 2) := by decide +kernel
theorem dX9_isFreshPath_26 : decode cX9_isFreshPath 26 = .ok (.iaload, 1) := by decide +kernel
theorem dX9_isFreshPath_27 : decode cX9_isFreshPath 27 = .ok (.iload_n 1, 1) := by decide +kernel
theorem dX9_isFreshPath_28 : decode cX9_isFreshPath 28 = .ok (.if_icmp .ne 16, 3) := by decide +kernel
theorem dX9_isFreshPath_31 : decode cX9_isFreshPath 31 = .ok (.aload_n 0, 1) := by decide +kernel
theorem dX9_isFreshPath_32 : decode cX9_isFreshPath 32 = .ok (.getfield 31, 3) := by decide +kernel
theorem dX9_isFreshPath_35 : decode cX9_isFreshPath 35 = .ok (.iload 4, 2) := by decide +kernel
theorem dX9_isFreshPath_37 : decode cX9_isFreshPath 37 = .ok (.iconst 1, 1) := by decide +kernel
theorem dX9_isFreshPath_38 : decode cX9_isFreshPath 38 = .ok (.iadd, 1) := by decide +kernel
theorem dX9_isFreshPath_39 : decode cX9_isFreshPath 39 = .ok (.iaload, 1) := by decide +kernel
theorem dX9_isFreshPath_40 : decode cX9_isFreshPath 40 = .ok (.iload_n 2, 1) := by decide +kernel
theorem dX9_isFreshPath_41 : decode cX9_isFreshPath 41 = .ok (.if_icmp .eq 27, 3) := by decide +kernel
theorem dX9_isFreshPath_44 : decode cX9_isFreshPath 44 = .ok (.aload_n 0, 1) := by decide +kernel
theorem dX9_isFreshPath_45 : decode cX9_isFreshPath 45 = .ok (.getfield 31, 3) := by decide +kernel
theorem dX9_isFreshPath_48 : decode cX9_isFreshPath 48 = .ok (.iload 4, 2) := by decide +kernel
theorem dX9_isFreshPath_50 : decode cX9_isFreshPath 50 = .ok (.iaload, 1) := by decide +kernel
theorem dX9_isFreshPath_51 : decode cX9_isFreshPath 51 = .ok (.iload_n 2, 1) := by decide +kernel
theorem dX9_isFreshPath_52 : decode cX9_isFreshPath 52 = .ok (.if_icmp .ne 18, 3) := by decide +kernel
theorem dX9_isFreshPath_55 : decode cX9_isFreshPath 55 = .ok (.aload_n 0, 1) := by decide +kernel
theorem dX9_isFreshPath_56 : decode cX9_isFreshPath 56 = .ok (.getfield 31, 3) := by decide +kernel
theorem dX9_isFreshPath_59 : decode cX9_isFreshPath 59 = .ok (.iload 4, 2) := by decide +kernel
theorem dX9_isFreshPath_61 : decode cX9_isFreshPath 61 = .ok (.iconst 1, 1) := by decide +kernel
theorem dX9_isFreshPath_62 : decode cX9_isFreshPath 62 = .ok (.iadd, 1) := by decide +kernel
theorem dX9_isFreshPath_63 : decode cX9_isFreshPath 63 = .ok (.iaload, 1) := by decide +kernel
theorem dX9_isFreshPath_64 : decode cX9_isFreshPath 64 = .ok (.iload_n 1, 1) := by decide +kernel
theorem dX9_isFreshPath_65 : decode cX9_isFreshPath 65 = .ok (.if_icmp .ne 5, 3) := by decide +kernel
theorem dX9_isFreshPath_68 : decode cX9_isFreshPath 68 = .ok (.iconst 1, 1) := by decide +kernel
theorem dX9_isFreshPath_69 : decode cX9_isFreshPath 69 = .ok (.ireturn, 1) := by decide +kernel
theorem dX9_isFreshPath_70 : decode cX9_isFreshPath 70 = .ok (.iinc 3 1, 3) := by decide +kernel
theorem dX9_isFreshPath_73 : decode cX9_isFreshPath 73 = .ok (.goto (-71), 3) := by decide +kernel
theorem dX9_isFreshPath_76 : decode cX9_isFreshPath 76 = .ok (.iconst 0, 1) := by decide +kernel
theorem dX9_isFreshPath_77 : decode cX9_isFreshPath 77 = .ok (.ireturn, 1) := by decide +kernel
theorem dX9_readPath_0 : decode cX9_readPath 0 = .ok (.bipush 45, 2) := by decide +kernel
theorem dX9_readPath_2 : decode cX9_readPath 2 = .ok (.iconst 2, 1) := by decide +kernel
theorem dX9_readPath_3 : decode cX9_readPath 3 = .ok (.aload_n 0, 1) := by decide +kernel
theorem dX9_readPath_4 : decode cX9_readPath 4 = .ok (.getfield 31, 3) := by decide +kernel
theorem dX9_readPath_7 : decode cX9_readPath 7 = .ok (.iconst 2, 1) := by decide +kernel
theorem dX9_readPath_8 : decode cX9_readPath 8 = .ok (.iaload, 1) := by decide +kernel
theorem dX9_readPath_9 : decode cX9_readPath 9 = .ok (.imul, 1) := by decide +kernel
theorem dX9_readPath_10 : decode cX9_readPath 10 = .ok (.iadd, 1) := by decide +kernel
theorem dX9_readPath_11 : decode cX9_readPath 11 = .ok (.istore_n 1, 1) := by decide +kernel
theorem dX9_readPath_12 : decode cX9_readPath 12 = .ok (.aload_n 0, 1) := by decide +kernel
theorem dX9_readPath_13 : decode cX9_readPath 13 = .ok (.invokevirtual 170, 3) := by decide +kernel
theorem dX9_readPath_16 : decode cX9_readPath 16 = .ok (.istore_n 2, 1) := by decide +kernel
theorem dX9_readPath_17 : decode cX9_readPath 17 = .ok (.aload_n 0, 1) := by decide +kernel
theorem dX9_readPath_18 : decode cX9_readPath 18 = .ok (.ldc 173, 2) := by decide +kernel
theorem dX9_readPath_20 : decode cX9_readPath 20 = .ok (.invokevirtual 163, 3) := by decide +kernel
theorem dX9_readPath_23 : decode cX9_readPath 23 = .ok (.aload_n 0, 1) := by decide +kernel
theorem dX9_readPath_24 : decode cX9_readPath 24 = .ok (.invokevirtual 136, 3) := by decide +kernel
theorem dX9_readPath_27 : decode cX9_readPath 27 = .ok (.ifCond .eq 36, 3) := by decide +kernel
theorem dX9_readPath_30 : decode cX9_readPath 30 = .ok (.aload_n 0, 1) := by decide +kernel
theorem dX9_readPath_31 : decode cX9_readPath 31 = .ok (.getfield 115, 3) := by decide +kernel
theorem dX9_readPath_34 : decode cX9_readPath 34 = .ok (.iconst 2, 1) := by decide +kernel
theorem dX9_readPath_35 : decode cX9_readPath 35 = .ok (.if_icmp .ne 28, 3) := by decide +kernel
theorem dX9_readPath_38 : decode cX9_readPath 38 = .ok (.aload_n 0, 1) := by decide +kernel
theorem dX9_readPath_39 : decode cX9_readPath 39 = .ok (.getfield 126, 3) := by decide +kernel
theorem dX9_readPath_42 : decode cX9_readPath 42 = .ok (.iload_n 2, 1) := by decide +kernel
theorem dX9_readPath_43 : decode cX9_readPath 43 = .ok (.if_icmp .eq 15, 3) := by decide +kernel
theorem dX9_readPath_46 : decode cX9_readPath 46 = .ok (.aload_n 0, 1) := by decide +kernel
theorem dX9_readPath_47 : decode cX9_readPath 47 = .ok (.iload_n 2, 1) := by decide +kernel
theorem dX9_readPath_48 : decode cX9_readPath 48 = .ok (.aload_n 0, 1) := by decide +kernel
theorem dX9_readPath_49 : decode cX9_readPath 49 = .ok (.getfield 126, 3) := by decide +kernel
theorem dX9_readPath_52 : decode cX9_readPath 52 = .ok (.invokevirtual 175, 3) := by decide +kernel
theorem dX9_readPath_55 : decode cX9_readPath 55 = .ok (.ifCond .eq 8, 3) := by decide +kernel
theorem dX9_readPath_58 : decode cX9_readPath 58 = .ok (.aload_n 0, 1) := by decide +kernel
theorem dX9_readPath_59 : decode cX9_readPath 59 = .ok (.iconst 2, 1) := by decide +kernel
theorem dX9_readPath_60 : decode cX9_readPath 60 = .ok (.invokevirtual 159, 3) := by decide +kernel
theorem dX9_readPath_63 : decode cX9_readPath 63 = .ok (.aload_n 0, 1) := by decide +kernel
theorem dX9_readPath_64 : decode cX9_readPath 64 = .ok (.invokevirtual 170, 3) := by decide +kernel
theorem dX9_readPath_67 : decode cX9_readPath 67 = .ok (.istore_n 3, 1) := by decide +kernel
theorem dX9_readPath_68 : decode cX9_readPath 68 = .ok (.aload_n 0, 1) := by decide +kernel
theorem dX9_readPath_69 : decode cX9_readPath 69 = .ok (.invokevirtual 136, 3) := by decide +kernel
theorem dX9_readPath_72 : decode cX9_readPath 72 = .ok (.ifCond .ne 4, 3) := by decide +kernel
theorem dX9_readPath_75 : decode cX9_readPath 75 = .ok (.return_, 1) := by decide +kernel
theorem dX9_readPath_76 : decode cX9_readPath 76 = .ok (.aload_n 0, 1) := by decide +kernel
theorem dX9_readPath_77 : decode cX9_readPath 77 = .ok (.getfield 31, 3) := by decide +kernel
theorem dX9_readPath_80 : decode cX9_readPath 80 = .ok (.iload_n 1, 1) := by decide +kernel
theorem dX9_readPath_81 : decode cX9_readPath 81 = .ok (.iload_n 2, 1) := by decide +kernel
theorem dX9_readPath_82 : decode cX9_readPath 82 = .ok (.iastore, 1) := by decide +kernel
theorem dX9_readPath_83 : decode cX9_readPath 83 = .ok (.aload_n 0, 1) := by decide +kernel
theorem dX9_readPath_84 : decode cX9_readPath 84 = .ok (.getfield 31, 3) := by decide +kernel
theorem dX9_readPath_87 : decode cX9_readPath 87 = .ok (.iload_n 1, 1) := by decide +kernel
theorem dX9_readPath_88 : decode cX9_readPath 88 = .ok (.iconst 1, 1) := by decide +kernel
theorem dX9_readPath_89 : decode cX9_readPath 89 = .ok (.iadd, 1) := by decide +kernel
theorem dX9_readPath_90 : decode cX9_readPath 90 = .ok (.iload_n 3, 1) := by decide +kernel
theorem dX9_readPath_91 : decode cX9_readPath 91 = .ok (.iastore, 1) := by decide +kernel
theorem dX9_readPath_92 : decode cX9_readPath 92 = .ok (.aload_n 0, 1) := by decide +kernel
theorem dX9_readPath_93 : decode cX9_readPath 93 = .ok (.getfield 31, 3) := by decide +kernel
theorem dX9_readPath_96 : decode cX9_readPath 96 = .ok (.iconst 2, 1) := by decide +kernel
theorem dX9_readPath_97 : decode cX9_readPath 97 = .ok (.dup2, 1) := by decide +kernel
theorem dX9_readPath_98 : decode cX9_readPath 98 = .ok (.iaload, 1) := by decide +kernel
theorem dX9_readPath_99 : decode cX9_readPath 99 = .ok (.iconst 1, 1) := by decide +kernel
theorem dX9_readPath_100 : decode cX9_readPath 100 = .ok (.iadd, 1) := by decide +kernel
theorem dX9_readPath_101 : decode cX9_readPath 101 = .ok (.iastore, 1) := by decide +kernel
theorem dX9_readPath_102 : decode cX9_readPath 102 = .ok (.return_, 1) := by decide +kernel
theorem dX9_readBride_0 : decode cX9_readBride 0 = .ok (.bipush 65, 2) := by decide +kernel
theorem dX9_readBride_2 : decode cX9_readBride 2 = .ok (.iconst 2, 1) := by decide +kernel
theorem dX9_readBride_3 : decode cX9_readBride 3 = .ok (.aload_n 0, 1) := by decide +kernel
theorem dX9_readBride_4 : decode cX9_readBride 4 = .ok (.getfield 31, 3) := by decide +kernel
theorem dX9_readBride_7 : decode cX9_readBride 7 = .ok (.iconst 3, 1) := by decide +kernel
theorem dX9_readBride_8 : decode cX9_readBride 8 = .ok (.iaload, 1) := by decide +kernel
theorem dX9_readBride_9 : decode cX9_readBride 9 = .ok (.imul, 1) := by decide +kernel
theorem dX9_readBride_10 : decode cX9_readBride 10 = .ok (.iadd, 1) := by decide +kernel
theorem dX9_readBride_11 : decode cX9_readBride 11 = .ok (.istore_n 1, 1) := by decide +kernel
theorem dX9_readBride_12 : decode cX9_readBride 12 = .ok (.aload_n 0, 1) := by decide +kernel
theorem dX9_readBride_13 : decode cX9_readBride 13 = .ok (.getfield 31, 3) := by decide +kernel
theorem dX9_readBride_16 : decode cX9_readBride 16 = .ok (.iload_n 1, 1) := by decide +kernel
theorem dX9_readBride_17 : decode cX9_readBride 17 = .ok (.aload_n 0, 1) := by decide +kernel
theorem dX9_readBride_18 : decode cX9_readBride 18 = .ok (.ldc 179, 2) := by decide +kernel
theorem dX9_readBride_20 : decode cX9_readBride 20 = .ok (.iconst 0, 1) := by decide +kernel
theorem dX9_readBride_21 : decode cX9_readBride 21 = .ok (.aload_n 0, 1) := by decide +kernel
theorem dX9_readBride_22 : decode cX9_readBride 22 = .ok (.getfield 31, 3) := by decide +kernel
theorem dX9_readBride_25 : decode cX9_readBride 25 = .ok (.iconst 2, 1) := by decide +kernel
theorem dX9_readBride_26 : decode cX9_readBride 26 = .ok (.iaload, 1) := by decide +kernel
theorem dX9_readBride_27 : decode cX9_readBride 27 = .ok (.iconst 1, 1) := by decide +kernel
theorem dX9_readBride_28 : decode cX9_readBride 28 = .ok (.isub, 1) := by decide +kernel
theorem dX9_readBride_29 : decode cX9_readBride 29 = .ok (.invokevirtual 181, 3) := by decide +kernel
theorem dX9_readBride_32 : decode cX9_readBride 32 = .ok (.iastore, 1) := by decide +kernel
theorem dX9_readBride_33 : decode cX9_readBride 33 = .ok (.aload_n 0, 1) := by decide +kernel
theorem dX9_readBride_34 : decode cX9_readBride 34 = .ok (.getfield 31, 3) := by decide +kernel
theorem dX9_readBride_37 : decode cX9_readBride 37 = .ok (.iload_n 1, 1) := by decide +kernel
theorem dX9_readBride_38 : decode cX9_readBride 38 = .ok (.iconst 1, 1) := by decide +kernel
theorem dX9_readBride_39 : decode cX9_readBride 39 = .ok (.iadd, 1) := by decide +kernel
theorem dX9_readBride_40 : decode cX9_readBride 40 = .ok (.aload_n 0, 1) := by decide +kernel
theorem dX9_readBride_41 : decode cX9_readBride 41 = .ok (.ldc 185, 2) := by decide +kernel
theorem dX9_readBride_43 : decode cX9_readBride 43 = .ok (.iconst 0, 1) := by decide +kernel
theorem dX9_readBride_44 : decode cX9_readBride 44 = .ok (.aload_n 0, 1) := by decide +kernel
theorem dX9_readBride_45 : decode cX9_readBride 45 = .ok (.getfield 31, 3) := by decide +kernel
theorem dX9_readBride_48 : decode cX9_readBride 48 = .ok (.iconst 1, 1) := by decide +kernel
theorem dX9_readBride_49 : decode cX9_readBride 49 = .ok (.iaload, 1) := by decide +kernel
theorem dX9_readBride_50 : decode cX9_readBride 50 = .ok (.iconst 1, 1) := by decide +kernel
theorem dX9_readBride_51 : decode cX9_readBride 51 = .ok (.isub, 1) := by decide +kernel
theorem dX9_readBride_52 : decode cX9_readBride 52 = .ok (.invokevirtual 181, 3) := by decide +kernel
theorem dX9_readBride_55 : decode cX9_readBride 55 = .ok (.iastore, 1) := by decide +kernel
theorem dX9_readBride_56 : decode cX9_readBride 56 = .ok (.aload_n 0, 1) := by decide +kernel
theorem dX9_readBride_57 : decode cX9_readBride 57 = .ok (.getfield 31, 3) := by decide +kernel
theorem dX9_readBride_60 : decode cX9_readBride 60 = .ok (.iconst 3, 1) := by decide +kernel
theorem dX9_readBride_61 : decode cX9_readBride 61 = .ok (.dup2, 1) := by decide +kernel
theorem dX9_readBride_62 : decode cX9_readBride 62 = .ok (.iaload, 1) := by decide +kernel
theorem dX9_readBride_63 : decode cX9_readBride 63 = .ok (.iconst 1, 1) := by decide +kernel
theorem dX9_readBride_64 : decode cX9_readBride 64 = .ok (.iadd, 1) := by decide +kernel
theorem dX9_readBride_65 : decode cX9_readBride 65 = .ok (.iastore, 1) := by decide +kernel
theorem dX9_readBride_66 : decode cX9_readBride 66 = .ok (.return_, 1) := by decide +kernel
theorem dX9_readSuitor_0 : decode cX9_readSuitor 0 = .ok (.bipush 73, 2) := by decide +kernel
theorem dX9_readSuitor_2 : decode cX9_readSuitor 2 = .ok (.iconst 3, 1) := by decide +kernel
theorem dX9_readSuitor_3 : decode cX9_readSuitor 3 = .ok (.aload_n 0, 1) := by decide +kernel
theorem dX9_readSuitor_4 : decode cX9_readSuitor 4 = .ok (.getfield 31, 3) := by decide +kernel
theorem dX9_readSuitor_7 : decode cX9_readSuitor 7 = .ok (.iconst 4, 1) := by decide +kernel
theorem dX9_readSuitor_8 : decode cX9_readSuitor 8 = .ok (.iaload, 1) := by decide +kernel
theorem dX9_readSuitor_9 : decode cX9_readSuitor 9 = .ok (.imul, 1) := by decide +kernel
theorem dX9_readSuitor_10 : decode cX9_readSuitor 10 = .ok (.iadd, 1) := by decide +kernel
theorem dX9_readSuitor_11 : decode cX9_readSuitor 11 = .ok (.istore_n 1, 1) := by decide +kernel
theorem dX9_readSuitor_12 : decode cX9_readSuitor 12 = .ok (.aload_n 0, 1) := by decide +kernel
theorem dX9_readSuitor_13 : decode cX9_readSuitor 13 = .ok (.getfield 31, 3) := by decide +kernel
theorem dX9_readSuitor_16 : decode cX9_readSuitor 16 = .ok (.iload_n 1, 1) := by decide +kernel
theorem dX9_readSuitor_17 : decode cX9_readSuitor 17 = .ok (.aload_n 0, 1) := by decide +kernel
theorem dX9_readSuitor_18 : decode cX9_readSuitor 18 = .ok (.ldc 186, 2) := by decide +kernel
theorem dX9_readSuitor_20 : decode cX9_readSuitor 20 = .ok (.iconst 0, 1) := by decide +kernel
theorem dX9_readSuitor_21 : decode cX9_readSuitor 21 = .ok (.bipush 30, 2) := by decide +kernel
theorem dX9_readSuitor_23 : decode cX9_readSuitor 23 = .ok (.invokevirtual 181, 3) := by decide +kernel
theorem dX9_readSuitor_26 : decode cX9_readSuitor 26 = .ok (.iastore, 1) := by decide +kernel
theorem dX9_readSuitor_27 : decode cX9_readSuitor 27 = .ok (.aload_n 0, 1) := by decide +kernel
theorem dX9_readSuitor_28 : decode cX9_readSuitor 28 = .ok (.getfield 31, 3) := by decide +kernel
theorem dX9_readSuitor_31 : decode cX9_readSuitor 31 = .ok (.iload_n 1, 1) := by decide +kernel
theorem dX9_readSuitor_32 : decode cX9_readSuitor 32 = .ok (.iconst 1, 1) := by decide +kernel
theorem dX9_readSuitor_33 : decode cX9_readSuitor 33 = .ok (.iadd, 1) := by decide +kernel
theorem dX9_readSuitor_34 : decode cX9_readSuitor 34 = .ok (.aload_n 0, 1) := by decide +kernel
theorem dX9_readSuitor_35 : decode cX9_readSuitor 35 = .ok (.ldc 188, 2) := by decide +kernel
theorem dX9_readSuitor_37 : decode cX9_readSuitor 37 = .ok (.iconst 0, 1) := by decide +kernel
theorem dX9_readSuitor_38 : decode cX9_readSuitor 38 = .ok (.bipush 100, 2) := by decide +kernel
theorem dX9_readSuitor_40 : decode cX9_readSuitor 40 = .ok (.invokevirtual 181, 3) := by decide +kernel
theorem dX9_readSuitor_43 : decode cX9_readSuitor 43 = .ok (.iastore, 1) := by decide +kernel
theorem dX9_readSuitor_44 : decode cX9_readSuitor 44 = .ok (.aload_n 0, 1) := by decide +kernel
theorem dX9_readSuitor_45 : decode cX9_readSuitor 45 = .ok (.ldc 190, 2) := by decide +kernel
theorem dX9_readSuitor_47 : decode cX9_readSuitor 47 = .ok (.invokevirtual 163, 3) := by decide +kernel
theorem dX9_readSuitor_50 : decode cX9_readSuitor 50 = .ok (.iconst 0, 1) := by decide +kernel
theorem dX9_readSuitor_51 : decode cX9_readSuitor 51 = .ok (.istore_n 2, 1) := by decide +kernel
theorem dX9_readSuitor_52 : decode cX9_readSuitor 52 = .ok (.aload_n 0, 1) := by decide +kernel
theorem dX9_readSuitor_53 : decode cX9_readSuitor 53 = .ok (.invokevirtual 136, 3) := by decide +kernel
theorem dX9_readSuitor_56 : decode cX9_readSuitor 56 = .ok (.ifCond .eq 49, 3) := by decide +kernel
theorem dX9_readSuitor_59 : decode cX9_readSuitor 59 = .ok (.aload_n 0, 1) := by decide +kernel
theorem dX9_readSuitor_60 : decode cX9_readSuitor 60 = .ok (.getfield 115, 3) := by decide +kernel
theorem dX9_readSuitor_63 : decode cX9_readSuitor 63 = .ok (.iconst 2, 1) := by decide +kernel
theorem dX9_readSuitor_64 : decode cX9_readSuitor 64 = .ok (.if_icmp .ne 41, 3) := by decide +kernel
theorem dX9_readSuitor_67 : decode cX9_readSuitor 67 = .ok (.aload_n 0, 1) := by decide +kernel
theorem dX9_readSuitor_68 : decode cX9_readSuitor 68 = .ok (.getfield 126, 3) := by decide +kernel
theorem dX9_readSuitor_71 : decode cX9_readSuitor 71 = .ok (.i2l, 1) := by decide +kernel
theorem dX9_readSuitor_72 : decode cX9_readSuitor 72 = .ok (.lconst 0, 1) := by decide +kernel
theorem dX9_readSuitor_73 : decode cX9_readSuitor 73 = .ok (.aload_n 0, 1) := by decide +kernel
theorem dX9_readSuitor_74 : decode cX9_readSuitor 74 = .ok (.getfield 31, 3) := by decide +kernel
theorem dX9_readSuitor_77 : decode cX9_readSuitor 77 = .ok (.iconst 3, 1) := by decide +kernel
theorem dX9_readSuitor_78 : decode cX9_readSuitor 78 = .ok (.iaload, 1) := by decide +kernel
theorem dX9_readSuitor_79 : decode cX9_readSuitor 79 = .ok (.iconst 1, 1) := by decide +kernel
theorem dX9_readSuitor_80 : decode cX9_readSuitor 80 = .ok (.isub, 1) := by decide +kernel
theorem dX9_readSuitor_81 : decode cX9_readSuitor 81 = .ok (.i2l, 1) := by decide +kernel
theorem dX9_readSuitor_82 : decode cX9_readSuitor 82 = .ok (.invokestatic 82, 3) := by decide +kernel
theorem dX9_readSuitor_85 : decode cX9_readSuitor 85 = .ok (.ifCond .eq 20, 3) := by decide +kernel
theorem dX9_readSuitor_88 : decode cX9_readSuitor 88 = .ok (.iload_n 2, 1) := by decide +kernel
theorem dX9_readSuitor_89 : decode cX9_readSuitor 89 = .ok (.aload_n 0, 1) := by decide +kernel
theorem dX9_readSuitor_90 : decode cX9_readSuitor 90 = .ok (.getfield 126, 3) := by decide +kernel
theorem dX9_readSuitor_93 : decode cX9_readSuitor 93 = .ok (.ishr, 1) := by decide +kernel
theorem dX9_readSuitor_94 : decode cX9_readSuitor 94 = .ok (.iconst 1, 1) := by decide +kernel
theorem dX9_readSuitor_95 : decode cX9_readSuitor 95 = .ok (.iand, 1) := by decide +kernel
theorem dX9_readSuitor_96 : decode cX9_readSuitor 96 = .ok (.iconst 1, 1) := by decide +kernel
theorem dX9_readSuitor_97 : decode cX9_readSuitor 97 = .ok (.if_icmp .ne 8, 3) := by decide +kernel
theorem dX9_readSuitor_100 : decode cX9_readSuitor 100 = .ok (.aload_n 0, 1) := by decide +kernel
theorem dX9_readSuitor_101 : decode cX9_readSuitor 101 = .ok (.iconst 2, 1) := by decide +kernel
theorem dX9_readSuitor_102 : decode cX9_readSuitor 102 = .ok (.invokevirtual 159, 3) := by decide +kernel
theorem dX9_readSuitor_105 : decode cX9_readSuitor 105 = .ok (.iload_n 2, 1) := by decide +kernel
theorem dX9_readSuitor_106 : decode cX9_readSuitor 106 = .ok (.iconst 1, 1) := by decide +kernel
theorem dX9_readSuitor_107 : decode cX9_readSuitor 107 = .ok (.aload_n 0, 1) := by decide +kernel
theorem dX9_readSuitor_108 : decode cX9_readSuitor 108 = .ok (.iconst 0, 1) := by decide +kernel
theorem dX9_readSuitor_109 : decode cX9_readSuitor 109 = .ok (.aload_n 0, 1) := by decide +kernel
theorem dX9_readSuitor_110 : decode cX9_readSuitor 110 = .ok (.getfield 31, 3) := by decide +kernel
theorem dX9_readSuitor_113 : decode cX9_readSuitor 113 = .ok (.iconst 3, 1) := by decide +kernel
theorem dX9_readSuitor_114 : decode cX9_readSuitor 114 = .ok (.iaload, 1) := by decide +kernel
theorem dX9_readSuitor_115 : decode cX9_readSuitor 115 = .ok (.iconst 1, 1) := by decide +kernel
theorem dX9_readSuitor_116 : decode cX9_readSuitor 116 = .ok (.isub, 1) := by decide +kernel
theorem dX9_readSuitor_117 : decode cX9_readSuitor 117 = .ok (.invokevirtual 167, 3) := by decide +kernel
theorem dX9_readSuitor_120 : decode cX9_readSuitor 120 = .ok (.ishl, 1) := by decide +kernel
theorem dX9_readSuitor_121 : decode cX9_readSuitor 121 = .ok (.ior, 1) := by decide +kernel
theorem dX9_readSuitor_122 : decode cX9_readSuitor 122 = .ok (.istore_n 2, 1) := by decide +kernel
theorem dX9_readSuitor_123 : decode cX9_readSuitor 123 = .ok (.aload_n 0, 1) := by decide +kernel
theorem dX9_readSuitor_124 : decode cX9_readSuitor 124 = .ok (.invokevirtual 136, 3) := by decide +kernel
theorem dX9_readSuitor_127 : decode cX9_readSuitor 127 = .ok (.ifCond .eq 11, 3) := by decide +kernel
theorem dX9_readSuitor_130 : decode cX9_readSuitor 130 = .ok (.aload_n 0, 1) := by decide +kernel
theorem dX9_readSuitor_131 : decode cX9_readSuitor 131 = .ok (.getfield 115, 3) := by decide +kernel
theorem dX9_readSuitor_134 : decode cX9_readSuitor 134 = .ok (.iconst 2, 1) := by decide +kernel
theorem dX9_readSuitor_135 : decode cX9_readSuitor 135 = .ok (.if_icmp .eq (-83), 3) := by decide +kernel
theorem dX9_readSuitor_138 : decode cX9_readSuitor 138 = .ok (.aload_n 0, 1) := by decide +kernel
theorem dX9_readSuitor_139 : decode cX9_readSuitor 139 = .ok (.getfield 31, 3) := by decide +kernel
theorem dX9_readSuitor_142 : decode cX9_readSuitor 142 = .ok (.iload_n 1, 1) := by decide +kernel
theorem dX9_readSuitor_143 : decode cX9_readSuitor 143 = .ok (.iconst 2, 1) := by decide +kernel
theorem dX9_readSuitor_144 : decode cX9_readSuitor 144 = .ok (.iadd, 1) := by decide +kernel
theorem dX9_readSuitor_145 : decode cX9_readSuitor 145 = .ok (.iload_n 2, 1) := by decide +kernel
theorem dX9_readSuitor_146 : decode cX9_readSuitor 146 = .ok (.iastore, 1) := by decide +kernel
theorem dX9_readSuitor_147 : decode cX9_readSuitor 147 = .ok (.aload_n 0, 1) := by decide +kernel
theorem dX9_readSuitor_148 : decode cX9_readSuitor 148 = .ok (.getfield 31, 3) := by decide +kernel
theorem dX9_readSuitor_151 : decode cX9_readSuitor 151 = .ok (.iconst 4, 1) := by decide +kernel
theorem dX9_readSuitor_152 : decode cX9_readSuitor 152 = .ok (.dup2, 1) := by decide +kernel
theorem dX9_readSuitor_153 : decode cX9_readSuitor 153 = .ok (.iaload, 1) := by decide +kernel
theorem dX9_readSuitor_154 : decode cX9_readSuitor 154 = .ok (.iconst 1, 1) := by decide +kernel
theorem dX9_readSuitor_155 : decode cX9_readSuitor 155 = .ok (.iadd, 1) := by decide +kernel
theorem dX9_readSuitor_156 : decode cX9_readSuitor 156 = .ok (.iastore, 1) := by decide +kernel
theorem dX9_readSuitor_157 : decode cX9_readSuitor 157 = .ok (.return_, 1) := by decide +kernel
theorem dX9_readCourt_0 : decode cX9_readCourt 0 = .ok (.aload_n 0, 1) := by decide +kernel
theorem dX9_readCourt_1 : decode cX9_readCourt 1 = .ok (.iconst 0, 1) := by decide +kernel
theorem dX9_readCourt_2 : decode cX9_readCourt 2 = .ok (.aload_n 0, 1) := by decide +kernel
theorem dX9_readCourt_3 : decode cX9_readCourt 3 = .ok (.getfield 31, 3) := by decide +kernel
theorem dX9_readCourt_6 : decode cX9_readCourt 6 = .ok (.iconst 4, 1) := by decide +kernel
theorem dX9_readCourt_7 : decode cX9_readCourt 7 = .ok (.iaload, 1) := by decide +kernel
theorem dX9_readCourt_8 : decode cX9_readCourt 8 = .ok (.iconst 1, 1) := by decide +kernel
theorem dX9_readCourt_9 : decode cX9_readCourt 9 = .ok (.isub, 1) := by decide +kernel
theorem dX9_readCourt_10 : decode cX9_readCourt 10 = .ok (.invokevirtual 167, 3) := by decide +kernel
theorem dX9_readCourt_13 : decode cX9_readCourt 13 = .ok (.istore_n 1, 1) := by decide +kernel
theorem dX9_readCourt_14 : decode cX9_readCourt 14 = .ok (.aload_n 0, 1) := by decide +kernel
theorem dX9_readCourt_15 : decode cX9_readCourt 15 = .ok (.invokevirtual 136, 3) := by decide +kernel
theorem dX9_readCourt_18 : decode cX9_readCourt 18 = .ok (.ifCond .eq 60, 3) := by decide +kernel
theorem dX9_readCourt_21 : decode cX9_readCourt 21 = .ok (.aload_n 0, 1) := by decide +kernel
theorem dX9_readCourt_22 : decode cX9_readCourt 22 = .ok (.getfield 115, 3) := by decide +kernel
theorem dX9_readCourt_25 : decode cX9_readCourt 25 = .ok (.iconst 2, 1) := by decide +kernel
theorem dX9_readCourt_26 : decode cX9_readCourt 26 = .ok (.if_icmp .ne 52, 3) := by decide +kernel
theorem dX9_readCourt_29 : decode cX9_readCourt 29 = .ok (.aload_n 0, 1) := by decide +kernel
theorem dX9_readCourt_30 : decode cX9_readCourt 30 = .ok (.getfield 126, 3) := by decide +kernel
theorem dX9_readCourt_33 : decode cX9_readCourt 33 = .ok (.i2l, 1) := by decide +kernel
theorem dX9_readCourt_34 : decode cX9_readCourt 34 = .ok (.lconst 0, 1) := by decide +kernel
theorem dX9_readCourt_35 : decode cX9_readCourt 35 = .ok (.aload_n 0, 1) := by decide +kernel
theorem dX9_readCourt_36 : decode cX9_readCourt 36 = .ok (.getfield 31, 3) := by decide +kernel
theorem dX9_readCourt_39 : decode cX9_readCourt 39 = .ok (.iconst 3, 1) := by decide +kernel
theorem dX9_readCourt_40 : decode cX9_readCourt 40 = .ok (.iaload, 1) := by decide +kernel
theorem dX9_readCourt_41 : decode cX9_readCourt 41 = .ok (.iconst 1, 1) := by decide +kernel
theorem dX9_readCourt_42 : decode cX9_readCourt 42 = .ok (.isub, 1) := by decide +kernel
theorem dX9_readCourt_43 : decode cX9_readCourt 43 = .ok (.i2l, 1) := by decide +kernel
theorem dX9_readCourt_44 : decode cX9_readCourt 44 = .ok (.invokestatic 82, 3) := by decide +kernel
theorem dX9_readCourt_47 : decode cX9_readCourt 47 = .ok (.ifCond .eq 31, 3) := by decide +kernel
theorem dX9_readCourt_50 : decode cX9_readCourt 50 = .ok (.aload_n 0, 1) := by decide +kernel
theorem dX9_readCourt_51 : decode cX9_readCourt 51 = .ok (.getfield 31, 3) := by decide +kernel
theorem dX9_readCourt_54 : decode cX9_readCourt 54 = .ok (.bipush 73, 2) := by decide +kernel
theorem dX9_readCourt_56 : decode cX9_readCourt 56 = .ok (.iconst 3, 1) := by decide +kernel
theorem dX9_readCourt_57 : decode cX9_readCourt 57 = .ok (.iload_n 1, 1) := by decide +kernel
theorem dX9_readCourt_58 : decode cX9_readCourt 58 = .ok (.imul, 1) := by decide +kernel
theorem dX9_readCourt_59 : decode cX9_readCourt 59 = .ok (.iadd, 1) := by decide +kernel
theorem dX9_readCourt_60 : decode cX9_readCourt 60 = .ok (.iconst 2, 1) := by decide +kernel
theorem dX9_readCourt_61 : decode cX9_readCourt 61 = .ok (.iadd, 1) := by decide +kernel
theorem dX9_readCourt_62 : decode cX9_readCourt 62 = .ok (.iaload, 1) := by decide +kernel
theorem dX9_readCourt_63 : decode cX9_readCourt 63 = .ok (.aload_n 0, 1) := by decide +kernel
theorem dX9_readCourt_64 : decode cX9_readCourt 64 = .ok (.getfield 126, 3) := by decide +kernel
theorem dX9_readCourt_67 : decode cX9_readCourt 67 = .ok (.ishr, 1) := by decide +kernel
theorem dX9_readCourt_68 : decode cX9_readCourt 68 = .ok (.iconst 1, 1) := by decide +kernel
theorem dX9_readCourt_69 : decode cX9_readCourt 69 = .ok (.iand, 1) := by decide +kernel
theorem dX9_readCourt_70 : decode cX9_readCourt 70 = .ok (.ifCond .ne 8, 3) := by decide +kernel
theorem dX9_readCourt_73 : decode cX9_readCourt 73 = .ok (.aload_n 0, 1) := by decide +kernel
theorem dX9_readCourt_74 : decode cX9_readCourt 74 = .ok (.iconst 2, 1) := by decide +kernel
theorem dX9_readCourt_75 : decode cX9_readCourt 75 = .ok (.invokevirtual 159, 3) := by decide +kernel
theorem dX9_readCourt_78 : decode cX9_readCourt 78 = .ok (.aload_n 0, 1) := by decide +kernel
theorem dX9_readCourt_79 : decode cX9_readCourt 79 = .ok (.iconst 0, 1) := by decide +kernel
theorem dX9_readCourt_80 : decode cX9_readCourt 80 = .ok (.aload_n 0, 1) := by decide +kernel
theorem dX9_readCourt_81 : decode cX9_readCourt 81 = .ok (.getfield 31, 3) := by decide +kernel
theorem dX9_readCourt_84 : decode cX9_readCourt 84 = .ok (.iconst 3, 1) := by decide +kernel
theorem dX9_readCourt_85 : decode cX9_readCourt 85 = .ok (.iaload, 1) := by decide +kernel
theorem dX9_readCourt_86 : decode cX9_readCourt 86 = .ok (.iconst 1, 1) := by decide +kernel
theorem dX9_readCourt_87 : decode cX9_readCourt 87 = .ok (.isub, 1) := by decide +kernel
theorem dX9_readCourt_88 : decode cX9_readCourt 88 = .ok (.invokevirtual 167, 3) := by decide +kernel
theorem dX9_readCourt_91 : decode cX9_readCourt 91 = .ok (.istore_n 2, 1) := by decide +kernel
theorem dX9_readCourt_92 : decode cX9_readCourt 92 = .ok (.aload_n 0, 1) := by decide +kernel
theorem dX9_readCourt_93 : decode cX9_readCourt 93 = .ok (.invokevirtual 136, 3) := by decide +kernel
theorem dX9_readCourt_96 : decode cX9_readCourt 96 = .ok (.ifCond .eq 13, 3) := by decide +kernel
theorem dX9_readCourt_99 : decode cX9_readCourt 99 = .ok (.aload_n 0, 1) := by decide +kernel
theorem dX9_readCourt_100 : decode cX9_readCourt 100 = .ok (.getfield 31, 3) := by decide +kernel
theorem dX9_readCourt_103 : decode cX9_readCourt 103 = .ok (.bipush 102, 2) := by decide +kernel
theorem dX9_readCourt_105 : decode cX9_readCourt 105 = .ok (.iload_n 1, 1) := by decide +kernel
theorem dX9_readCourt_106 : decode cX9_readCourt 106 = .ok (.iadd, 1) := by decide +kernel
theorem dX9_readCourt_107 : decode cX9_readCourt 107 = .ok (.iload_n 2, 1) := by decide +kernel
theorem dX9_readCourt_108 : decode cX9_readCourt 108 = .ok (.iastore, 1) := by decide +kernel
theorem dX9_readCourt_109 : decode cX9_readCourt 109 = .ok (.return_, 1) := by decide +kernel
theorem dX9_readNext_0 : decode cX9_readNext 0 = .ok (.aload_n 0, 1) := by decide +kernel
theorem dX9_readNext_1 : decode cX9_readNext 1 = .ok (.ldc 192, 2) := by decide +kernel
theorem dX9_readNext_3 : decode cX9_readNext 3 = .ok (.invokevirtual 149, 3) := by decide +kernel
theorem dX9_readNext_6 : decode cX9_readNext 6 = .ok (.ifCond .ne 57, 3) := by decide +kernel
theorem dX9_readNext_9 : decode cX9_readNext 9 = .ok (.aload_n 0, 1) := by decide +kernel
theorem dX9_readNext_10 : decode cX9_readNext 10 = .ok (.ldc 179, 2) := by decide +kernel
theorem dX9_readNext_12 : decode cX9_readNext 12 = .ok (.invokevirtual 149, 3) := by decide +kernel
theorem dX9_readNext_15 : decode cX9_readNext 15 = .ok (.ifCond .ne 48, 3) := by decide +kernel
theorem dX9_readNext_18 : decode cX9_readNext 18 = .ok (.aload_n 0, 1) := by decide +kernel
theorem dX9_readNext_19 : decode cX9_readNext 19 = .ok (.ldc 194, 2) := by decide +kernel
theorem dX9_readNext_21 : decode cX9_readNext 21 = .ok (.invokevirtual 149, 3) := by decide +kernel
theorem dX9_readNext_24 : decode cX9_readNext 24 = .ok (.ifCond .ne 39, 3) := by decide +kernel
theorem dX9_readNext_27 : decode cX9_readNext 27 = .ok (.aload_n 0, 1) := by decide +kernel
theorem dX9_readNext_28 : decode cX9_readNext 28 = .ok (.ldc 196, 2) := by decide +kernel
theorem dX9_readNext_30 : decode cX9_readNext 30 = .ok (.invokevirtual 149, 3) := by decide +kernel
theorem dX9_readNext_33 : decode cX9_readNext 33 = .ok (.ifCond .ne 30, 3) := by decide +kernel
theorem dX9_readNext_36 : decode cX9_readNext 36 = .ok (.aload_n 0, 1) := by decide +kernel
theorem dX9_readNext_37 : decode cX9_readNext 37 = .ok (.ldc 198, 2) := by decide +kernel
theorem dX9_readNext_39 : decode cX9_readNext 39 = .ok (.invokevirtual 149, 3) := by decide +kernel
theorem dX9_readNext_42 : decode cX9_readNext 42 = .ok (.ifCond .ne 21, 3) := by decide +kernel
theorem dX9_readNext_45 : decode cX9_readNext 45 = .ok (.aload_n 0, 1) := by decide +kernel
theorem dX9_readNext_46 : decode cX9_readNext 46 = .ok (.ldc 200, 2) := by decide +kernel
theorem dX9_readNext_48 : decode cX9_readNext 48 = .ok (.invokevirtual 149, 3) := by decide +kernel
theorem dX9_readNext_51 : decode cX9_readNext 51 = .ok (.ifCond .ne 12, 3) := by decide +kernel
theorem dX9_readNext_54 : decode cX9_readNext 54 = .ok (.aload_n 0, 1) := by decide +kernel
theorem dX9_readNext_55 : decode cX9_readNext 55 = .ok (.ldc 202, 2) := by decide +kernel
theorem dX9_readNext_57 : decode cX9_readNext 57 = .ok (.invokevirtual 149, 3) := by decide +kernel
theorem dX9_readNext_60 : decode cX9_readNext 60 = .ok (.ifCond .eq 7, 3) := by decide +kernel
theorem dX9_readNext_63 : decode cX9_readNext 63 = .ok (.iconst 1, 1) := by decide +kernel
theorem dX9_readNext_64 : decode cX9_readNext 64 = .ok (.goto 4, 3) := by decide +kernel
theorem dX9_readNext_67 : decode cX9_readNext 67 = .ok (.iconst 0, 1) := by decide +kernel
theorem dX9_readNext_68 : decode cX9_readNext 68 = .ok (.istore_n 1, 1) := by decide +kernel
theorem dX9_readNext_69 : decode cX9_readNext 69 = .ok (.iload_n 1, 1) := by decide +kernel
theorem dX9_readNext_70 : decode cX9_readNext 70 = .ok (.ifCond .ne 8, 3) := by decide +kernel
theorem dX9_readNext_73 : decode cX9_readNext 73 = .ok (.aload_n 0, 1) := by decide +kernel
theorem dX9_readNext_74 : decode cX9_readNext 74 = .ok (.iconst 1, 1) := by decide +kernel
theorem dX9_readNext_75 : decode cX9_readNext 75 = .ok (.invokevirtual 159, 3) := by decide +kernel
theorem dX9_readNext_78 : decode cX9_readNext 78 = .ok (.aload_n 0, 1) := by decide +kernel
theorem dX9_readNext_79 : decode cX9_readNext 79 = .ok (.ldc 179, 2) := by decide +kernel
theorem dX9_readNext_81 : decode cX9_readNext 81 = .ok (.invokevirtual 149, 3) := by decide +kernel
theorem dX9_readNext_84 : decode cX9_readNext 84 = .ok (.ifCond .eq 14, 3) := by decide +kernel
theorem dX9_readNext_87 : decode cX9_readNext 87 = .ok (.aload_n 0, 1) := by decide +kernel
theorem dX9_readNext_88 : decode cX9_readNext 88 = .ok (.getfield 31, 3) := by decide +kernel
theorem dX9_readNext_91 : decode cX9_readNext 91 = .ok (.iconst 2, 1) := by decide +kernel
theorem dX9_readNext_92 : decode cX9_readNext 92 = .ok (.iaload, 1) := by decide +kernel
theorem dX9_readNext_93 : decode cX9_readNext 93 = .ok (.bipush 10, 2) := by decide +kernel
theorem dX9_readNext_95 : decode cX9_readNext 95 = .ok (.if_icmp .eq 61, 3) := by decide +kernel
theorem dX9_readNext_98 : decode cX9_readNext 98 = .ok (.aload_n 0, 1) := by decide +kernel
theorem dX9_readNext_99 : decode cX9_readNext 99 = .ok (.ldc 194, 2) := by decide +kernel
theorem dX9_readNext_101 : decode cX9_readNext 101 = .ok (.invokevirtual 149, 3) := by decide +kernel
theorem dX9_readNext_104 : decode cX9_readNext 104 = .ok (.ifCond .eq 13, 3) := by decide +kernel
theorem dX9_readNext_107 : decode cX9_readNext 107 = .ok (.aload_n 0, 1) := by decide +kernel
theorem dX9_readNext_108 : decode cX9_readNext 108 = .ok (.getfield 31, 3) := by decide +kernel
theorem dX9_readNext_111 : decode cX9_readNext 111 = .ok (.iconst 3, 1) := by decide +kernel
theorem dX9_readNext_112 : decode cX9_readNext 112 = .ok (.iaload, 1) := by decide +kernel
theorem dX9_readNext_113 : decode cX9_readNext 113 = .ok (.iconst 4, 1) := by decide +kernel
theorem dX9_readNext_114 : decode cX9_readNext 114 = .ok (.if_icmp .eq 42, 3) := by decide +kernel
theorem dX9_readNext_117 : decode cX9_readNext 117 = .ok (.aload_n 0, 1) := by decide +kernel
theorem dX9_readNext_118 : decode cX9_readNext 118 = .ok (.ldc 196, 2) := by decide +kernel
theorem dX9_readNext_120 : decode cX9_readNext 120 = .ok (.invokevirtual 149, 3) := by decide +kernel
theorem dX9_readNext_123 : decode cX9_readNext 123 = .ok (.ifCond .eq 14, 3) := by decide +kernel
theorem dX9_readNext_126 : decode cX9_readNext 126 = .ok (.aload_n 0, 1) := by decide +kernel
theorem dX9_readNext_127 : decode cX9_readNext 127 = .ok (.getfield 31, 3) := by decide +kernel
theorem dX9_readNext_130 : decode cX9_readNext 130 = .ok (.iconst 4, 1) := by decide +kernel
theorem dX9_readNext_131 : decode cX9_readNext 131 = .ok (.iaload, 1) := by decide +kernel
theorem dX9_readNext_132 : decode cX9_readNext 132 = .ok (.bipush 7, 2) := by decide +kernel
theorem dX9_readNext_134 : decode cX9_readNext 134 = .ok (.if_icmp .eq 22, 3) := by decide +kernel
theorem dX9_readNext_137 : decode cX9_readNext 137 = .ok (.aload_n 0, 1) := by decide +kernel
theorem dX9_readNext_138 : decode cX9_readNext 138 = .ok (.ldc 200, 2) := by decide +kernel
theorem dX9_readNext_140 : decode cX9_readNext 140 = .ok (.invokevirtual 149, 3) := by decide +kernel
theorem dX9_readNext_143 : decode cX9_readNext 143 = .ok (.ifCond .eq 18, 3) := by decide +kernel
theorem dX9_readNext_146 : decode cX9_readNext 146 = .ok (.aload_n 0, 1) := by decide +kernel
theorem dX9_readNext_147 : decode cX9_readNext 147 = .ok (.getfield 31, 3) := by decide +kernel
theorem dX9_readNext_150 : decode cX9_readNext 150 = .ok (.iconst 5, 1) := by decide +kernel
theorem dX9_readNext_151 : decode cX9_readNext 151 = .ok (.iaload, 1) := by decide +kernel
theorem dX9_readNext_152 : decode cX9_readNext 152 = .ok (.iconst 4, 1) := by decide +kernel
theorem dX9_readNext_153 : decode cX9_readNext 153 = .ok (.if_icmp .ne 8, 3) := by decide +kernel
theorem dX9_readNext_156 : decode cX9_readNext 156 = .ok (.aload_n 0, 1) := by decide +kernel
theorem dX9_readNext_157 : decode cX9_readNext 157 = .ok (.iconst 3, 1) := by decide +kernel
theorem dX9_readNext_158 : decode cX9_readNext 158 = .ok (.invokevirtual 159, 3) := by decide +kernel
theorem dX9_readNext_161 : decode cX9_readNext 161 = .ok (.aload_n 0, 1) := by decide +kernel
theorem dX9_readNext_162 : decode cX9_readNext 162 = .ok (.invokevirtual 136, 3) := by decide +kernel
theorem dX9_readNext_165 : decode cX9_readNext 165 = .ok (.ifCond .ne 4, 3) := by decide +kernel
theorem dX9_readNext_168 : decode cX9_readNext 168 = .ok (.return_, 1) := by decide +kernel
theorem dX9_readNext_169 : decode cX9_readNext 169 = .ok (.aload_n 0, 1) := by decide +kernel
theorem dX9_readNext_170 : decode cX9_readNext 170 = .ok (.ldc 192, 2) := by decide +kernel
theorem dX9_readNext_172 : decode cX9_readNext 172 = .ok (.invokevirtual 156, 3) := by decide +kernel
theorem dX9_readNext_175 : decode cX9_readNext 175 = .ok (.ifCond .eq 36, 3) := by decide +kernel
theorem dX9_readNext_178 : decode cX9_readNext 178 = .ok (.aload_n 0, 1) := by decide +kernel
theorem dX9_readNext_179 : decode cX9_readNext 179 = .ok (.invokevirtual 170, 3) := by decide +kernel
theorem dX9_readNext_182 : decode cX9_readNext 182 = .ok (.istore_n 2, 1) := by decide +kernel
theorem dX9_readNext_183 : decode cX9_readNext 183 = .ok (.aload_n 0, 1) := by decide +kernel
theorem dX9_readNext_184 : decode cX9_readNext 184 = .ok (.iconst 0, 1) := by decide +kernel
theorem dX9_readNext_185 : decode cX9_readNext 185 = .ok (.bipush 99, 2) := by decide +kernel
theorem dX9_readNext_187 : decode cX9_readNext 187 = .ok (.invokevirtual 167, 3) := by decide +kernel
theorem dX9_readNext_190 : decode cX9_readNext 190 = .ok (.istore_n 3, 1) := by decide +kernel
theorem dX9_readNext_191 : decode cX9_readNext 191 = .ok (.aload_n 0, 1) := by decide +kernel
theorem dX9_readNext_192 : decode cX9_readNext 192 = .ok (.invokevirtual 136, 3) := by decide +kernel
theorem dX9_readNext_195 : decode cX9_readNext 195 = .ok (.ifCond .eq 13, 3) := by decide +kernel
theorem dX9_readNext_198 : decode cX9_readNext 198 = .ok (.aload_n 0, 1) := by decide +kernel
theorem dX9_readNext_199 : decode cX9_readNext 199 = .ok (.getfield 31, 3) := by decide +kernel
theorem dX9_readNext_202 : decode cX9_readNext 202 = .ok (.bipush 7, 2) := by decide +kernel
theorem dX9_readNext_204 : decode cX9_readNext 204 = .ok (.iload_n 2, 1) := by decide +kernel
theorem dX9_readNext_205 : decode cX9_readNext 205 = .ok (.iadd, 1) := by decide +kernel
theorem dX9_readNext_206 : decode cX9_readNext 206 = .ok (.iload_n 3, 1) := by decide +kernel
theorem dX9_readNext_207 : decode cX9_readNext 207 = .ok (.iastore, 1) := by decide +kernel
theorem dX9_readNext_208 : decode cX9_readNext 208 = .ok (.goto 175, 3) := by decide +kernel
theorem dX9_readNext_211 : decode cX9_readNext 211 = .ok (.aload_n 0, 1) := by decide +kernel
theorem dX9_readNext_212 : decode cX9_readNext 212 = .ok (.ldc 179, 2) := by decide +kernel
theorem dX9_readNext_214 : decode cX9_readNext 214 = .ok (.invokevirtual 156, 3) := by decide +kernel
theorem dX9_readNext_217 : decode cX9_readNext 217 = .ok (.ifCond .eq 10, 3) := by decide +kernel
theorem dX9_readNext_220 : decode cX9_readNext 220 = .ok (.aload_n 0, 1) := by decide +kernel
theorem dX9_readNext_221 : decode cX9_readNext 221 = .ok (.invokevirtual 204, 3) := by decide +kernel
theorem dX9_readNext_224 : decode cX9_readNext 224 = .ok (.goto 159, 3) := by decide +kernel
theorem dX9_readNext_227 : decode cX9_readNext 227 = .ok (.aload_n 0, 1) := by decide +kernel
theorem dX9_readNext_228 : decode cX9_readNext 228 = .ok (.ldc 194, 2) := by decide +kernel
theorem dX9_readNext_230 : decode cX9_readNext 230 = .ok (.invokevirtual 156, 3) := by decide +kernel
theorem dX9_readNext_233 : decode cX9_readNext 233 = .ok (.ifCond .eq 10, 3) := by decide +kernel
theorem dX9_readNext_236 : decode cX9_readNext 236 = .ok (.aload_n 0, 1) := by decide +kernel
theorem dX9_readNext_237 : decode cX9_readNext 237 = .ok (.invokevirtual 207, 3) := by decide +kernel
theorem dX9_readNext_240 : decode cX9_readNext 240 = .ok (.goto 143, 3) := by decide +kernel
theorem dX9_readNext_243 : decode cX9_readNext 243 = .ok (.aload_n 0, 1) := by decide +kernel
theorem dX9_readNext_244 : decode cX9_readNext 244 = .ok (.ldc 196, 2) := by decide +kernel
theorem dX9_readNext_246 : decode cX9_readNext 246 = .ok (.invokevirtual 156, 3) := by decide +kernel
theorem dX9_readNext_249 : decode cX9_readNext 249 = .ok (.ifCond .eq 10, 3) := by decide +kernel
theorem dX9_readNext_252 : decode cX9_readNext 252 = .ok (.aload_n 0, 1) := by decide +kernel
theorem dX9_readNext_253 : decode cX9_readNext 253 = .ok (.invokevirtual 210, 3) := by decide +kernel
theorem dX9_readNext_256 : decode cX9_readNext 256 = .ok (.goto 127, 3) := by decide +kernel
theorem dX9_readNext_259 : decode cX9_readNext 259 = .ok (.aload_n 0, 1) := by decide +kernel
theorem dX9_readNext_260 : decode cX9_readNext 260 = .ok (.ldc 198, 2) := by decide +kernel
theorem dX9_readNext_262 : decode cX9_readNext 262 = .ok (.invokevirtual 156, 3) := by decide +kernel
theorem dX9_readNext_265 : decode cX9_readNext 265 = .ok (.ifCond .eq 38, 3) := by decide +kernel
theorem dX9_readNext_268 : decode cX9_readNext 268 = .ok (.aload_n 0, 1) := by decide +kernel
theorem dX9_readNext_269 : decode cX9_readNext 269 = .ok (.invokevirtual 213, 3) := by decide +kernel
theorem dX9_readNext_272 : decode cX9_readNext 272 = .ok (.istore_n 2, 1) := by decide +kernel
theorem dX9_readNext_273 : decode cX9_readNext 273 = .ok (.aload_n 0, 1) := by decide +kernel
theorem dX9_readNext_274 : decode cX9_readNext 274 = .ok (.ldc 216, 2) := by decide +kernel
theorem dX9_readNext_276 : decode cX9_readNext 276 = .ok (.iconst 0, 1) := by decide +kernel
theorem dX9_readNext_277 : decode cX9_readNext 277 = .ok (.bipush 100, 2) := by decide +kernel
theorem dX9_readNext_279 : decode cX9_readNext 279 = .ok (.invokevirtual 181, 3) := by decide +kernel
theorem dX9_readNext_282 : decode cX9_readNext 282 = .ok (.istore_n 3, 1) := by decide +kernel
theorem dX9_readNext_283 : decode cX9_readNext 283 = .ok (.aload_n 0, 1) := by decide +kernel
theorem dX9_readNext_284 : decode cX9_readNext 284 = .ok (.invokevirtual 136, 3) := by decide +kernel
theorem dX9_readNext_287 : decode cX9_readNext 287 = .ok (.ifCond .eq 13, 3) := by decide +kernel
theorem dX9_readNext_290 : decode cX9_readNext 290 = .ok (.aload_n 0, 1) := by decide +kernel
theorem dX9_readNext_291 : decode cX9_readNext 291 = .ok (.getfield 31, 3) := by decide +kernel
theorem dX9_readNext_294 : decode cX9_readNext 294 = .ok (.bipush 15, 2) := by decide +kernel
theorem dX9_readNext_296 : decode cX9_readNext 296 = .ok (.iload_n 2, 1) := by decide +kernel
theorem dX9_readNext_297 : decode cX9_readNext 297 = .ok (.iadd, 1) := by decide +kernel
theorem dX9_readNext_298 : decode cX9_readNext 298 = .ok (.iload_n 3, 1) := by decide +kernel
theorem dX9_readNext_299 : decode cX9_readNext 299 = .ok (.iastore, 1) := by decide +kernel
theorem dX9_readNext_300 : decode cX9_readNext 300 = .ok (.goto 83, 3) := by decide +kernel
theorem dX9_readNext_303 : decode cX9_readNext 303 = .ok (.aload_n 0, 1) := by decide +kernel
theorem dX9_readNext_304 : decode cX9_readNext 304 = .ok (.ldc 200, 2) := by decide +kernel
theorem dX9_readNext_306 : decode cX9_readNext 306 = .ok (.invokevirtual 156, 3) := by decide +kernel
theorem dX9_readNext_309 : decode cX9_readNext 309 = .ok (.ifCond .eq 66, 3) := by decide +kernel
theorem dX9_readNext_312 : decode cX9_readNext 312 = .ok (.bipush 94, 2) := by decide +kernel
theorem dX9_readNext_314 : decode cX9_readNext 314 = .ok (.iconst 2, 1) := by decide +kernel
theorem dX9_readNext_315 : decode cX9_readNext 315 = .ok (.aload_n 0, 1) := by decide +kernel
theorem dX9_readNext_316 : decode cX9_readNext 316 = .ok (.getfield 31, 3) := by decide +kernel
theorem dX9_readNext_319 : decode cX9_readNext 319 = .ok (.iconst 5, 1) := by decide +kernel
theorem dX9_readNext_320 : decode cX9_readNext 320 = .ok (.iaload, 1) := by decide +kernel
theorem dX9_readNext_321 : decode cX9_readNext 321 = .ok (.imul, 1) := by decide +kernel
theorem dX9_readNext_322 : decode cX9_readNext 322 = .ok (.iadd, 1) := by decide +kernel
theorem dX9_readNext_323 : decode cX9_readNext 323 = .ok (.istore_n 2, 1) := by decide +kernel
theorem dX9_readNext_324 : decode cX9_readNext 324 = .ok (.aload_n 0, 1) := by decide +kernel
theorem dX9_readNext_325 : decode cX9_readNext 325 = .ok (.getfield 31, 3) := by decide +kernel
theorem dX9_readNext_328 : decode cX9_readNext 328 = .ok (.iload_n 2, 1) := by decide +kernel
theorem dX9_readNext_329 : decode cX9_readNext 329 = .ok (.aload_n 0, 1) := by decide +kernel
theorem dX9_readNext_330 : decode cX9_readNext 330 = .ok (.ldc 217, 2) := by decide +kernel
theorem dX9_readNext_332 : decode cX9_readNext 332 = .ok (.iconst 0, 1) := by decide +kernel
theorem dX9_readNext_333 : decode cX9_readNext 333 = .ok (.bipush 99, 2) := by decide +kernel
theorem dX9_readNext_335 : decode cX9_readNext 335 = .ok (.invokevirtual 181, 3) := by decide +kernel
theorem dX9_readNext_338 : decode cX9_readNext 338 = .ok (.iastore, 1) := by decide +kernel
theorem dX9_readNext_339 : decode cX9_readNext 339 = .ok (.aload_n 0, 1) := by decide +kernel
theorem dX9_readNext_340 : decode cX9_readNext 340 = .ok (.getfield 31, 3) := by decide +kernel
theorem dX9_readNext_343 : decode cX9_readNext 343 = .ok (.iload_n 2, 1) := by decide +kernel
theorem dX9_readNext_344 : decode cX9_readNext 344 = .ok (.iconst 1, 1) := by decide +kernel
theorem dX9_readNext_345 : decode cX9_readNext 345 = .ok (.iadd, 1) := by decide +kernel
theorem dX9_readNext_346 : decode cX9_readNext 346 = .ok (.aload_n 0, 1) := by decide +kernel
theorem dX9_readNext_347 : decode cX9_readNext 347 = .ok (.ldc 219, 2) := by decide +kernel
theorem dX9_readNext_349 : decode cX9_readNext 349 = .ok (.iconst 0, 1) := by decide +kernel
theorem dX9_readNext_350 : decode cX9_readNext 350 = .ok (.aload_n 0, 1) := by decide +kernel
theorem dX9_readNext_351 : decode cX9_readNext 351 = .ok (.getfield 31, 3) := by decide +kernel
theorem dX9_readNext_354 : decode cX9_readNext 354 = .ok (.iconst 0, 1) := by decide +kernel
theorem dX9_readNext_355 : decode cX9_readNext 355 = .ok (.iaload, 1) := by decide +kernel
theorem dX9_readNext_356 : decode cX9_readNext 356 = .ok (.iconst 1, 1) := by decide +kernel
theorem dX9_readNext_357 : decode cX9_readNext 357 = .ok (.isub, 1) := by decide +kernel
theorem dX9_readNext_358 : decode cX9_readNext 358 = .ok (.invokevirtual 181, 3) := by decide +kernel
theorem dX9_readNext_361 : decode cX9_readNext 361 = .ok (.iastore, 1) := by decide +kernel
theorem dX9_readNext_362 : decode cX9_readNext 362 = .ok (.aload_n 0, 1) := by decide +kernel
theorem dX9_readNext_363 : decode cX9_readNext 363 = .ok (.getfield 31, 3) := by decide +kernel
theorem dX9_readNext_366 : decode cX9_readNext 366 = .ok (.iconst 5, 1) := by decide +kernel
theorem dX9_readNext_367 : decode cX9_readNext 367 = .ok (.dup2, 1) := by decide +kernel
theorem dX9_readNext_368 : decode cX9_readNext 368 = .ok (.iaload, 1) := by decide +kernel
theorem dX9_readNext_369 : decode cX9_readNext 369 = .ok (.iconst 1, 1) := by decide +kernel
theorem dX9_readNext_370 : decode cX9_readNext 370 = .ok (.iadd, 1) := by decide +kernel
theorem dX9_readNext_371 : decode cX9_readNext 371 = .ok (.iastore, 1) := by decide +kernel
theorem dX9_readNext_372 : decode cX9_readNext 372 = .ok (.goto 11, 3) := by decide +kernel
theorem dX9_readNext_375 : decode cX9_readNext 375 = .ok (.aload_n 0, 1) := by decide +kernel
theorem dX9_readNext_376 : decode cX9_readNext 376 = .ok (.invokevirtual 153, 3) := by decide +kernel
theorem dX9_readNext_379 : decode cX9_readNext 379 = .ok (.aload_n 0, 1) := by decide +kernel
theorem dX9_readNext_380 : decode cX9_readNext 380 = .ok (.invokevirtual 220, 3) := by decide +kernel
theorem dX9_readNext_383 : decode cX9_readNext 383 = .ok (.return_, 1) := by decide +kernel
theorem dX9_readLine_0 : decode cX9_readLine 0 = .ok (.aload_n 0, 1) := by decide +kernel
theorem dX9_readLine_1 : decode cX9_readLine 1 = .ok (.getfield 31, 3) := by decide +kernel
theorem dX9_readLine_4 : decode cX9_readLine 4 = .ok (.bipush 6, 2) := by decide +kernel
theorem dX9_readLine_6 : decode cX9_readLine 6 = .ok (.iaload, 1) := by decide +kernel
theorem dX9_readLine_7 : decode cX9_readLine 7 = .ok (.ifCond .ne 42, 3) := by decide +kernel
theorem dX9_readLine_10 : decode cX9_readLine 10 = .ok (.aload_n 0, 1) := by decide +kernel
theorem dX9_readLine_11 : decode cX9_readLine 11 = .ok (.ldc 223, 2) := by decide +kernel
theorem dX9_readLine_13 : decode cX9_readLine 13 = .ok (.invokevirtual 163, 3) := by decide +kernel
theorem dX9_readLine_16 : decode cX9_readLine 16 = .ok (.aload_n 0, 1) := by decide +kernel
theorem dX9_readLine_17 : decode cX9_readLine 17 = .ok (.getfield 31, 3) := by decide +kernel
theorem dX9_readLine_20 : decode cX9_readLine 20 = .ok (.iconst 0, 1) := by decide +kernel
theorem dX9_readLine_21 : decode cX9_readLine 21 = .ok (.aload_n 0, 1) := by decide +kernel
theorem dX9_readLine_22 : decode cX9_readLine 22 = .ok (.ldc 225, 2) := by decide +kernel
theorem dX9_readLine_24 : decode cX9_readLine 24 = .ok (.iconst 2, 1) := by decide +kernel
theorem dX9_readLine_25 : decode cX9_readLine 25 = .ok (.bipush 8, 2) := by decide +kernel
theorem dX9_readLine_27 : decode cX9_readLine 27 = .ok (.invokevirtual 181, 3) := by decide +kernel
theorem dX9_readLine_30 : decode cX9_readLine 30 = .ok (.iastore, 1) := by decide +kernel
theorem dX9_readLine_31 : decode cX9_readLine 31 = .ok (.aload_n 0, 1) := by decide +kernel
theorem dX9_readLine_32 : decode cX9_readLine 32 = .ok (.getfield 31, 3) := by decide +kernel
theorem dX9_readLine_35 : decode cX9_readLine 35 = .ok (.iconst 1, 1) := by decide +kernel
theorem dX9_readLine_36 : decode cX9_readLine 36 = .ok (.aload_n 0, 1) := by decide +kernel
theorem dX9_readLine_37 : decode cX9_readLine 37 = .ok (.ldc 226, 2) := by decide +kernel
theorem dX9_readLine_39 : decode cX9_readLine 39 = .ok (.iconst 1, 1) := by decide +kernel
theorem dX9_readLine_40 : decode cX9_readLine 40 = .ok (.bipush 30, 2) := by decide +kernel
theorem dX9_readLine_42 : decode cX9_readLine 42 = .ok (.invokevirtual 181, 3) := by decide +kernel
theorem dX9_readLine_45 : decode cX9_readLine 45 = .ok (.iastore, 1) := by decide +kernel
theorem dX9_readLine_46 : decode cX9_readLine 46 = .ok (.goto 7, 3) := by decide +kernel
theorem dX9_readLine_49 : decode cX9_readLine 49 = .ok (.aload_n 0, 1) := by decide +kernel
theorem dX9_readLine_50 : decode cX9_readLine 50 = .ok (.invokevirtual 228, 3) := by decide +kernel
theorem dX9_readLine_53 : decode cX9_readLine 53 = .ok (.aload_n 0, 1) := by decide +kernel
theorem dX9_readLine_54 : decode cX9_readLine 54 = .ok (.invokevirtual 136, 3) := by decide +kernel
theorem dX9_readLine_57 : decode cX9_readLine 57 = .ok (.ifCond .eq 16, 3) := by decide +kernel
theorem dX9_readLine_60 : decode cX9_readLine 60 = .ok (.aload_n 0, 1) := by decide +kernel
theorem dX9_readLine_61 : decode cX9_readLine 61 = .ok (.getfield 115, 3) := by decide +kernel
theorem dX9_readLine_64 : decode cX9_readLine 64 = .ok (.iconst 3, 1) := by decide +kernel
theorem dX9_readLine_65 : decode cX9_readLine 65 = .ok (.if_icmp .eq 8, 3) := by decide +kernel
theorem dX9_readLine_68 : decode cX9_readLine 68 = .ok (.aload_n 0, 1) := by decide +kernel
theorem dX9_readLine_69 : decode cX9_readLine 69 = .ok (.iconst 1, 1) := by decide +kernel
theorem dX9_readLine_70 : decode cX9_readLine 70 = .ok (.invokevirtual 159, 3) := by decide +kernel
theorem dX9_readLine_73 : decode cX9_readLine 73 = .ok (.aload_n 0, 1) := by decide +kernel
theorem dX9_readLine_74 : decode cX9_readLine 74 = .ok (.invokevirtual 136, 3) := by decide +kernel
theorem dX9_readLine_77 : decode cX9_readLine 77 = .ok (.ifCond .eq 7, 3) := by decide +kernel
theorem dX9_readLine_80 : decode cX9_readLine 80 = .ok (.aload_n 0, 1) := by decide +kernel
theorem dX9_readLine_81 : decode cX9_readLine 81 = .ok (.invokevirtual 153, 3) := by decide +kernel
theorem dX9_readLine_84 : decode cX9_readLine 84 = .ok (.aload_n 0, 1) := by decide +kernel
theorem dX9_readLine_85 : decode cX9_readLine 85 = .ok (.getfield 31, 3) := by decide +kernel
theorem dX9_readLine_88 : decode cX9_readLine 88 = .ok (.bipush 6, 2) := by decide +kernel
theorem dX9_readLine_90 : decode cX9_readLine 90 = .ok (.dup2, 1) := by decide +kernel
theorem dX9_readLine_91 : decode cX9_readLine 91 = .ok (.iaload, 1) := by decide +kernel
theorem dX9_readLine_92 : decode cX9_readLine 92 = .ok (.iconst 1, 1) := by decide +kernel
theorem dX9_readLine_93 : decode cX9_readLine 93 = .ok (.iadd, 1) := by decide +kernel
theorem dX9_readLine_94 : decode cX9_readLine 94 = .ok (.iastore, 1) := by decide +kernel
theorem dX9_readLine_95 : decode cX9_readLine 95 = .ok (.return_, 1) := by decide +kernel
theorem dX9_mountain_0 : decode cX9_mountain 0 = .ok (.aload_n 0, 1) := by decide +kernel
theorem dX9_mountain_1 : decode cX9_mountain 1 = .ok (.aload_n 0, 1) := by decide +kernel
theorem dX9_mountain_2 : decode cX9_mountain 2 = .ok (.getfield 100, 3) := by decide +kernel
theorem dX9_mountain_5 : decode cX9_mountain 5 = .ok (.putfield 103, 3) := by decide +kernel
theorem dX9_mountain_8 : decode cX9_mountain 8 = .ok (.aload_n 0, 1) := by decide +kernel
theorem dX9_mountain_9 : decode cX9_mountain 9 = .ok (.iconst 0, 1) := by decide +kernel
theorem dX9_mountain_10 : decode cX9_mountain 10 = .ok (.putfield 100, 3) := by decide +kernel
theorem dX9_mountain_13 : decode cX9_mountain 13 = .ok (.aload_n 0, 1) := by decide +kernel
theorem dX9_mountain_14 : decode cX9_mountain 14 = .ok (.iconst 0, 1) := by decide +kernel
theorem dX9_mountain_15 : decode cX9_mountain 15 = .ok (.putfield 106, 3) := by decide +kernel
theorem dX9_mountain_18 : decode cX9_mountain 18 = .ok (.aload_n 0, 1) := by decide +kernel
theorem dX9_mountain_19 : decode cX9_mountain 19 = .ok (.iconst 0, 1) := by decide +kernel
theorem dX9_mountain_20 : decode cX9_mountain 20 = .ok (.putfield 133, 3) := by decide +kernel
theorem dX9_mountain_23 : decode cX9_mountain 23 = .ok (.aload_n 0, 1) := by decide +kernel
theorem dX9_mountain_24 : decode cX9_mountain 24 = .ok (.iconst (-1), 1) := by decide +kernel
theorem dX9_mountain_25 : decode cX9_mountain 25 = .ok (.putfield 27, 3) := by decide +kernel
theorem dX9_mountain_28 : decode cX9_mountain 28 = .ok (.iconst 0, 1) := by decide +kernel
theorem dX9_mountain_29 : decode cX9_mountain 29 = .ok (.istore_n 1, 1) := by decide +kernel
theorem dX9_mountain_30 : decode cX9_mountain 30 = .ok (.iload_n 1, 1) := by decide +kernel
theorem dX9_mountain_31 : decode cX9_mountain 31 = .ok (.bipush 109, 2) := by decide +kernel
theorem dX9_mountain_33 : decode cX9_mountain 33 = .ok (.if_icmp .ge 26, 3) := by decide +kernel
theorem dX9_mountain_36 : decode cX9_mountain 36 = .ok (.aload_n 0, 1) := by decide +kernel
theorem dX9_mountain_37 : decode cX9_mountain 37 = .ok (.getfield 31, 3) := by decide +kernel
theorem dX9_mountain_40 : decode cX9_mountain 40 = .ok (.iload_n 1, 1) := by decide +kernel
theorem dX9_mountain_41 : decode cX9_mountain 41 = .ok (.iload_n 1, 1) := by decide +kernel
theorem dX9_mountain_42 : decode cX9_mountain 42 = .ok (.bipush 102, 2) := by decide +kernel
theorem dX9_mountain_44 : decode cX9_mountain 44 = .ok (.if_icmp .lt 7, 3) := by decide +kernel
theorem dX9_mountain_47 : decode cX9_mountain 47 = .ok (.iconst (-1), 1) := by decide +kernel
theorem dX9_mountain_48 : decode cX9_mountain 48 = .ok (.goto 4, 3) := by decide +kernel
theorem dX9_mountain_51 : decode cX9_mountain 51 = .ok (.iconst 0, 1) := by decide +kernel
theorem dX9_mountain_52 : decode cX9_mountain 52 = .ok (.iastore, 1) := by decide +kernel
theorem dX9_mountain_53 : decode cX9_mountain 53 = .ok (.iinc 1 1, 3) := by decide +kernel
theorem dX9_mountain_56 : decode cX9_mountain 56 = .ok (.goto (-26), 3) := by decide +kernel
theorem dX9_mountain_59 : decode cX9_mountain 59 = .ok (.aload_n 0, 1) := by decide +kernel
theorem dX9_mountain_60 : decode cX9_mountain 60 = .ok (.invokevirtual 153, 3) := by decide +kernel
theorem dX9_mountain_63 : decode cX9_mountain 63 = .ok (.aload_n 0, 1) := by decide +kernel
theorem dX9_mountain_64 : decode cX9_mountain 64 = .ok (.invokevirtual 136, 3) := by decide +kernel
theorem dX9_mountain_67 : decode cX9_mountain 67 = .ok (.ifCond .eq 17, 3) := by decide +kernel
theorem dX9_mountain_70 : decode cX9_mountain 70 = .ok (.aload_n 0, 1) := by decide +kernel
theorem dX9_mountain_71 : decode cX9_mountain 71 = .ok (.getfield 115, 3) := by decide +kernel
theorem dX9_mountain_74 : decode cX9_mountain 74 = .ok (.ifCond .eq 10, 3) := by decide +kernel
theorem dX9_mountain_77 : decode cX9_mountain 77 = .ok (.aload_n 0, 1) := by decide +kernel
theorem dX9_mountain_78 : decode cX9_mountain 78 = .ok (.invokevirtual 231, 3) := by decide +kernel
theorem dX9_mountain_81 : decode cX9_mountain 81 = .ok (.goto (-18), 3) := by decide +kernel
theorem dX9_mountain_84 : decode cX9_mountain 84 = .ok (.aload_n 0, 1) := by decide +kernel
theorem dX9_mountain_85 : decode cX9_mountain 85 = .ok (.invokevirtual 136, 3) := by decide +kernel
theorem dX9_mountain_88 : decode cX9_mountain 88 = .ok (.ifCond .ne 6, 3) := by decide +kernel
theorem dX9_mountain_91 : decode cX9_mountain 91 = .ok (.bipush (-4), 2) := by decide +kernel
theorem dX9_mountain_93 : decode cX9_mountain 93 = .ok (.ireturn, 1) := by decide +kernel
theorem dX9_mountain_94 : decode cX9_mountain 94 = .ok (.iconst 0, 1) := by decide +kernel
theorem dX9_mountain_95 : decode cX9_mountain 95 = .ok (.istore_n 1, 1) := by decide +kernel
theorem dX9_mountain_96 : decode cX9_mountain 96 = .ok (.iload_n 1, 1) := by decide +kernel
theorem dX9_mountain_97 : decode cX9_mountain 97 = .ok (.bipush 109, 2) := by decide +kernel
theorem dX9_mountain_99 : decode cX9_mountain 99 = .ok (.if_icmp .ge 21, 3) := by decide +kernel
theorem dX9_mountain_102 : decode cX9_mountain 102 = .ok (.aload_n 0, 1) := by decide +kernel
theorem dX9_mountain_103 : decode cX9_mountain 103 = .ok (.getfield 9, 3) := by decide +kernel
theorem dX9_mountain_106 : decode cX9_mountain 106 = .ok (.iload_n 1, 1) := by decide +kernel
theorem dX9_mountain_107 : decode cX9_mountain 107 = .ok (.aload_n 0, 1) := by decide +kernel
theorem dX9_mountain_108 : decode cX9_mountain 108 = .ok (.getfield 31, 3) := by decide +kernel
theorem dX9_mountain_111 : decode cX9_mountain 111 = .ok (.iload_n 1, 1) := by decide +kernel
theorem dX9_mountain_112 : decode cX9_mountain 112 = .ok (.iaload, 1) := by decide +kernel
theorem dX9_mountain_113 : decode cX9_mountain 113 = .ok (.iastore, 1) := by decide +kernel
theorem dX9_mountain_114 : decode cX9_mountain 114 = .ok (.iinc 1 1, 3) := by decide +kernel
theorem dX9_mountain_117 : decode cX9_mountain 117 = .ok (.goto (-21), 3) := by decide +kernel
theorem dX9_mountain_120 : decode cX9_mountain 120 = .ok (.aload_n 0, 1) := by decide +kernel
theorem dX9_mountain_121 : decode cX9_mountain 121 = .ok (.getfield 9, 3) := by decide +kernel
theorem dX9_mountain_124 : decode cX9_mountain 124 = .ok (.bipush 6, 2) := by decide +kernel
theorem dX9_mountain_126 : decode cX9_mountain 126 = .ok (.iaload, 1) := by decide +kernel
theorem dX9_mountain_127 : decode cX9_mountain 127 = .ok (.ireturn, 1) := by decide +kernel
theorem dX9_takenBy_0 : decode cX9_takenBy 0 = .ok (.iconst (-1), 1) := by decide +kernel
theorem dX9_takenBy_1 : decode cX9_takenBy 1 = .ok (.istore_n 2, 1) := by decide +kernel
theorem dX9_takenBy_2 : decode cX9_takenBy 2 = .ok (.iconst 0, 1) := by decide +kernel
theorem dX9_takenBy_3 : decode cX9_takenBy 3 = .ok (.istore_n 3, 1) := by decide +kernel
theorem dX9_takenBy_4 : decode cX9_takenBy 4 = .ok (.iload_n 3, 1) := by decide +kernel
theorem dX9_takenBy_5 : decode cX9_takenBy 5 = .ok (.aload_n 0, 1) := by decide +kernel
theorem dX9_takenBy_6 : decode cX9_takenBy 6 = .ok (.getfield 9, 3) := by decide +kernel
theorem dX9_takenBy_9 : decode cX9_takenBy 9 = .ok (.iconst 4, 1) := by decide +kernel
theorem dX9_takenBy_10 : decode cX9_takenBy 10 = .ok (.iaload, 1) := by decide +kernel
theorem dX9_takenBy_11 : decode cX9_takenBy 11 = .ok (.if_icmp .ge 38, 3) := by decide +kernel
theorem dX9_takenBy_14 : decode cX9_takenBy 14 = .ok (.aload_n 0, 1) := by decide +kernel
theorem dX9_takenBy_15 : decode cX9_takenBy 15 = .ok (.iload_n 3, 1) := by decide +kernel
theorem dX9_takenBy_16 : decode cX9_takenBy 16 = .ok (.invokevirtual 234, 3) := by decide +kernel
theorem dX9_takenBy_19 : decode cX9_takenBy 19 = .ok (.iload_n 1, 1) := by decide +kernel
theorem dX9_takenBy_20 : decode cX9_takenBy 20 = .ok (.if_icmp .ne 23, 3) := by decide +kernel
theorem dX9_takenBy_23 : decode cX9_takenBy 23 = .ok (.iload_n 2, 1) := by decide +kernel
theorem dX9_takenBy_24 : decode cX9_takenBy 24 = .ok (.iconst (-1), 1) := by decide +kernel
theorem dX9_takenBy_25 : decode cX9_takenBy 25 = .ok (.if_icmp .eq 16, 3) := by decide +kernel
theorem dX9_takenBy_28 : decode cX9_takenBy 28 = .ok (.aload_n 0, 1) := by decide +kernel
theorem dX9_takenBy_29 : decode cX9_takenBy 29 = .ok (.iload_n 3, 1) := by decide +kernel
theorem dX9_takenBy_30 : decode cX9_takenBy 30 = .ok (.invokevirtual 237, 3) := by decide +kernel
theorem dX9_takenBy_33 : decode cX9_takenBy 33 = .ok (.aload_n 0, 1) := by decide +kernel
theorem dX9_takenBy_34 : decode cX9_takenBy 34 = .ok (.iload_n 2, 1) := by decide +kernel
theorem dX9_takenBy_35 : decode cX9_takenBy 35 = .ok (.invokevirtual 237, 3) := by decide +kernel
theorem dX9_takenBy_38 : decode cX9_takenBy 38 = .ok (.if_icmp .le 5, 3) := by decide +kernel
theorem dX9_takenBy_41 : decode cX9_takenBy 41 = .ok (.iload_n 3, 1) := by decide +kernel
theorem dX9_takenBy_42 : decode cX9_takenBy 42 = .ok (.istore_n 2, 1) := by decide +kernel
theorem dX9_takenBy_43 : decode cX9_takenBy 43 = .ok (.iinc 3 1, 3) := by decide +kernel
theorem dX9_takenBy_46 : decode cX9_takenBy 46 = .ok (.goto (-42), 3) := by decide +kernel
theorem dX9_takenBy_49 : decode cX9_takenBy 49 = .ok (.iload_n 2, 1) := by decide +kernel
theorem dX9_takenBy_50 : decode cX9_takenBy 50 = .ok (.ireturn, 1) := by decide +kernel
theorem dX9_isRefused_0 : decode cX9_isRefused 0 = .ok (.aload_n 0, 1) := by decide +kernel
theorem dX9_isRefused_1 : decode cX9_isRefused 1 = .ok (.iload_n 1, 1) := by decide +kernel
theorem dX9_isRefused_2 : decode cX9_isRefused 2 = .ok (.invokevirtual 234, 3) := by decide +kernel
theorem dX9_isRefused_5 : decode cX9_isRefused 5 = .ok (.iconst (-1), 1) := by decide +kernel
theorem dX9_isRefused_6 : decode cX9_isRefused 6 = .ok (.if_icmp .eq 20, 3) := by decide +kernel
theorem dX9_isRefused_9 : decode cX9_isRefused 9 = .ok (.aload_n 0, 1) := by decide +kernel
theorem dX9_isRefused_10 : decode cX9_isRefused 10 = .ok (.aload_n 0, 1) := by decide +kernel
theorem dX9_isRefused_11 : decode cX9_isRefused 11 = .ok (.iload_n 1, 1) := by decide +kernel
theorem dX9_isRefused_12 : decode cX9_isRefused 12 = .ok (.invokevirtual 234, 3) := by decide +kernel
theorem dX9_isRefused_15 : decode cX9_isRefused 15 = .ok (.invokevirtual 240, 3) := by decide +kernel
theorem dX9_isRefused_18 : decode cX9_isRefused 18 = .ok (.iload_n 1, 1) := by decide +kernel
theorem dX9_isRefused_19 : decode cX9_isRefused 19 = .ok (.if_icmp .eq 7, 3) := by decide +kernel
theorem dX9_isRefused_22 : decode cX9_isRefused 22 = .ok (.iconst 1, 1) := by decide +kernel
theorem dX9_isRefused_23 : decode cX9_isRefused 23 = .ok (.goto 4, 3) := by decide +kernel
theorem dX9_isRefused_26 : decode cX9_isRefused 26 = .ok (.iconst 0, 1) := by decide +kernel
theorem dX9_isRefused_27 : decode cX9_isRefused 27 = .ok (.ireturn, 1) := by decide +kernel
theorem dX9_heartsNow_0 : decode cX9_heartsNow 0 = .ok (.iconst 0, 1) := by decide +kernel
theorem dX9_heartsNow_1 : decode cX9_heartsNow 1 = .ok (.istore_n 1, 1) := by decide +kernel
theorem dX9_heartsNow_2 : decode cX9_heartsNow 2 = .ok (.iconst 0, 1) := by decide +kernel
theorem dX9_heartsNow_3 : decode cX9_heartsNow 3 = .ok (.istore_n 2, 1) := by decide +kernel
theorem dX9_heartsNow_4 : decode cX9_heartsNow 4 = .ok (.iload_n 2, 1) := by decide +kernel
theorem dX9_heartsNow_5 : decode cX9_heartsNow 5 = .ok (.aload_n 0, 1) := by decide +kernel
theorem dX9_heartsNow_6 : decode cX9_heartsNow 6 = .ok (.getfield 9, 3) := by decide +kernel
theorem dX9_heartsNow_9 : decode cX9_heartsNow 9 = .ok (.iconst 4, 1) := by decide +kernel
theorem dX9_heartsNow_10 : decode cX9_heartsNow 10 = .ok (.iaload, 1) := by decide +kernel
theorem dX9_heartsNow_11 : decode cX9_heartsNow 11 = .ok (.if_icmp .ge 25, 3) := by decide +kernel
theorem dX9_heartsNow_14 : decode cX9_heartsNow 14 = .ok (.iload_n 1, 1) := by decide +kernel
theorem dX9_heartsNow_15 : decode cX9_heartsNow 15 = .ok (.aload_n 0, 1) := by decide +kernel
theorem dX9_heartsNow_16 : decode cX9_heartsNow 16 = .ok (.iload_n 2, 1) := by decide +kernel
theorem dX9_heartsNow_17 : decode cX9_heartsNow 17 = .ok (.invokevirtual 243, 3) := by decide +kernel
theorem dX9_heartsNow_20 : decode cX9_heartsNow 20 = .ok (.ifCond .eq 7, 3) := by decide +kernel
theorem dX9_heartsNow_23 : decode cX9_heartsNow 23 = .ok (.iconst 1, 1) := by decide +kernel
theorem dX9_heartsNow_24 : decode cX9_heartsNow 24 = .ok (.goto 4, 3) := by decide +kernel
theorem dX9_heartsNow_27 : decode cX9_heartsNow 27 = .ok (.iconst 0, 1) := by decide +kernel
theorem dX9_heartsNow_28 : decode cX9_heartsNow 28 = .ok (.iadd, 1) := by decide +kernel
theorem dX9_heartsNow_29 : decode cX9_heartsNow 29 = .ok (.istore_n 1, 1) := by decide +kernel
theorem dX9_heartsNow_30 : decode cX9_heartsNow 30 = .ok (.iinc 2 1, 3) := by decide +kernel
theorem dX9_heartsNow_33 : decode cX9_heartsNow 33 = .ok (.goto (-29), 3) := by decide +kernel
theorem dX9_heartsNow_36 : decode cX9_heartsNow 36 = .ok (.iload_n 1, 1) := by decide +kernel
theorem dX9_heartsNow_37 : decode cX9_heartsNow 37 = .ok (.ireturn, 1) := by decide +kernel
theorem dX9_hasStep_0 : decode cX9_hasStep 0 = .ok (.aload_n 0, 1) := by decide +kernel
theorem dX9_hasStep_1 : decode cX9_hasStep 1 = .ok (.iload_n 1, 1) := by decide +kernel
theorem dX9_hasStep_2 : decode cX9_hasStep 2 = .ok (.invokevirtual 234, 3) := by decide +kernel
theorem dX9_hasStep_5 : decode cX9_hasStep 5 = .ok (.istore 4, 2) := by decide +kernel
theorem dX9_hasStep_7 : decode cX9_hasStep 7 = .ok (.iload 4, 2) := by decide +kernel
theorem dX9_hasStep_9 : decode cX9_hasStep 9 = .ok (.iconst (-1), 1) := by decide +kernel
theorem dX9_hasStep_10 : decode cX9_hasStep 10 = .ok (.if_icmp .eq 53, 3) := by decide +kernel
theorem dX9_hasStep_13 : decode cX9_hasStep 13 = .ok (.iload_n 1, 1) := by decide +kernel
theorem dX9_hasStep_14 : decode cX9_hasStep 14 = .ok (.aload_n 0, 1) := by decide +kernel
theorem dX9_hasStep_15 : decode cX9_hasStep 15 = .ok (.getfield 34, 3) := by decide +kernel
theorem dX9_hasStep_18 : decode cX9_hasStep 18 = .ok (.if_icmp .eq 45, 3) := by decide +kernel
theorem dX9_hasStep_21 : decode cX9_hasStep 21 = .ok (.aload_n 0, 1) := by decide +kernel
theorem dX9_hasStep_22 : decode cX9_hasStep 22 = .ok (.iload 4, 2) := by decide +kernel
theorem dX9_hasStep_24 : decode cX9_hasStep 24 = .ok (.invokevirtual 247, 3) := by decide +kernel
theorem dX9_hasStep_27 : decode cX9_hasStep 27 = .ok (.iload_n 2, 1) := by decide +kernel
theorem dX9_hasStep_28 : decode cX9_hasStep 28 = .ok (.if_icmp .ne 35, 3) := by decide +kernel
theorem dX9_hasStep_31 : decode cX9_hasStep 31 = .ok (.iload_n 3, 1) := by decide +kernel
theorem dX9_hasStep_32 : decode cX9_hasStep 32 = .ok (.i2l, 1) := by decide +kernel
theorem dX9_hasStep_33 : decode cX9_hasStep 33 = .ok (.aload_n 0, 1) := by decide +kernel
theorem dX9_hasStep_34 : decode cX9_hasStep 34 = .ok (.iload 4, 2) := by decide +kernel
theorem dX9_hasStep_36 : decode cX9_hasStep 36 = .ok (.invokevirtual 250, 3) := by decide +kernel
theorem dX9_hasStep_39 : decode cX9_hasStep 39 = .ok (.i2l, 1) := by decide +kernel
theorem dX9_hasStep_40 : decode cX9_hasStep 40 = .ok (.aload_n 0, 1) := by decide +kernel
theorem dX9_hasStep_41 : decode cX9_hasStep 41 = .ok (.iload 4, 2) := by decide +kernel
theorem dX9_hasStep_43 : decode cX9_hasStep 43 = .ok (.invokevirtual 250, 3) := by decide +kernel
theorem dX9_hasStep_46 : decode cX9_hasStep 46 = .ok (.aload_n 0, 1) := by decide +kernel
theorem dX9_hasStep_47 : decode cX9_hasStep 47 = .ok (.iload_n 1, 1) := by decide +kernel
theorem dX9_hasStep_48 : decode cX9_hasStep 48 = .ok (.invokevirtual 237, 3) := by decide +kernel
theorem dX9_hasStep_51 : decode cX9_hasStep 51 = .ok (.iadd, 1) := by decide +kernel
theorem dX9_hasStep_52 : decode cX9_hasStep 52 = .ok (.i2l, 1) := by decide +kernel
theorem dX9_hasStep_53 : decode cX9_hasStep 53 = .ok (.invokestatic 82, 3) := by decide +kernel
theorem dX9_hasStep_56 : decode cX9_hasStep 56 = .ok (.ifCond .eq 7, 3) := by decide +kernel
theorem dX9_hasStep_59 : decode cX9_hasStep 59 = .ok (.iconst 1, 1) := by decide +kernel
theorem dX9_hasStep_60 : decode cX9_hasStep 60 = .ok (.goto 4, 3) := by decide +kernel
theorem dX9_hasStep_63 : decode cX9_hasStep 63 = .ok (.iconst 0, 1) := by decide +kernel
theorem dX9_hasStep_64 : decode cX9_hasStep 64 = .ok (.ireturn, 1) := by decide +kernel
theorem dX9_stepsOf_0 : decode cX9_stepsOf 0 = .ok (.iconst 0, 1) := by decide +kernel
theorem dX9_stepsOf_1 : decode cX9_stepsOf 1 = .ok (.istore_n 3, 1) := by decide +kernel
theorem dX9_stepsOf_2 : decode cX9_stepsOf 2 = .ok (.iconst 0, 1) := by decide +kernel
theorem dX9_stepsOf_3 : decode cX9_stepsOf 3 = .ok (.istore 4, 2) := by decide +kernel
theorem dX9_stepsOf_5 : decode cX9_stepsOf 5 = .ok (.iload 4, 2) := by decide +kernel
theorem dX9_stepsOf_7 : decode cX9_stepsOf 7 = .ok (.aload_n 0, 1) := by decide +kernel
theorem dX9_stepsOf_8 : decode cX9_stepsOf 8 = .ok (.getfield 9, 3) := by decide +kernel
theorem dX9_stepsOf_11 : decode cX9_stepsOf 11 = .ok (.iconst 4, 1) := by decide +kernel
theorem dX9_stepsOf_12 : decode cX9_stepsOf 12 = .ok (.iaload, 1) := by decide +kernel
theorem dX9_stepsOf_13 : decode cX9_stepsOf 13 = .ok (.if_icmp .ge 28, 3) := by decide +kernel
theorem dX9_stepsOf_16 : decode cX9_stepsOf 16 = .ok (.iload_n 3, 1) := by decide +kernel
theorem dX9_stepsOf_17 : decode cX9_stepsOf 17 = .ok (.aload_n 0, 1) := by decide +kernel
theorem dX9_stepsOf_18 : decode cX9_stepsOf 18 = .ok (.iload 4, 2) := by decide +kernel
theorem dX9_stepsOf_20 : decode cX9_stepsOf 20 = .ok (.iload_n 1, 1) := by decide +kernel
theorem dX9_stepsOf_21 : decode cX9_stepsOf 21 = .ok (.iload_n 2, 1) := by decide +kernel
theorem dX9_stepsOf_22 : decode cX9_stepsOf 22 = .ok (.invokevirtual 253, 3) := by decide +kernel
theorem dX9_stepsOf_25 : decode cX9_stepsOf 25 = .ok (.ifCond .eq 7, 3) := by decide +kernel
theorem dX9_stepsOf_28 : decode cX9_stepsOf 28 = .ok (.iconst 1, 1) := by decide +kernel
theorem dX9_stepsOf_29 : decode cX9_stepsOf 29 = .ok (.goto 4, 3) := by decide +kernel
theorem dX9_stepsOf_32 : decode cX9_stepsOf 32 = .ok (.iconst 0, 1) := by decide +kernel
theorem dX9_stepsOf_33 : decode cX9_stepsOf 33 = .ok (.iadd, 1) := by decide +kernel
theorem dX9_stepsOf_34 : decode cX9_stepsOf 34 = .ok (.istore_n 3, 1) := by decide +kernel
theorem dX9_stepsOf_35 : decode cX9_stepsOf 35 = .ok (.iinc 4 1, 3) := by decide +kernel
theorem dX9_stepsOf_38 : decode cX9_stepsOf 38 = .ok (.goto (-33), 3) := by decide +kernel
theorem dX9_stepsOf_41 : decode cX9_stepsOf 41 = .ok (.iload_n 3, 1) := by decide +kernel
theorem dX9_stepsOf_42 : decode cX9_stepsOf 42 = .ok (.ireturn, 1) := by decide +kernel
theorem dX9_leapBy_0 : decode cX9_leapBy 0 = .ok (.iload_n 0, 1) := by decide +kernel
theorem dX9_leapBy_1 : decode cX9_leapBy 1 = .ok (.iload_n 1, 1) := by decide +kernel
theorem dX9_leapBy_2 : decode cX9_leapBy 2 = .ok (.iadd, 1) := by decide +kernel
theorem dX9_leapBy_3 : decode cX9_leapBy 3 = .ok (.iload_n 1, 1) := by decide +kernel
theorem dX9_leapBy_4 : decode cX9_leapBy 4 = .ok (.iconst 1, 1) := by decide +kernel
theorem dX9_leapBy_5 : decode cX9_leapBy 5 = .ok (.iadd, 1) := by decide +kernel
theorem dX9_leapBy_6 : decode cX9_leapBy 6 = .ok (.idiv, 1) := by decide +kernel
theorem dX9_leapBy_7 : decode cX9_leapBy 7 = .ok (.ireturn, 1) := by decide +kernel
theorem dX9_leapNow_0 : decode cX9_leapNow 0 = .ok (.aload_n 0, 1) := by decide +kernel
theorem dX9_leapNow_1 : decode cX9_leapNow 1 = .ok (.iload_n 1, 1) := by decide +kernel
theorem dX9_leapNow_2 : decode cX9_leapNow 2 = .ok (.invokevirtual 257, 3) := by decide +kernel
theorem dX9_leapNow_5 : decode cX9_leapNow 5 = .ok (.aload_n 0, 1) := by decide +kernel
theorem dX9_leapNow_6 : decode cX9_leapNow 6 = .ok (.iload_n 1, 1) := by decide +kernel
theorem dX9_leapNow_7 : decode cX9_leapNow 7 = .ok (.iload_n 2, 1) := by decide +kernel
theorem dX9_leapNow_8 : decode cX9_leapNow 8 = .ok (.invokevirtual 260, 3) := by decide +kernel
theorem dX9_leapNow_11 : decode cX9_leapNow 11 = .ok (.invokestatic 263, 3) := by decide +kernel
theorem dX9_leapNow_14 : decode cX9_leapNow 14 = .ok (.ireturn, 1) := by decide +kernel
theorem dX9_path_0 : decode cX9_path 0 = .ok (.aload_n 0, 1) := by decide +kernel
theorem dX9_path_1 : decode cX9_path 1 = .ok (.iload_n 1, 1) := by decide +kernel
theorem dX9_path_2 : decode cX9_path 2 = .ok (.i2l, 1) := by decide +kernel
theorem dX9_path_3 : decode cX9_path 3 = .ok (.invokevirtual 266, 3) := by decide +kernel
theorem dX9_path_6 : decode cX9_path 6 = .ok (.ifCond .eq 15, 3) := by decide +kernel
theorem dX9_path_9 : decode cX9_path 9 = .ok (.iload_n 2, 1) := by decide +kernel
theorem dX9_path_10 : decode cX9_path 10 = .ok (.i2l, 1) := by decide +kernel
theorem dX9_path_11 : decode cX9_path 11 = .ok (.lconst 0, 1) := by decide +kernel
theorem dX9_path_12 : decode cX9_path 12 = .ok (.ldc2_w 80, 3) := by decide +kernel
theorem dX9_path_15 : decode cX9_path 15 = .ok (.invokestatic 82, 3) := by decide +kernel
theorem dX9_path_18 : decode cX9_path 18 = .ok (.ifCond .ne 6, 3) := by decide +kernel
theorem dX9_path_21 : decode cX9_path 21 = .ok (.bipush (-2), 2) := by decide +kernel
theorem dX9_path_23 : decode cX9_path 23 = .ok (.ireturn, 1) := by decide +kernel
theorem dX9_path_24 : decode cX9_path 24 = .ok (.iload_n 2, 1) := by decide +kernel
theorem dX9_path_25 : decode cX9_path 25 = .ok (.iconst 2, 1) := by decide +kernel
theorem dX9_path_26 : decode cX9_path 26 = .ok (.if_icmp .ne 11, 3) := by decide +kernel
theorem dX9_path_29 : decode cX9_path 29 = .ok (.aload_n 0, 1) := by decide +kernel
theorem dX9_path_30 : decode cX9_path 30 = .ok (.iload_n 1, 1) := by decide +kernel
theorem dX9_path_31 : decode cX9_path 31 = .ok (.invokevirtual 257, 3) := by decide +kernel
theorem dX9_path_34 : decode cX9_path 34 = .ok (.goto 9, 3) := by decide +kernel
theorem dX9_path_37 : decode cX9_path 37 = .ok (.aload_n 0, 1) := by decide +kernel
theorem dX9_path_38 : decode cX9_path 38 = .ok (.iload_n 1, 1) := by decide +kernel
theorem dX9_path_39 : decode cX9_path 39 = .ok (.iload_n 2, 1) := by decide +kernel
theorem dX9_path_40 : decode cX9_path 40 = .ok (.invokevirtual 90, 3) := by decide +kernel
theorem dX9_path_43 : decode cX9_path 43 = .ok (.ireturn, 1) := by decide +kernel
theorem dX9_court_0 : decode cX9_court 0 = .ok (.aload_n 0, 1) := by decide +kernel
theorem dX9_court_1 : decode cX9_court 1 = .ok (.iload_n 1, 1) := by decide +kernel
theorem dX9_court_2 : decode cX9_court 2 = .ok (.invokevirtual 270, 3) := by decide +kernel
theorem dX9_court_5 : decode cX9_court 5 = .ok (.ifCond .eq 25, 3) := by decide +kernel
theorem dX9_court_8 : decode cX9_court 8 = .ok (.iload_n 2, 1) := by decide +kernel
theorem dX9_court_9 : decode cX9_court 9 = .ok (.iconst (-1), 1) := by decide +kernel
theorem dX9_court_10 : decode cX9_court 10 = .ok (.if_icmp .eq 23, 3) := by decide +kernel
theorem dX9_court_13 : decode cX9_court 13 = .ok (.aload_n 0, 1) := by decide +kernel
theorem dX9_court_14 : decode cX9_court 14 = .ok (.iload_n 2, 1) := by decide +kernel
theorem dX9_court_15 : decode cX9_court 15 = .ok (.invokevirtual 273, 3) := by decide +kernel
theorem dX9_court_18 : decode cX9_court 18 = .ok (.ifCond .eq 12, 3) := by decide +kernel
theorem dX9_court_21 : decode cX9_court 21 = .ok (.aload_n 0, 1) := by decide +kernel
theorem dX9_court_22 : decode cX9_court 22 = .ok (.iload_n 1, 1) := by decide +kernel
theorem dX9_court_23 : decode cX9_court 23 = .ok (.iload_n 2, 1) := by decide +kernel
theorem dX9_court_24 : decode cX9_court 24 = .ok (.invokevirtual 276, 3) := by decide +kernel
theorem dX9_court_27 : decode cX9_court 27 = .ok (.ifCond .ne 6, 3) := by decide +kernel
theorem dX9_court_30 : decode cX9_court 30 = .ok (.bipush (-2), 2) := by decide +kernel
theorem dX9_court_32 : decode cX9_court 32 = .ok (.ireturn, 1) := by decide +kernel
theorem dX9_court_33 : decode cX9_court 33 = .ok (.aload_n 0, 1) := by decide +kernel
theorem dX9_court_34 : decode cX9_court 34 = .ok (.iload_n 1, 1) := by decide +kernel
theorem dX9_court_35 : decode cX9_court 35 = .ok (.invokevirtual 234, 3) := by decide +kernel
theorem dX9_court_38 : decode cX9_court 38 = .ok (.istore_n 3, 1) := by decide +kernel
theorem dX9_court_39 : decode cX9_court 39 = .ok (.aload_n 0, 1) := by decide +kernel
theorem dX9_court_40 : decode cX9_court 40 = .ok (.getfield 9, 3) := by decide +kernel
theorem dX9_court_43 : decode cX9_court 43 = .ok (.bipush 102, 2) := by decide +kernel
theorem dX9_court_45 : decode cX9_court 45 = .ok (.iload_n 1, 1) := by decide +kernel
theorem dX9_court_46 : decode cX9_court 46 = .ok (.iadd, 1) := by decide +kernel
theorem dX9_court_47 : decode cX9_court 47 = .ok (.iload_n 2, 1) := by decide +kernel
theorem dX9_court_48 : decode cX9_court 48 = .ok (.iastore, 1) := by decide +kernel
theorem dX9_court_49 : decode cX9_court 49 = .ok (.iload_n 3, 1) := by decide +kernel
theorem dX9_court_50 : decode cX9_court 50 = .ok (.ireturn, 1) := by decide +kernel
theorem dX9_bride_0 : decode cX9_bride 0 = .ok (.aload_n 0, 1) := by decide +kernel
theorem dX9_bride_1 : decode cX9_bride 1 = .ok (.iload_n 1, 1) := by decide +kernel
theorem dX9_bride_2 : decode cX9_bride 2 = .ok (.invokevirtual 273, 3) := by decide +kernel
theorem dX9_bride_5 : decode cX9_bride 5 = .ok (.ifCond .eq 15, 3) := by decide +kernel
theorem dX9_bride_8 : decode cX9_bride 8 = .ok (.iload_n 2, 1) := by decide +kernel
theorem dX9_bride_9 : decode cX9_bride 9 = .ok (.i2l, 1) := by decide +kernel
theorem dX9_bride_10 : decode cX9_bride 10 = .ok (.lconst 0, 1) := by decide +kernel
theorem dX9_bride_11 : decode cX9_bride 11 = .ok (.ldc2_w 279, 3) := by decide +kernel
theorem dX9_bride_14 : decode cX9_bride 14 = .ok (.invokestatic 82, 3) := by decide +kernel
theorem dX9_bride_17 : decode cX9_bride 17 = .ok (.ifCond .ne 6, 3) := by decide +kernel
theorem dX9_bride_20 : decode cX9_bride 20 = .ok (.bipush (-2), 2) := by decide +kernel
theorem dX9_bride_22 : decode cX9_bride 22 = .ok (.ireturn, 1) := by decide +kernel
theorem dX9_bride_23 : decode cX9_bride 23 = .ok (.iconst 0, 1) := by decide +kernel
theorem dX9_bride_24 : decode cX9_bride 24 = .ok (.istore_n 3, 1) := by decide +kernel
theorem dX9_bride_25 : decode cX9_bride 25 = .ok (.iconst 0, 1) := by decide +kernel
theorem dX9_bride_26 : decode cX9_bride 26 = .ok (.istore 4, 2) := by decide +kernel
theorem dX9_bride_28 : decode cX9_bride 28 = .ok (.iload 4, 2) := by decide +kernel
theorem dX9_bride_30 : decode cX9_bride 30 = .ok (.aload_n 0, 1) := by decide +kernel
theorem dX9_bride_31 : decode cX9_bride 31 = .ok (.getfield 9, 3) := by decide +kernel
theorem dX9_bride_34 : decode cX9_bride 34 = .ok (.iconst 4, 1) := by decide +kernel
theorem dX9_bride_35 : decode cX9_bride 35 = .ok (.iaload, 1) := by decide +kernel
theorem dX9_bride_36 : decode cX9_bride 36 = .ok (.if_icmp .ge 27, 3) := by decide +kernel
theorem dX9_bride_39 : decode cX9_bride 39 = .ok (.iload_n 3, 1) := by decide +kernel
theorem dX9_bride_40 : decode cX9_bride 40 = .ok (.aload_n 0, 1) := by decide +kernel
theorem dX9_bride_41 : decode cX9_bride 41 = .ok (.iload 4, 2) := by decide +kernel
theorem dX9_bride_43 : decode cX9_bride 43 = .ok (.invokevirtual 234, 3) := by decide +kernel
theorem dX9_bride_46 : decode cX9_bride 46 = .ok (.iload_n 1, 1) := by decide +kernel
theorem dX9_bride_47 : decode cX9_bride 47 = .ok (.if_icmp .ne 7, 3) := by decide +kernel
theorem dX9_bride_50 : decode cX9_bride 50 = .ok (.iconst 1, 1) := by decide +kernel
theorem dX9_bride_51 : decode cX9_bride 51 = .ok (.goto 4, 3) := by decide +kernel
theorem dX9_bride_54 : decode cX9_bride 54 = .ok (.iconst 0, 1) := by decide +kernel
theorem dX9_bride_55 : decode cX9_bride 55 = .ok (.iadd, 1) := by decide +kernel
theorem dX9_bride_56 : decode cX9_bride 56 = .ok (.istore_n 3, 1) := by decide +kernel
theorem dX9_bride_57 : decode cX9_bride 57 = .ok (.iinc 4 1, 3) := by decide +kernel
theorem dX9_bride_60 : decode cX9_bride 60 = .ok (.goto (-32), 3) := by decide +kernel
theorem dX9_bride_63 : decode cX9_bride 63 = .ok (.iload_n 2, 1) := by decide +kernel
theorem dX9_bride_64 : decode cX9_bride 64 = .ok (.ifCond .ne 11, 3) := by decide +kernel
theorem dX9_bride_67 : decode cX9_bride 67 = .ok (.aload_n 0, 1) := by decide +kernel
theorem dX9_bride_68 : decode cX9_bride 68 = .ok (.iload_n 1, 1) := by decide +kernel
theorem dX9_bride_69 : decode cX9_bride 69 = .ok (.invokevirtual 247, 3) := by decide +kernel
theorem dX9_bride_72 : decode cX9_bride 72 = .ok (.goto 30, 3) := by decide +kernel
theorem dX9_bride_75 : decode cX9_bride 75 = .ok (.iload_n 2, 1) := by decide +kernel
theorem dX9_bride_76 : decode cX9_bride 76 = .ok (.iconst 1, 1) := by decide +kernel
theorem dX9_bride_77 : decode cX9_bride 77 = .ok (.if_icmp .ne 11, 3) := by decide +kernel
theorem dX9_bride_80 : decode cX9_bride 80 = .ok (.aload_n 0, 1) := by decide +kernel
theorem dX9_bride_81 : decode cX9_bride 81 = .ok (.iload_n 1, 1) := by decide +kernel
theorem dX9_bride_82 : decode cX9_bride 82 = .ok (.invokevirtual 250, 3) := by decide +kernel
theorem dX9_bride_85 : decode cX9_bride 85 = .ok (.goto 17, 3) := by decide +kernel
theorem dX9_bride_88 : decode cX9_bride 88 = .ok (.iload_n 2, 1) := by decide +kernel
theorem dX9_bride_89 : decode cX9_bride 89 = .ok (.iconst 2, 1) := by decide +kernel
theorem dX9_bride_90 : decode cX9_bride 90 = .ok (.if_icmp .ne 7, 3) := by decide +kernel
theorem dX9_bride_93 : decode cX9_bride 93 = .ok (.iload_n 3, 1) := by decide +kernel
theorem dX9_bride_94 : decode cX9_bride 94 = .ok (.goto 8, 3) := by decide +kernel
theorem dX9_bride_97 : decode cX9_bride 97 = .ok (.aload_n 0, 1) := by decide +kernel
theorem dX9_bride_98 : decode cX9_bride 98 = .ok (.iload_n 1, 1) := by decide +kernel
theorem dX9_bride_99 : decode cX9_bride 99 = .ok (.invokevirtual 240, 3) := by decide +kernel
theorem dX9_bride_102 : decode cX9_bride 102 = .ok (.ireturn, 1) := by decide +kernel
theorem dX9_suitor_0 : decode cX9_suitor 0 = .ok (.aload_n 0, 1) := by decide +kernel
theorem dX9_suitor_1 : decode cX9_suitor 1 = .ok (.iload_n 1, 1) := by decide +kernel
theorem dX9_suitor_2 : decode cX9_suitor 2 = .ok (.invokevirtual 270, 3) := by decide +kernel
theorem dX9_suitor_5 : decode cX9_suitor 5 = .ok (.ifCond .eq 15, 3) := by decide +kernel
theorem dX9_suitor_8 : decode cX9_suitor 8 = .ok (.iload_n 2, 1) := by decide +kernel
theorem dX9_suitor_9 : decode cX9_suitor 9 = .ok (.i2l, 1) := by decide +kernel
theorem dX9_suitor_10 : decode cX9_suitor 10 = .ok (.lconst 0, 1) := by decide +kernel
theorem dX9_suitor_11 : decode cX9_suitor 11 = .ok (.ldc2_w 281, 3) := by decide +kernel
theorem dX9_suitor_14 : decode cX9_suitor 14 = .ok (.invokestatic 82, 3) := by decide +kernel
theorem dX9_suitor_17 : decode cX9_suitor 17 = .ok (.ifCond .ne 6, 3) := by decide +kernel
theorem dX9_suitor_20 : decode cX9_suitor 20 = .ok (.bipush (-2), 2) := by decide +kernel
theorem dX9_suitor_22 : decode cX9_suitor 22 = .ok (.ireturn, 1) := by decide +kernel
theorem dX9_suitor_23 : decode cX9_suitor 23 = .ok (.iload_n 2, 1) := by decide +kernel
theorem dX9_suitor_24 : decode cX9_suitor 24 = .ok (.ifCond .ne 11, 3) := by decide +kernel
theorem dX9_suitor_27 : decode cX9_suitor 27 = .ok (.aload_n 0, 1) := by decide +kernel
theorem dX9_suitor_28 : decode cX9_suitor 28 = .ok (.iload_n 1, 1) := by decide +kernel
theorem dX9_suitor_29 : decode cX9_suitor 29 = .ok (.invokevirtual 237, 3) := by decide +kernel
theorem dX9_suitor_32 : decode cX9_suitor 32 = .ok (.goto 63, 3) := by decide +kernel
theorem dX9_suitor_35 : decode cX9_suitor 35 = .ok (.iload_n 2, 1) := by decide +kernel
theorem dX9_suitor_36 : decode cX9_suitor 36 = .ok (.iconst 1, 1) := by decide +kernel
theorem dX9_suitor_37 : decode cX9_suitor 37 = .ok (.if_icmp .ne 11, 3) := by decide +kernel
theorem dX9_suitor_40 : decode cX9_suitor 40 = .ok (.aload_n 0, 1) := by decide +kernel
theorem dX9_suitor_41 : decode cX9_suitor 41 = .ok (.iload_n 1, 1) := by decide +kernel
theorem dX9_suitor_42 : decode cX9_suitor 42 = .ok (.invokevirtual 283, 3) := by decide +kernel
theorem dX9_suitor_45 : decode cX9_suitor 45 = .ok (.goto 50, 3) := by decide +kernel
theorem dX9_suitor_48 : decode cX9_suitor 48 = .ok (.iload_n 2, 1) := by decide +kernel
theorem dX9_suitor_49 : decode cX9_suitor 49 = .ok (.iconst 2, 1) := by decide +kernel
theorem dX9_suitor_50 : decode cX9_suitor 50 = .ok (.if_icmp .ne 19, 3) := by decide +kernel
theorem dX9_suitor_53 : decode cX9_suitor 53 = .ok (.aload_n 0, 1) := by decide +kernel
theorem dX9_suitor_54 : decode cX9_suitor 54 = .ok (.getfield 9, 3) := by decide +kernel
theorem dX9_suitor_57 : decode cX9_suitor 57 = .ok (.bipush 73, 2) := by decide +kernel
theorem dX9_suitor_59 : decode cX9_suitor 59 = .ok (.iconst 3, 1) := by decide +kernel
theorem dX9_suitor_60 : decode cX9_suitor 60 = .ok (.iload_n 1, 1) := by decide +kernel
theorem dX9_suitor_61 : decode cX9_suitor 61 = .ok (.imul, 1) := by decide +kernel
theorem dX9_suitor_62 : decode cX9_suitor 62 = .ok (.iadd, 1) := by decide +kernel
theorem dX9_suitor_63 : decode cX9_suitor 63 = .ok (.iconst 2, 1) := by decide +kernel
theorem dX9_suitor_64 : decode cX9_suitor 64 = .ok (.iadd, 1) := by decide +kernel
theorem dX9_suitor_65 : decode cX9_suitor 65 = .ok (.iaload, 1) := by decide +kernel
theorem dX9_suitor_66 : decode cX9_suitor 66 = .ok (.goto 29, 3) := by decide +kernel
theorem dX9_suitor_69 : decode cX9_suitor 69 = .ok (.iload_n 2, 1) := by decide +kernel
theorem dX9_suitor_70 : decode cX9_suitor 70 = .ok (.iconst 3, 1) := by decide +kernel
theorem dX9_suitor_71 : decode cX9_suitor 71 = .ok (.if_icmp .ne 11, 3) := by decide +kernel
theorem dX9_suitor_74 : decode cX9_suitor 74 = .ok (.aload_n 0, 1) := by decide +kernel
theorem dX9_suitor_75 : decode cX9_suitor 75 = .ok (.iload_n 1, 1) := by decide +kernel
theorem dX9_suitor_76 : decode cX9_suitor 76 = .ok (.invokevirtual 234, 3) := by decide +kernel
theorem dX9_suitor_79 : decode cX9_suitor 79 = .ok (.goto 16, 3) := by decide +kernel
theorem dX9_suitor_82 : decode cX9_suitor 82 = .ok (.aload_n 0, 1) := by decide +kernel
theorem dX9_suitor_83 : decode cX9_suitor 83 = .ok (.iload_n 1, 1) := by decide +kernel
theorem dX9_suitor_84 : decode cX9_suitor 84 = .ok (.invokevirtual 243, 3) := by decide +kernel
theorem dX9_suitor_87 : decode cX9_suitor 87 = .ok (.ifCond .eq 7, 3) := by decide +kernel
theorem dX9_suitor_90 : decode cX9_suitor 90 = .ok (.iconst 1, 1) := by decide +kernel
theorem dX9_suitor_91 : decode cX9_suitor 91 = .ok (.goto 4, 3) := by decide +kernel
theorem dX9_suitor_94 : decode cX9_suitor 94 = .ok (.iconst 0, 1) := by decide +kernel
theorem dX9_suitor_95 : decode cX9_suitor 95 = .ok (.ireturn, 1) := by decide +kernel
theorem dX9_hearts_0 : decode cX9_hearts 0 = .ok (.aload_n 0, 1) := by decide +kernel
theorem dX9_hearts_1 : decode cX9_hearts 1 = .ok (.invokevirtual 286, 3) := by decide +kernel
theorem dX9_hearts_4 : decode cX9_hearts 4 = .ok (.ifCond .eq 10, 3) := by decide +kernel
theorem dX9_hearts_7 : decode cX9_hearts 7 = .ok (.aload_n 0, 1) := by decide +kernel
theorem dX9_hearts_8 : decode cX9_hearts 8 = .ok (.invokevirtual 289, 3) := by decide +kernel
theorem dX9_hearts_11 : decode cX9_hearts 11 = .ok (.goto 5, 3) := by decide +kernel
theorem dX9_hearts_14 : decode cX9_hearts 14 = .ok (.bipush (-2), 2) := by decide +kernel
theorem dX9_hearts_16 : decode cX9_hearts 16 = .ok (.ireturn, 1) := by decide +kernel
theorem dX9_areSo_0 : decode cX9_areSo 0 = .ok (.aload_n 0, 1) := by decide +kernel
theorem dX9_areSo_1 : decode cX9_areSo 1 = .ok (.iload_n 1, 1) := by decide +kernel
theorem dX9_areSo_2 : decode cX9_areSo 2 = .ok (.i2l, 1) := by decide +kernel
theorem dX9_areSo_3 : decode cX9_areSo 3 = .ok (.invokevirtual 266, 3) := by decide +kernel
theorem dX9_areSo_6 : decode cX9_areSo 6 = .ok (.ifCond .eq 16, 3) := by decide +kernel
theorem dX9_areSo_9 : decode cX9_areSo 9 = .ok (.aload_n 0, 1) := by decide +kernel
theorem dX9_areSo_10 : decode cX9_areSo 10 = .ok (.iload_n 2, 1) := by decide +kernel
theorem dX9_areSo_11 : decode cX9_areSo 11 = .ok (.i2l, 1) := by decide +kernel
theorem dX9_areSo_12 : decode cX9_areSo 12 = .ok (.invokevirtual 292, 3) := by decide +kernel
theorem dX9_areSo_15 : decode cX9_areSo 15 = .ok (.ifCond .eq 7, 3) := by decide +kernel
theorem dX9_areSo_18 : decode cX9_areSo 18 = .ok (.iconst 1, 1) := by decide +kernel
theorem dX9_areSo_19 : decode cX9_areSo 19 = .ok (.goto 4, 3) := by decide +kernel
theorem dX9_areSo_22 : decode cX9_areSo 22 = .ok (.iconst 0, 1) := by decide +kernel
theorem dX9_areSo_23 : decode cX9_areSo 23 = .ok (.ireturn, 1) := by decide +kernel
theorem dX9_steps_0 : decode cX9_steps 0 = .ok (.aload_n 0, 1) := by decide +kernel
theorem dX9_steps_1 : decode cX9_steps 1 = .ok (.iload_n 1, 1) := by decide +kernel
theorem dX9_steps_2 : decode cX9_steps 2 = .ok (.iload_n 2, 1) := by decide +kernel
theorem dX9_steps_3 : decode cX9_steps 3 = .ok (.invokevirtual 295, 3) := by decide +kernel
theorem dX9_steps_6 : decode cX9_steps 6 = .ok (.ifCond .eq 12, 3) := by decide +kernel
theorem dX9_steps_9 : decode cX9_steps 9 = .ok (.aload_n 0, 1) := by decide +kernel
theorem dX9_steps_10 : decode cX9_steps 10 = .ok (.iload_n 1, 1) := by decide +kernel
theorem dX9_steps_11 : decode cX9_steps 11 = .ok (.iload_n 2, 1) := by decide +kernel
theorem dX9_steps_12 : decode cX9_steps 12 = .ok (.invokevirtual 260, 3) := by decide +kernel
theorem dX9_steps_15 : decode cX9_steps 15 = .ok (.goto 5, 3) := by decide +kernel
theorem dX9_steps_18 : decode cX9_steps 18 = .ok (.bipush (-2), 2) := by decide +kernel
theorem dX9_steps_20 : decode cX9_steps 20 = .ok (.ireturn, 1) := by decide +kernel
theorem dX9_whose_0 : decode cX9_whose 0 = .ok (.aload_n 0, 1) := by decide +kernel
theorem dX9_whose_1 : decode cX9_whose 1 = .ok (.iload_n 1, 1) := by decide +kernel
theorem dX9_whose_2 : decode cX9_whose 2 = .ok (.iload_n 2, 1) := by decide +kernel
theorem dX9_whose_3 : decode cX9_whose 3 = .ok (.invokevirtual 295, 3) := by decide +kernel
theorem dX9_whose_6 : decode cX9_whose 6 = .ok (.ifCond .ne 6, 3) := by decide +kernel
theorem dX9_whose_9 : decode cX9_whose 9 = .ok (.bipush (-2), 2) := by decide +kernel
theorem dX9_whose_11 : decode cX9_whose 11 = .ok (.ireturn, 1) := by decide +kernel
theorem dX9_whose_12 : decode cX9_whose 12 = .ok (.iconst 0, 1) := by decide +kernel
theorem dX9_whose_13 : decode cX9_whose 13 = .ok (.istore 4, 2) := by decide +kernel
theorem dX9_whose_15 : decode cX9_whose 15 = .ok (.iconst 0, 1) := by decide +kernel
theorem dX9_whose_16 : decode cX9_whose 16 = .ok (.istore 5, 2) := by decide +kernel
theorem dX9_whose_18 : decode cX9_whose 18 = .ok (.iload 5, 2) := by decide +kernel
theorem dX9_whose_20 : decode cX9_whose 20 = .ok (.aload_n 0, 1) := by decide +kernel
theorem dX9_whose_21 : decode cX9_whose 21 = .ok (.getfield 9, 3) := by decide +kernel
theorem dX9_whose_24 : decode cX9_whose 24 = .ok (.iconst 4, 1) := by decide +kernel
theorem dX9_whose_25 : decode cX9_whose 25 = .ok (.iaload, 1) := by decide +kernel
theorem dX9_whose_26 : decode cX9_whose 26 = .ok (.if_icmp .ge 35, 3) := by decide +kernel
theorem dX9_whose_29 : decode cX9_whose 29 = .ok (.aload_n 0, 1) := by decide +kernel
theorem dX9_whose_30 : decode cX9_whose 30 = .ok (.iload 5, 2) := by decide +kernel
theorem dX9_whose_32 : decode cX9_whose 32 = .ok (.iload_n 1, 1) := by decide +kernel
theorem dX9_whose_33 : decode cX9_whose 33 = .ok (.iload_n 2, 1) := by decide +kernel
theorem dX9_whose_34 : decode cX9_whose 34 = .ok (.invokevirtual 253, 3) := by decide +kernel
theorem dX9_whose_37 : decode cX9_whose 37 = .ok (.ifCond .ne 6, 3) := by decide +kernel
theorem dX9_whose_40 : decode cX9_whose 40 = .ok (.goto 15, 3) := by decide +kernel
theorem dX9_whose_43 : decode cX9_whose 43 = .ok (.iload 4, 2) := by decide +kernel
theorem dX9_whose_45 : decode cX9_whose 45 = .ok (.iload_n 3, 1) := by decide +kernel
theorem dX9_whose_46 : decode cX9_whose 46 = .ok (.if_icmp .ne 6, 3) := by decide +kernel
theorem dX9_whose_49 : decode cX9_whose 49 = .ok (.iload 5, 2) := by decide +kernel
theorem dX9_whose_51 : decode cX9_whose 51 = .ok (.ireturn, 1) := by decide +kernel
theorem dX9_whose_52 : decode cX9_whose 52 = .ok (.iinc 4 1, 3) := by decide +kernel
theorem dX9_whose_55 : decode cX9_whose 55 = .ok (.iinc 5 1, 3) := by decide +kernel
theorem dX9_whose_58 : decode cX9_whose 58 = .ok (.goto (-40), 3) := by decide +kernel
theorem dX9_whose_61 : decode cX9_whose 61 = .ok (.iconst (-1), 1) := by decide +kernel
theorem dX9_whose_62 : decode cX9_whose 62 = .ok (.ireturn, 1) := by decide +kernel
theorem dX9_leap_0 : decode cX9_leap 0 = .ok (.aload_n 0, 1) := by decide +kernel
theorem dX9_leap_1 : decode cX9_leap 1 = .ok (.iload_n 1, 1) := by decide +kernel
theorem dX9_leap_2 : decode cX9_leap 2 = .ok (.iload_n 2, 1) := by decide +kernel
theorem dX9_leap_3 : decode cX9_leap 3 = .ok (.invokevirtual 295, 3) := by decide +kernel
theorem dX9_leap_6 : decode cX9_leap 6 = .ok (.ifCond .eq 12, 3) := by decide +kernel
theorem dX9_leap_9 : decode cX9_leap 9 = .ok (.aload_n 0, 1) := by decide +kernel
theorem dX9_leap_10 : decode cX9_leap 10 = .ok (.iload_n 1, 1) := by decide +kernel
theorem dX9_leap_11 : decode cX9_leap 11 = .ok (.iload_n 2, 1) := by decide +kernel
theorem dX9_leap_12 : decode cX9_leap 12 = .ok (.invokevirtual 298, 3) := by decide +kernel
theorem dX9_leap_15 : decode cX9_leap 15 = .ok (.goto 5, 3) := by decide +kernel
theorem dX9_leap_18 : decode cX9_leap 18 = .ok (.bipush (-2), 2) := by decide +kernel
theorem dX9_leap_20 : decode cX9_leap 20 = .ok (.ireturn, 1) := by decide +kernel
theorem dX9_rots_0 : decode cX9_rots 0 = .ok (.aload_n 0, 1) := by decide +kernel
theorem dX9_rots_1 : decode cX9_rots 1 = .ok (.iload_n 1, 1) := by decide +kernel
theorem dX9_rots_2 : decode cX9_rots 2 = .ok (.i2l, 1) := by decide +kernel
theorem dX9_rots_3 : decode cX9_rots 3 = .ok (.invokevirtual 266, 3) := by decide +kernel
theorem dX9_rots_6 : decode cX9_rots 6 = .ok (.ifCond .ne 6, 3) := by decide +kernel
theorem dX9_rots_9 : decode cX9_rots 9 = .ok (.bipush (-2), 2) := by decide +kernel
theorem dX9_rots_11 : decode cX9_rots 11 = .ok (.ireturn, 1) := by decide +kernel
theorem dX9_rots_12 : decode cX9_rots 12 = .ok (.iconst (-1), 1) := by decide +kernel
theorem dX9_rots_13 : decode cX9_rots 13 = .ok (.istore_n 2, 1) := by decide +kernel
theorem dX9_rots_14 : decode cX9_rots 14 = .ok (.iconst 0, 1) := by decide +kernel
theorem dX9_rots_15 : decode cX9_rots 15 = .ok (.istore_n 3, 1) := by decide +kernel
theorem dX9_rots_16 : decode cX9_rots 16 = .ok (.iload_n 3, 1) := by decide +kernel
theorem dX9_rots_17 : decode cX9_rots 17 = .ok (.aload_n 0, 1) := by decide +kernel
theorem dX9_rots_18 : decode cX9_rots 18 = .ok (.getfield 9, 3) := by decide +kernel
theorem dX9_rots_21 : decode cX9_rots 21 = .ok (.iconst 1, 1) := by decide +kernel
theorem dX9_rots_22 : decode cX9_rots 22 = .ok (.iaload, 1) := by decide +kernel
theorem dX9_rots_23 : decode cX9_rots 23 = .ok (.if_icmp .ge 24, 3) := by decide +kernel
theorem dX9_rots_26 : decode cX9_rots 26 = .ok (.aload_n 0, 1) := by decide +kernel
theorem dX9_rots_27 : decode cX9_rots 27 = .ok (.iload_n 1, 1) := by decide +kernel
theorem dX9_rots_28 : decode cX9_rots 28 = .ok (.iload_n 3, 1) := by decide +kernel
theorem dX9_rots_29 : decode cX9_rots 29 = .ok (.invokevirtual 260, 3) := by decide +kernel
theorem dX9_rots_32 : decode cX9_rots 32 = .ok (.ifCond .le 7, 3) := by decide +kernel
theorem dX9_rots_35 : decode cX9_rots 35 = .ok (.iload_n 3, 1) := by decide +kernel
theorem dX9_rots_36 : decode cX9_rots 36 = .ok (.goto 4, 3) := by decide +kernel
theorem dX9_rots_39 : decode cX9_rots 39 = .ok (.iload_n 2, 1) := by decide +kernel
theorem dX9_rots_40 : decode cX9_rots 40 = .ok (.istore_n 2, 1) := by decide +kernel
theorem dX9_rots_41 : decode cX9_rots 41 = .ok (.iinc 3 1, 3) := by decide +kernel
theorem dX9_rots_44 : decode cX9_rots 44 = .ok (.goto (-28), 3) := by decide +kernel
theorem dX9_rots_47 : decode cX9_rots 47 = .ok (.iload_n 2, 1) := by decide +kernel
theorem dX9_rots_48 : decode cX9_rots 48 = .ok (.iconst (-1), 1) := by decide +kernel
theorem dX9_rots_49 : decode cX9_rots 49 = .ok (.if_icmp .eq 15, 3) := by decide +kernel
theorem dX9_rots_52 : decode cX9_rots 52 = .ok (.iload_n 2, 1) := by decide +kernel
theorem dX9_rots_53 : decode cX9_rots 53 = .ok (.aload_n 0, 1) := by decide +kernel
theorem dX9_rots_54 : decode cX9_rots 54 = .ok (.getfield 9, 3) := by decide +kernel
theorem dX9_rots_57 : decode cX9_rots 57 = .ok (.iconst 1, 1) := by decide +kernel
theorem dX9_rots_58 : decode cX9_rots 58 = .ok (.iaload, 1) := by decide +kernel
theorem dX9_rots_59 : decode cX9_rots 59 = .ok (.iconst 1, 1) := by decide +kernel
theorem dX9_rots_60 : decode cX9_rots 60 = .ok (.isub, 1) := by decide +kernel
theorem dX9_rots_61 : decode cX9_rots 61 = .ok (.if_icmp .ne 5, 3) := by decide +kernel
theorem dX9_rots_64 : decode cX9_rots 64 = .ok (.iconst (-1), 1) := by decide +kernel
theorem dX9_rots_65 : decode cX9_rots 65 = .ok (.ireturn, 1) := by decide +kernel
theorem dX9_rots_66 : decode cX9_rots 66 = .ok (.iload_n 2, 1) := by decide +kernel
theorem dX9_rots_67 : decode cX9_rots 67 = .ok (.iconst 1, 1) := by decide +kernel
theorem dX9_rots_68 : decode cX9_rots 68 = .ok (.iadd, 1) := by decide +kernel
theorem dX9_rots_69 : decode cX9_rots 69 = .ok (.ireturn, 1) := by decide +kernel
theorem dX9_lacksOf_0 : decode cX9_lacksOf 0 = .ok (.aload_n 0, 1) := by decide +kernel
theorem dX9_lacksOf_1 : decode cX9_lacksOf 1 = .ok (.iload_n 1, 1) := by decide +kernel
theorem dX9_lacksOf_2 : decode cX9_lacksOf 2 = .ok (.invokevirtual 257, 3) := by decide +kernel
theorem dX9_lacksOf_5 : decode cX9_lacksOf 5 = .ok (.istore 4, 2) := by decide +kernel
theorem dX9_lacksOf_7 : decode cX9_lacksOf 7 = .ok (.iload_n 3, 1) := by decide +kernel
theorem dX9_lacksOf_8 : decode cX9_lacksOf 8 = .ok (.ifCond .ne 12, 3) := by decide +kernel
theorem dX9_lacksOf_11 : decode cX9_lacksOf 11 = .ok (.iload 4, 2) := by decide +kernel
theorem dX9_lacksOf_13 : decode cX9_lacksOf 13 = .ok (.ifCond .le 7, 3) := by decide +kernel
theorem dX9_lacksOf_16 : decode cX9_lacksOf 16 = .ok (.ldc_w 301, 3) := by decide +kernel
theorem dX9_lacksOf_19 : decode cX9_lacksOf 19 = .ok (.ireturn, 1) := by decide +kernel
theorem dX9_lacksOf_20 : decode cX9_lacksOf 20 = .ok (.iconst 0, 1) := by decide +kernel
theorem dX9_lacksOf_21 : decode cX9_lacksOf 21 = .ok (.istore 5, 2) := by decide +kernel
theorem dX9_lacksOf_23 : decode cX9_lacksOf 23 = .ok (.iload 4, 2) := by decide +kernel
theorem dX9_lacksOf_25 : decode cX9_lacksOf 25 = .ok (.aload_n 0, 1) := by decide +kernel
theorem dX9_lacksOf_26 : decode cX9_lacksOf 26 = .ok (.iload_n 1, 1) := by decide +kernel
theorem dX9_lacksOf_27 : decode cX9_lacksOf 27 = .ok (.iload_n 2, 1) := by decide +kernel
theorem dX9_lacksOf_28 : decode cX9_lacksOf 28 = .ok (.invokevirtual 260, 3) := by decide +kernel
theorem dX9_lacksOf_31 : decode cX9_lacksOf 31 = .ok (.iload 5, 2) := by decide +kernel
theorem dX9_lacksOf_33 : decode cX9_lacksOf 33 = .ok (.iadd, 1) := by decide +kernel
theorem dX9_lacksOf_34 : decode cX9_lacksOf 34 = .ok (.invokestatic 263, 3) := by decide +kernel
theorem dX9_lacksOf_37 : decode cX9_lacksOf 37 = .ok (.iload_n 3, 1) := by decide +kernel
theorem dX9_lacksOf_38 : decode cX9_lacksOf 38 = .ok (.if_icmp .le 9, 3) := by decide +kernel
theorem dX9_lacksOf_41 : decode cX9_lacksOf 41 = .ok (.iinc 5 1, 3) := by decide +kernel
theorem dX9_lacksOf_44 : decode cX9_lacksOf 44 = .ok (.goto (-21), 3) := by decide +kernel
theorem dX9_lacksOf_47 : decode cX9_lacksOf 47 = .ok (.iload 5, 2) := by decide +kernel
theorem dX9_lacksOf_49 : decode cX9_lacksOf 49 = .ok (.ireturn, 1) := by decide +kernel
theorem dX9_lacks_0 : decode cX9_lacks 0 = .ok (.aload_n 0, 1) := by decide +kernel
theorem dX9_lacks_1 : decode cX9_lacks 1 = .ok (.iload_n 1, 1) := by decide +kernel
theorem dX9_lacks_2 : decode cX9_lacks 2 = .ok (.iload_n 2, 1) := by decide +kernel
theorem dX9_lacks_3 : decode cX9_lacks 3 = .ok (.invokevirtual 295, 3) := by decide +kernel
theorem dX9_lacks_6 : decode cX9_lacks 6 = .ok (.ifCond .eq 15, 3) := by decide +kernel
theorem dX9_lacks_9 : decode cX9_lacks 9 = .ok (.iload_n 3, 1) := by decide +kernel
theorem dX9_lacks_10 : decode cX9_lacks 10 = .ok (.i2l, 1) := by decide +kernel
theorem dX9_lacks_11 : decode cX9_lacks 11 = .ok (.lconst 0, 1) := by decide +kernel
theorem dX9_lacks_12 : decode cX9_lacks 12 = .ok (.ldc2_w 302, 3) := by decide +kernel
theorem dX9_lacks_15 : decode cX9_lacks 15 = .ok (.invokestatic 82, 3) := by decide +kernel
theorem dX9_lacks_18 : decode cX9_lacks 18 = .ok (.ifCond .ne 6, 3) := by decide +kernel
theorem dX9_lacks_21 : decode cX9_lacks 21 = .ok (.bipush (-2), 2) := by decide +kernel
theorem dX9_lacks_23 : decode cX9_lacks 23 = .ok (.ireturn, 1) := by decide +kernel
theorem dX9_lacks_24 : decode cX9_lacks 24 = .ok (.aload_n 0, 1) := by decide +kernel
theorem dX9_lacks_25 : decode cX9_lacks 25 = .ok (.iload_n 1, 1) := by decide +kernel
theorem dX9_lacks_26 : decode cX9_lacks 26 = .ok (.iload_n 2, 1) := by decide +kernel
theorem dX9_lacks_27 : decode cX9_lacks 27 = .ok (.iload_n 3, 1) := by decide +kernel
theorem dX9_lacks_28 : decode cX9_lacks 28 = .ok (.invokevirtual 304, 3) := by decide +kernel
theorem dX9_lacks_31 : decode cX9_lacks 31 = .ok (.istore 4, 2) := by decide +kernel
theorem dX9_lacks_33 : decode cX9_lacks 33 = .ok (.iload 4, 2) := by decide +kernel
theorem dX9_lacks_35 : decode cX9_lacks 35 = .ok (.ldc_w 301, 3) := by decide +kernel
theorem dX9_lacks_38 : decode cX9_lacks 38 = .ok (.if_icmp .ne 7, 3) := by decide +kernel
theorem dX9_lacks_41 : decode cX9_lacks 41 = .ok (.iconst (-1), 1) := by decide +kernel
theorem dX9_lacks_42 : decode cX9_lacks 42 = .ok (.goto 5, 3) := by decide +kernel
theorem dX9_lacks_45 : decode cX9_lacks 45 = .ok (.iload 4, 2) := by decide +kernel
theorem dX9_lacks_47 : decode cX9_lacks 47 = .ok (.ireturn, 1) := by decide +kernel
theorem dX9_fallOf_0 : decode cX9_fallOf 0 = .ok (.bipush 100, 2) := by decide +kernel
theorem dX9_fallOf_2 : decode cX9_fallOf 2 = .ok (.aload_n 0, 1) := by decide +kernel
theorem dX9_fallOf_3 : decode cX9_fallOf 3 = .ok (.getfield 9, 3) := by decide +kernel
theorem dX9_fallOf_6 : decode cX9_fallOf 6 = .ok (.bipush 15, 2) := by decide +kernel
theorem dX9_fallOf_8 : decode cX9_fallOf 8 = .ok (.iload_n 2, 1) := by decide +kernel
theorem dX9_fallOf_9 : decode cX9_fallOf 9 = .ok (.iadd, 1) := by decide +kernel
theorem dX9_fallOf_10 : decode cX9_fallOf 10 = .ok (.iaload, 1) := by decide +kernel
theorem dX9_fallOf_11 : decode cX9_fallOf 11 = .ok (.aload_n 0, 1) := by decide +kernel
theorem dX9_fallOf_12 : decode cX9_fallOf 12 = .ok (.iload_n 1, 1) := by decide +kernel
theorem dX9_fallOf_13 : decode cX9_fallOf 13 = .ok (.invokevirtual 243, 3) := by decide +kernel
theorem dX9_fallOf_16 : decode cX9_fallOf 16 = .ok (.ifCond .eq 11, 3) := by decide +kernel
theorem dX9_fallOf_19 : decode cX9_fallOf 19 = .ok (.aload_n 0, 1) := by decide +kernel
theorem dX9_fallOf_20 : decode cX9_fallOf 20 = .ok (.iload_n 1, 1) := by decide +kernel
theorem dX9_fallOf_21 : decode cX9_fallOf 21 = .ok (.invokevirtual 283, 3) := by decide +kernel
theorem dX9_fallOf_24 : decode cX9_fallOf 24 = .ok (.goto 4, 3) := by decide +kernel
theorem dX9_fallOf_27 : decode cX9_fallOf 27 = .ok (.iconst 0, 1) := by decide +kernel
theorem dX9_fallOf_28 : decode cX9_fallOf 28 = .ok (.iadd, 1) := by decide +kernel
theorem dX9_fallOf_29 : decode cX9_fallOf 29 = .ok (.invokestatic 130, 3) := by decide +kernel
theorem dX9_fallOf_32 : decode cX9_fallOf 32 = .ok (.ireturn, 1) := by decide +kernel
theorem dX9_safeBy_0 : decode cX9_safeBy 0 = .ok (.lload_n 1, 1) := by decide +kernel
theorem dX9_safeBy_1 : decode cX9_safeBy 1 = .ok (.lstore 5, 2) := by decide +kernel
theorem dX9_safeBy_3 : decode cX9_safeBy 3 = .ok (.iconst 0, 1) := by decide +kernel
theorem dX9_safeBy_4 : decode cX9_safeBy 4 = .ok (.istore 7, 2) := by decide +kernel
theorem dX9_safeBy_6 : decode cX9_safeBy 6 = .ok (.iload 7, 2) := by decide +kernel
theorem dX9_safeBy_8 : decode cX9_safeBy 8 = .ok (.aload_n 0, 1) := by decide +kernel
theorem dX9_safeBy_9 : decode cX9_safeBy 9 = .ok (.getfield 9, 3) := by decide +kernel
theorem dX9_safeBy_12 : decode cX9_safeBy 12 = .ok (.iconst 4, 1) := by decide +kernel
theorem dX9_safeBy_13 : decode cX9_safeBy 13 = .ok (.iaload, 1) := by decide +kernel
theorem dX9_safeBy_14 : decode cX9_safeBy 14 = .ok (.if_icmp .ge 42, 3) := by decide +kernel
theorem dX9_safeBy_17 : decode cX9_safeBy 17 = .ok (.aload_n 0, 1) := by decide +kernel
theorem dX9_safeBy_18 : decode cX9_safeBy 18 = .ok (.iload 7, 2) := by decide +kernel
theorem dX9_safeBy_20 : decode cX9_safeBy 20 = .ok (.iload_n 3, 1) := by decide +kernel
theorem dX9_safeBy_21 : decode cX9_safeBy 21 = .ok (.iload 4, 2) := by decide +kernel
theorem dX9_safeBy_23 : decode cX9_safeBy 23 = .ok (.invokevirtual 253, 3) := by decide +kernel
theorem dX9_safeBy_26 : decode cX9_safeBy 26 = .ok (.ifCond .eq 24, 3) := by decide +kernel
theorem dX9_safeBy_29 : decode cX9_safeBy 29 = .ok (.lload 5, 2) := by decide +kernel
theorem dX9_safeBy_31 : decode cX9_safeBy 31 = .ok (.ldc2_w 308, 3) := by decide +kernel
theorem dX9_safeBy_34 : decode cX9_safeBy 34 = .ok (.ldiv, 1) := by decide +kernel
theorem dX9_safeBy_35 : decode cX9_safeBy 35 = .ok (.bipush 100, 2) := by decide +kernel
theorem dX9_safeBy_37 : decode cX9_safeBy 37 = .ok (.aload_n 0, 1) := by decide +kernel
theorem dX9_safeBy_38 : decode cX9_safeBy 38 = .ok (.iload 7, 2) := by decide +kernel
theorem dX9_safeBy_40 : decode cX9_safeBy 40 = .ok (.iload 4, 2) := by decide +kernel
theorem dX9_safeBy_42 : decode cX9_safeBy 42 = .ok (.invokevirtual 310, 3) := by decide +kernel
theorem dX9_safeBy_45 : decode cX9_safeBy 45 = .ok (.isub, 1) := by decide +kernel
theorem dX9_safeBy_46 : decode cX9_safeBy 46 = .ok (.i2l, 1) := by decide +kernel
theorem dX9_safeBy_47 : decode cX9_safeBy 47 = .ok (.lmul, 1) := by decide +kernel
theorem dX9_safeBy_48 : decode cX9_safeBy 48 = .ok (.lstore 5, 2) := by decide +kernel
theorem dX9_safeBy_50 : decode cX9_safeBy 50 = .ok (.iinc 7 1, 3) := by decide +kernel
theorem dX9_safeBy_53 : decode cX9_safeBy 53 = .ok (.goto (-47), 3) := by decide +kernel
theorem dX9_safeBy_56 : decode cX9_safeBy 56 = .ok (.lload 5, 2) := by decide +kernel
theorem dX9_safeBy_58 : decode cX9_safeBy 58 = .ok (.lreturn, 1) := by decide +kernel
theorem dX9_divisor_0 : decode cX9_divisor 0 = .ok (.lload_n 0, 1) := by decide +kernel
theorem dX9_divisor_1 : decode cX9_divisor 1 = .ok (.lstore 4, 2) := by decide +kernel
theorem dX9_divisor_3 : decode cX9_divisor 3 = .ok (.lload_n 2, 1) := by decide +kernel
theorem dX9_divisor_4 : decode cX9_divisor 4 = .ok (.lstore 6, 2) := by decide +kernel
theorem dX9_divisor_6 : decode cX9_divisor 6 = .ok (.lload 6, 2) := by decide +kernel
theorem dX9_divisor_8 : decode cX9_divisor 8 = .ok (.lconst 0, 1) := by decide +kernel
theorem dX9_divisor_9 : decode cX9_divisor 9 = .ok (.lcmp, 1) := by decide +kernel
theorem dX9_divisor_10 : decode cX9_divisor 10 = .ok (.ifCond .eq 21, 3) := by decide +kernel
theorem dX9_divisor_13 : decode cX9_divisor 13 = .ok (.lload 4, 2) := by decide +kernel
theorem dX9_divisor_15 : decode cX9_divisor 15 = .ok (.lload 6, 2) := by decide +kernel
theorem dX9_divisor_17 : decode cX9_divisor 17 = .ok (.lrem, 1) := by decide +kernel
theorem dX9_divisor_18 : decode cX9_divisor 18 = .ok (.lstore 8, 2) := by decide +kernel
theorem dX9_divisor_20 : decode cX9_divisor 20 = .ok (.lload 6, 2) := by decide +kernel
theorem dX9_divisor_22 : decode cX9_divisor 22 = .ok (.lstore 4, 2) := by decide +kernel
theorem dX9_divisor_24 : decode cX9_divisor 24 = .ok (.lload 8, 2) := by decide +kernel
theorem dX9_divisor_26 : decode cX9_divisor 26 = .ok (.lstore 6, 2) := by decide +kernel
theorem dX9_divisor_28 : decode cX9_divisor 28 = .ok (.goto (-22), 3) := by decide +kernel
theorem dX9_divisor_31 : decode cX9_divisor 31 = .ok (.lload 4, 2) := by decide +kernel
theorem dX9_divisor_33 : decode cX9_divisor 33 = .ok (.lreturn, 1) := by decide +kernel
theorem dX9_part_0 : decode cX9_part 0 = .ok (.iload_n 2, 1) := by decide +kernel
theorem dX9_part_1 : decode cX9_part 1 = .ok (.ifCond .ne 7, 3) := by decide +kernel
theorem dX9_part_4 : decode cX9_part 4 = .ok (.lload_n 0, 1) := by decide +kernel
theorem dX9_part_5 : decode cX9_part 5 = .ok (.goto 6, 3) := by decide +kernel
theorem dX9_part_8 : decode cX9_part 8 = .ok (.ldc2_w 313, 3) := by decide +kernel
theorem dX9_part_11 : decode cX9_part 11 = .ok (.lload_n 0, 1) := by decide +kernel
theorem dX9_part_12 : decode cX9_part 12 = .ok (.ldc2_w 313, 3) := by decide +kernel
theorem dX9_part_15 : decode cX9_part 15 = .ok (.invokestatic 315, 3) := by decide +kernel
theorem dX9_part_18 : decode cX9_part 18 = .ok (.ldiv, 1) := by decide +kernel
theorem dX9_part_19 : decode cX9_part 19 = .ok (.lreturn, 1) := by decide +kernel
theorem dX9_safe_0 : decode cX9_safe 0 = .ok (.aload_n 0, 1) := by decide +kernel
theorem dX9_safe_1 : decode cX9_safe 1 = .ok (.iload_n 1, 1) := by decide +kernel
theorem dX9_safe_2 : decode cX9_safe 2 = .ok (.iload_n 2, 1) := by decide +kernel
theorem dX9_safe_3 : decode cX9_safe 3 = .ok (.invokevirtual 295, 3) := by decide +kernel
theorem dX9_safe_6 : decode cX9_safe 6 = .ok (.ifCond .eq 29, 3) := by decide +kernel
theorem dX9_safe_9 : decode cX9_safe 9 = .ok (.iload_n 3, 1) := by decide +kernel
theorem dX9_safe_10 : decode cX9_safe 10 = .ok (.i2l, 1) := by decide +kernel
theorem dX9_safe_11 : decode cX9_safe 11 = .ok (.lconst 0, 1) := by decide +kernel
theorem dX9_safe_12 : decode cX9_safe 12 = .ok (.lconst 1, 1) := by decide +kernel
theorem dX9_safe_13 : decode cX9_safe 13 = .ok (.invokestatic 82, 3) := by decide +kernel
theorem dX9_safe_16 : decode cX9_safe 16 = .ok (.ifCond .eq 19, 3) := by decide +kernel
theorem dX9_safe_19 : decode cX9_safe 19 = .ok (.aload_n 0, 1) := by decide +kernel
theorem dX9_safe_20 : decode cX9_safe 20 = .ok (.ldc2_w 313, 3) := by decide +kernel
theorem dX9_safe_23 : decode cX9_safe 23 = .ok (.iload_n 1, 1) := by decide +kernel
theorem dX9_safe_24 : decode cX9_safe 24 = .ok (.iload_n 2, 1) := by decide +kernel
theorem dX9_safe_25 : decode cX9_safe 25 = .ok (.invokevirtual 319, 3) := by decide +kernel
theorem dX9_safe_28 : decode cX9_safe 28 = .ok (.iload_n 3, 1) := by decide +kernel
theorem dX9_safe_29 : decode cX9_safe 29 = .ok (.invokestatic 323, 3) := by decide +kernel
theorem dX9_safe_32 : decode cX9_safe 32 = .ok (.goto 6, 3) := by decide +kernel
theorem dX9_safe_35 : decode cX9_safe 35 = .ok (.ldc2_w 327, 3) := by decide +kernel
theorem dX9_safe_38 : decode cX9_safe 38 = .ok (.lreturn, 1) := by decide +kernel
theorem dX9_pathBetween_0 : decode cX9_pathBetween 0 = .ok (.iconst 0, 1) := by decide +kernel
theorem dX9_pathBetween_1 : decode cX9_pathBetween 1 = .ok (.istore_n 3, 1) := by decide +kernel
theorem dX9_pathBetween_2 : decode cX9_pathBetween 2 = .ok (.iload_n 3, 1) := by decide +kernel
theorem dX9_pathBetween_3 : decode cX9_pathBetween 3 = .ok (.aload_n 0, 1) := by decide +kernel
theorem dX9_pathBetween_4 : decode cX9_pathBetween 4 = .ok (.getfield 9, 3) := by decide +kernel
theorem dX9_pathBetween_7 : decode cX9_pathBetween 7 = .ok (.iconst 2, 1) := by decide +kernel
theorem dX9_pathBetween_8 : decode cX9_pathBetween 8 = .ok (.iaload, 1) := by decide +kernel
theorem dX9_pathBetween_9 : decode cX9_pathBetween 9 = .ok (.if_icmp .ge 51, 3) := by decide +kernel
theorem dX9_pathBetween_12 : decode cX9_pathBetween 12 = .ok (.aload_n 0, 1) := by decide +kernel
theorem dX9_pathBetween_13 : decode cX9_pathBetween 13 = .ok (.iload_n 3, 1) := by decide +kernel
theorem dX9_pathBetween_14 : decode cX9_pathBetween 14 = .ok (.iconst 0, 1) := by decide +kernel
theorem dX9_pathBetween_15 : decode cX9_pathBetween 15 = .ok (.invokevirtual 90, 3) := by decide +kernel
theorem dX9_pathBetween_18 : decode cX9_pathBetween 18 = .ok (.iload_n 1, 1) := by decide +kernel
theorem dX9_pathBetween_19 : decode cX9_pathBetween 19 = .ok (.if_icmp .ne 13, 3) := by decide +kernel
theorem dX9_pathBetween_22 : decode cX9_pathBetween 22 = .ok (.aload_n 0, 1) := by decide +kernel
theorem dX9_pathBetween_23 : decode cX9_pathBetween 23 = .ok (.iload_n 3, 1) := by decide +kernel
theorem dX9_pathBetween_24 : decode cX9_pathBetween 24 = .ok (.iconst 1, 1) := by decide +kernel
theorem dX9_pathBetween_25 : decode cX9_pathBetween 25 = .ok (.invokevirtual 90, 3) := by decide +kernel
theorem dX9_pathBetween_28 : decode cX9_pathBetween 28 = .ok (.iload_n 2, 1) := by decide +kernel
theorem dX9_pathBetween_29 : decode cX9_pathBetween 29 = .ok (.if_icmp .eq 23, 3) := by decide +kernel
theorem dX9_pathBetween_32 : decode cX9_pathBetween 32 = .ok (.aload_n 0, 1) := by decide +kernel
theorem dX9_pathBetween_33 : decode cX9_pathBetween 33 = .ok (.iload_n 3, 1) := by decide +kernel
theorem dX9_pathBetween_34 : decode cX9_pathBetween 34 = .ok (.iconst 0, 1) := by decide +kernel
theorem dX9_pathBetween_35 : decode cX9_pathBetween 35 = .ok (.invokevirtual 90, 3) := by decide +kernel
theorem dX9_pathBetween_38 : decode cX9_pathBetween 38 = .ok (.iload_n 2, 1) := by decide +kernel
theorem dX9_pathBetween_39 : decode cX9_pathBetween 39 = .ok (.if_icmp .ne 15, 3) := by decide +kernel
theorem dX9_pathBetween_42 : decode cX9_pathBetween 42 = .ok (.aload_n 0, 1) := by decide +kernel
theorem dX9_pathBetween_43 : decode cX9_pathBetween 43 = .ok (.iload_n 3, 1) := by decide +kernel
theorem dX9_pathBetween_44 : decode cX9_pathBetween 44 = .ok (.iconst 1, 1) := by decide +kernel
theorem dX9_pathBetween_45 : decode cX9_pathBetween 45 = .ok (.invokevirtual 90, 3) := by decide +kernel
theorem dX9_pathBetween_48 : decode cX9_pathBetween 48 = .ok (.iload_n 1, 1) := by decide +kernel
theorem dX9_pathBetween_49 : decode cX9_pathBetween 49 = .ok (.if_icmp .ne 5, 3) := by decide +kernel
theorem dX9_pathBetween_52 : decode cX9_pathBetween 52 = .ok (.iload_n 3, 1) := by decide +kernel
theorem dX9_pathBetween_53 : decode cX9_pathBetween 53 = .ok (.ireturn, 1) := by decide +kernel
theorem dX9_pathBetween_54 : decode cX9_pathBetween 54 = .ok (.iinc 3 1, 3) := by decide +kernel
theorem dX9_pathBetween_57 : decode cX9_pathBetween 57 = .ok (.goto (-55), 3) := by decide +kernel
theorem dX9_pathBetween_60 : decode cX9_pathBetween 60 = .ok (.iconst (-1), 1) := by decide +kernel
theorem dX9_pathBetween_61 : decode cX9_pathBetween 61 = .ok (.ireturn, 1) := by decide +kernel
theorem dX9_opens_0 : decode cX9_opens 0 = .ok (.aload_n 0, 1) := by decide +kernel
theorem dX9_opens_1 : decode cX9_opens 1 = .ok (.iconst 0, 1) := by decide +kernel
theorem dX9_opens_2 : decode cX9_opens 2 = .ok (.putfield 329, 3) := by decide +kernel
theorem dX9_opens_5 : decode cX9_opens 5 = .ok (.iconst 0, 1) := by decide +kernel
theorem dX9_opens_6 : decode cX9_opens 6 = .ok (.istore_n 3, 1) := by decide +kernel
theorem dX9_opens_7 : decode cX9_opens 7 = .ok (.iload_n 3, 1) := by decide +kernel
theorem dX9_opens_8 : decode cX9_opens 8 = .ok (.aload_n 0, 1) := by decide +kernel
theorem dX9_opens_9 : decode cX9_opens 9 = .ok (.getfield 9, 3) := by decide +kernel
theorem dX9_opens_12 : decode cX9_opens 12 = .ok (.iconst 2, 1) := by decide +kernel
theorem dX9_opens_13 : decode cX9_opens 13 = .ok (.iaload, 1) := by decide +kernel
theorem dX9_opens_14 : decode cX9_opens 14 = .ok (.if_icmp .ge 35, 3) := by decide +kernel
theorem dX9_opens_17 : decode cX9_opens 17 = .ok (.aload_n 0, 1) := by decide +kernel
theorem dX9_opens_18 : decode cX9_opens 18 = .ok (.dup, 1) := by decide +kernel
theorem dX9_opens_19 : decode cX9_opens 19 = .ok (.getfield 329, 3) := by decide +kernel
theorem dX9_opens_22 : decode cX9_opens 22 = .ok (.aload_n 0, 1) := by decide +kernel
theorem dX9_opens_23 : decode cX9_opens 23 = .ok (.iload_n 3, 1) := by decide +kernel
theorem dX9_opens_24 : decode cX9_opens 24 = .ok (.iload_n 2, 1) := by decide +kernel
theorem dX9_opens_25 : decode cX9_opens 25 = .ok (.invokevirtual 298, 3) := by decide +kernel
theorem dX9_opens_28 : decode cX9_opens 28 = .ok (.iload_n 1, 1) := by decide +kernel
theorem dX9_opens_29 : decode cX9_opens 29 = .ok (.if_icmp .gt 9, 3) := by decide +kernel
theorem dX9_opens_32 : decode cX9_opens 32 = .ok (.iconst 1, 1) := by decide +kernel
theorem dX9_opens_33 : decode cX9_opens 33 = .ok (.iload_n 3, 1) := by decide +kernel
theorem dX9_opens_34 : decode cX9_opens 34 = .ok (.ishl, 1) := by decide +kernel
theorem dX9_opens_35 : decode cX9_opens 35 = .ok (.goto 4, 3) := by decide +kernel
theorem dX9_opens_38 : decode cX9_opens 38 = .ok (.iconst 0, 1) := by decide +kernel
theorem dX9_opens_39 : decode cX9_opens 39 = .ok (.ior, 1) := by decide +kernel
theorem dX9_opens_40 : decode cX9_opens 40 = .ok (.putfield 329, 3) := by decide +kernel
theorem dX9_opens_43 : decode cX9_opens 43 = .ok (.iinc 3 1, 3) := by decide +kernel
theorem dX9_opens_46 : decode cX9_opens 46 = .ok (.goto (-39), 3) := by decide +kernel
theorem dX9_opens_49 : decode cX9_opens 49 = .ok (.return_, 1) := by decide +kernel
theorem dX9_reachFrom_0 : decode cX9_reachFrom 0 = .ok (.iconst 1, 1) := by decide +kernel
theorem dX9_reachFrom_1 : decode cX9_reachFrom 1 = .ok (.iload_n 1, 1) := by decide +kernel
theorem dX9_reachFrom_2 : decode cX9_reachFrom 2 = .ok (.ishl, 1) := by decide +kernel
theorem dX9_reachFrom_3 : decode cX9_reachFrom 3 = .ok (.istore_n 2, 1) := by decide +kernel
theorem dX9_reachFrom_4 : decode cX9_reachFrom 4 = .ok (.iconst 0, 1) := by decide +kernel
theorem dX9_reachFrom_5 : decode cX9_reachFrom 5 = .ok (.istore_n 3, 1) := by decide +kernel
theorem dX9_reachFrom_6 : decode cX9_reachFrom 6 = .ok (.iload_n 3, 1) := by decide +kernel
theorem dX9_reachFrom_7 : decode cX9_reachFrom 7 = .ok (.iload_n 2, 1) := by decide +kernel
theorem dX9_reachFrom_8 : decode cX9_reachFrom 8 = .ok (.if_icmp .eq 74, 3) := by decide +kernel
theorem dX9_reachFrom_11 : decode cX9_reachFrom 11 = .ok (.iload_n 2, 1) := by decide +kernel
theorem dX9_reachFrom_12 : decode cX9_reachFrom 12 = .ok (.istore_n 3, 1) := by decide +kernel
theorem dX9_reachFrom_13 : decode cX9_reachFrom 13 = .ok (.iconst 0, 1) := by decide +kernel
theorem dX9_reachFrom_14 : decode cX9_reachFrom 14 = .ok (.istore 4, 2) := by decide +kernel
theorem dX9_reachFrom_16 : decode cX9_reachFrom 16 = .ok (.iload 4, 2) := by decide +kernel
theorem dX9_reachFrom_18 : decode cX9_reachFrom 18 = .ok (.aload_n 0, 1) := by decide +kernel
theorem dX9_reachFrom_19 : decode cX9_reachFrom 19 = .ok (.getfield 9, 3) := by decide +kernel
theorem dX9_reachFrom_22 : decode cX9_reachFrom 22 = .ok (.iconst 2, 1) := by decide +kernel
theorem dX9_reachFrom_23 : decode cX9_reachFrom 23 = .ok (.iaload, 1) := by decide +kernel
theorem dX9_reachFrom_24 : decode cX9_reachFrom 24 = .ok (.if_icmp .ge 55, 3) := by decide +kernel
theorem dX9_reachFrom_27 : decode cX9_reachFrom 27 = .ok (.iconst 1, 1) := by decide +kernel
theorem dX9_reachFrom_28 : decode cX9_reachFrom 28 = .ok (.aload_n 0, 1) := by decide +kernel
theorem dX9_reachFrom_29 : decode cX9_reachFrom 29 = .ok (.iload 4, 2) := by decide +kernel
theorem dX9_reachFrom_31 : decode cX9_reachFrom 31 = .ok (.iconst 0, 1) := by decide +kernel
theorem dX9_reachFrom_32 : decode cX9_reachFrom 32 = .ok (.invokevirtual 90, 3) := by decide +kernel
theorem dX9_reachFrom_35 : decode cX9_reachFrom 35 = .ok (.ishl, 1) := by decide +kernel
theorem dX9_reachFrom_36 : decode cX9_reachFrom 36 = .ok (.iconst 1, 1) := by decide +kernel
theorem dX9_reachFrom_37 : decode cX9_reachFrom 37 = .ok (.aload_n 0, 1) := by decide +kernel
theorem dX9_reachFrom_38 : decode cX9_reachFrom 38 = .ok (.iload 4, 2) := by decide +kernel
theorem dX9_reachFrom_40 : decode cX9_reachFrom 40 = .ok (.iconst 1, 1) := by decide +kernel
theorem dX9_reachFrom_41 : decode cX9_reachFrom 41 = .ok (.invokevirtual 90, 3) := by decide +kernel
theorem dX9_reachFrom_44 : decode cX9_reachFrom 44 = .ok (.ishl, 1) := by decide +kernel
theorem dX9_reachFrom_45 : decode cX9_reachFrom 45 = .ok (.ior, 1) := by decide +kernel
theorem dX9_reachFrom_46 : decode cX9_reachFrom 46 = .ok (.istore 5, 2) := by decide +kernel
theorem dX9_reachFrom_48 : decode cX9_reachFrom 48 = .ok (.aload_n 0, 1) := by decide +kernel
theorem dX9_reachFrom_49 : decode cX9_reachFrom 49 = .ok (.getfield 329, 3) := by decide +kernel
theorem dX9_reachFrom_52 : decode cX9_reachFrom 52 = .ok (.iload 4, 2) := by decide +kernel
theorem dX9_reachFrom_54 : decode cX9_reachFrom 54 = .ok (.ishr, 1) := by decide +kernel
theorem dX9_reachFrom_55 : decode cX9_reachFrom 55 = .ok (.iconst 1, 1) := by decide +kernel
theorem dX9_reachFrom_56 : decode cX9_reachFrom 56 = .ok (.iand, 1) := by decide +kernel
theorem dX9_reachFrom_57 : decode cX9_reachFrom 57 = .ok (.iconst 1, 1) := by decide +kernel
theorem dX9_reachFrom_58 : decode cX9_reachFrom 58 = .ok (.if_icmp .ne 15, 3) := by decide +kernel
theorem dX9_reachFrom_61 : decode cX9_reachFrom 61 = .ok (.iload_n 2, 1) := by decide +kernel
theorem dX9_reachFrom_62 : decode cX9_reachFrom 62 = .ok (.iload 5, 2) := by decide +kernel
theorem dX9_reachFrom_64 : decode cX9_reachFrom 64 = .ok (.iand, 1) := by decide +kernel
theorem dX9_reachFrom_65 : decode cX9_reachFrom 65 = .ok (.ifCond .eq 8, 3) := by decide +kernel
theorem dX9_reachFrom_68 : decode cX9_reachFrom 68 = .ok (.iload_n 2, 1) := by decide +kernel
theorem dX9_reachFrom_69 : decode cX9_reachFrom 69 = .ok (.iload 5, 2) := by decide +kernel
theorem dX9_reachFrom_71 : decode cX9_reachFrom 71 = .ok (.ior, 1) := by decide +kernel
theorem dX9_reachFrom_72 : decode cX9_reachFrom 72 = .ok (.istore_n 2, 1) := by decide +kernel
theorem dX9_reachFrom_73 : decode cX9_reachFrom 73 = .ok (.iinc 4 1, 3) := by decide +kernel
theorem dX9_reachFrom_76 : decode cX9_reachFrom 76 = .ok (.goto (-60), 3) := by decide +kernel
theorem dX9_reachFrom_79 : decode cX9_reachFrom 79 = .ok (.goto (-73), 3) := by decide +kernel
theorem dX9_reachFrom_82 : decode cX9_reachFrom 82 = .ok (.iload_n 2, 1) := by decide +kernel
theorem dX9_reachFrom_83 : decode cX9_reachFrom 83 = .ok (.ireturn, 1) := by decide +kernel
theorem dX9_canCome_0 : decode cX9_canCome 0 = .ok (.aload_n 0, 1) := by decide +kernel
theorem dX9_canCome_1 : decode cX9_canCome 1 = .ok (.aload_n 0, 1) := by decide +kernel
theorem dX9_canCome_2 : decode cX9_canCome 2 = .ok (.iload_n 1, 1) := by decide +kernel
theorem dX9_canCome_3 : decode cX9_canCome 3 = .ok (.invokevirtual 332, 3) := by decide +kernel
theorem dX9_canCome_6 : decode cX9_canCome 6 = .ok (.iload_n 3, 1) := by decide +kernel
theorem dX9_canCome_7 : decode cX9_canCome 7 = .ok (.invokevirtual 335, 3) := by decide +kernel
theorem dX9_canCome_10 : decode cX9_canCome 10 = .ok (.aload_n 0, 1) := by decide +kernel
theorem dX9_canCome_11 : decode cX9_canCome 11 = .ok (.aload_n 0, 1) := by decide +kernel
theorem dX9_canCome_12 : decode cX9_canCome 12 = .ok (.iload_n 1, 1) := by decide +kernel
theorem dX9_canCome_13 : decode cX9_canCome 13 = .ok (.invokevirtual 339, 3) := by decide +kernel
theorem dX9_canCome_16 : decode cX9_canCome 16 = .ok (.invokevirtual 342, 3) := by decide +kernel
theorem dX9_canCome_19 : decode cX9_canCome 19 = .ok (.iload_n 2, 1) := by decide +kernel
theorem dX9_canCome_20 : decode cX9_canCome 20 = .ok (.ishr, 1) := by decide +kernel
theorem dX9_canCome_21 : decode cX9_canCome 21 = .ok (.iconst 1, 1) := by decide +kernel
theorem dX9_canCome_22 : decode cX9_canCome 22 = .ok (.iand, 1) := by decide +kernel
theorem dX9_canCome_23 : decode cX9_canCome 23 = .ok (.iconst 1, 1) := by decide +kernel
theorem dX9_canCome_24 : decode cX9_canCome 24 = .ok (.if_icmp .ne 7, 3) := by decide +kernel
theorem dX9_canCome_27 : decode cX9_canCome 27 = .ok (.iconst 1, 1) := by decide +kernel
theorem dX9_canCome_28 : decode cX9_canCome 28 = .ok (.goto 4, 3) := by decide +kernel
theorem dX9_canCome_31 : decode cX9_canCome 31 = .ok (.iconst 0, 1) := by decide +kernel
theorem dX9_canCome_32 : decode cX9_canCome 32 = .ok (.ireturn, 1) := by decide +kernel
theorem dX9_found_0 : decode cX9_found 0 = .ok (.aload_n 0, 1) := by decide +kernel
theorem dX9_found_1 : decode cX9_found 1 = .ok (.dup, 1) := by decide +kernel
theorem dX9_found_2 : decode cX9_found 2 = .ok (.getfield 345, 3) := by decide +kernel
theorem dX9_found_5 : decode cX9_found 5 = .ok (.iconst 1, 1) := by decide +kernel
theorem dX9_found_6 : decode cX9_found 6 = .ok (.iadd, 1) := by decide +kernel
theorem dX9_found_7 : decode cX9_found 7 = .ok (.putfield 345, 3) := by decide +kernel
theorem dX9_found_10 : decode cX9_found 10 = .ok (.aload_n 0, 1) := by decide +kernel
theorem dX9_found_11 : decode cX9_found 11 = .ok (.getfield 348, 3) := by decide +kernel
theorem dX9_found_14 : decode cX9_found 14 = .ok (.ifCond .eq 11, 3) := by decide +kernel
theorem dX9_found_17 : decode cX9_found 17 = .ok (.iload_n 1, 1) := by decide +kernel
theorem dX9_found_18 : decode cX9_found 18 = .ok (.aload_n 0, 1) := by decide +kernel
theorem dX9_found_19 : decode cX9_found 19 = .ok (.getfield 348, 3) := by decide +kernel
theorem dX9_found_22 : decode cX9_found 22 = .ok (.if_icmp .ge 33, 3) := by decide +kernel
theorem dX9_found_25 : decode cX9_found 25 = .ok (.iconst 0, 1) := by decide +kernel
theorem dX9_found_26 : decode cX9_found 26 = .ok (.istore_n 2, 1) := by decide +kernel
theorem dX9_found_27 : decode cX9_found 27 = .ok (.iload_n 2, 1) := by decide +kernel
theorem dX9_found_28 : decode cX9_found 28 = .ok (.iload_n 1, 1) := by decide +kernel
theorem dX9_found_29 : decode cX9_found 29 = .ok (.if_icmp .ge 21, 3) := by decide +kernel
theorem dX9_found_32 : decode cX9_found 32 = .ok (.aload_n 0, 1) := by decide +kernel
theorem dX9_found_33 : decode cX9_found 33 = .ok (.getfield 47, 3) := by decide +kernel
theorem dX9_found_36 : decode cX9_found 36 = .ok (.iload_n 2, 1) := by decide +kernel
theorem dX9_found_37 : decode cX9_found 37 = .ok (.aload_n 0, 1) := by decide +kernel
theorem dX9_found_38 : decode cX9_found 38 = .ok (.getfield 37, 3) := by decide +kernel
theorem dX9_found_41 : decode cX9_found 41 = .ok (.iload_n 2, 1) := by decide +kernel
theorem dX9_found_42 : decode cX9_found 42 = .ok (.iaload, 1) := by decide +kernel
theorem dX9_found_43 : decode cX9_found 43 = .ok (.iastore, 1) := by decide +kernel
theorem dX9_found_44 : decode cX9_found 44 = .ok (.iinc 2 1, 3) := by decide +kernel
theorem dX9_found_47 : decode cX9_found 47 = .ok (.goto (-20), 3) := by decide +kernel
theorem dX9_found_50 : decode cX9_found 50 = .ok (.aload_n 0, 1) := by decide +kernel
theorem dX9_found_51 : decode cX9_found 51 = .ok (.iload_n 1, 1) := by decide +kernel
theorem dX9_found_52 : decode cX9_found 52 = .ok (.putfield 348, 3) := by decide +kernel
theorem dX9_found_55 : decode cX9_found 55 = .ok (.aload_n 0, 1) := by decide +kernel
theorem dX9_found_56 : decode cX9_found 56 = .ok (.getfield 351, 3) := by decide +kernel
theorem dX9_found_59 : decode cX9_found 59 = .ok (.ifCond .le 44, 3) := by decide +kernel
theorem dX9_found_62 : decode cX9_found 62 = .ok (.aload_n 0, 1) := by decide +kernel
theorem dX9_found_63 : decode cX9_found 63 = .ok (.getfield 43, 3) := by decide +kernel
theorem dX9_found_66 : decode cX9_found 66 = .ok (.iload_n 1, 1) := by decide +kernel
theorem dX9_found_67 : decode cX9_found 67 = .ok (.iconst 1, 1) := by decide +kernel
theorem dX9_found_68 : decode cX9_found 68 = .ok (.isub, 1) := by decide +kernel
theorem dX9_found_69 : decode cX9_found 69 = .ok (.laload, 1) := by decide +kernel
theorem dX9_found_70 : decode cX9_found 70 = .ok (.aload_n 0, 1) := by decide +kernel
theorem dX9_found_71 : decode cX9_found 71 = .ok (.getfield 354, 3) := by decide +kernel
theorem dX9_found_74 : decode cX9_found 74 = .ok (.lcmp, 1) := by decide +kernel
theorem dX9_found_75 : decode cX9_found 75 = .ok (.ifCond .lt 27, 3) := by decide +kernel
theorem dX9_found_78 : decode cX9_found 78 = .ok (.aload_n 0, 1) := by decide +kernel
theorem dX9_found_79 : decode cX9_found 79 = .ok (.getfield 43, 3) := by decide +kernel
theorem dX9_found_82 : decode cX9_found 82 = .ok (.iload_n 1, 1) := by decide +kernel
theorem dX9_found_83 : decode cX9_found 83 = .ok (.iconst 1, 1) := by decide +kernel
theorem dX9_found_84 : decode cX9_found 84 = .ok (.isub, 1) := by decide +kernel
theorem dX9_found_85 : decode cX9_found 85 = .ok (.laload, 1) := by decide +kernel
theorem dX9_found_86 : decode cX9_found 86 = .ok (.aload_n 0, 1) := by decide +kernel
theorem dX9_found_87 : decode cX9_found 87 = .ok (.getfield 354, 3) := by decide +kernel
theorem dX9_found_90 : decode cX9_found 90 = .ok (.lcmp, 1) := by decide +kernel
theorem dX9_found_91 : decode cX9_found 91 = .ok (.ifCond .ne 12, 3) := by decide +kernel
theorem dX9_found_94 : decode cX9_found 94 = .ok (.iload_n 1, 1) := by decide +kernel
theorem dX9_found_95 : decode cX9_found 95 = .ok (.aload_n 0, 1) := by decide +kernel
theorem dX9_found_96 : decode cX9_found 96 = .ok (.getfield 351, 3) := by decide +kernel
theorem dX9_found_99 : decode cX9_found 99 = .ok (.if_icmp .lt 4, 3) := by decide +kernel
theorem dX9_found_102 : decode cX9_found 102 = .ok (.return_, 1) := by decide +kernel
theorem dX9_found_103 : decode cX9_found 103 = .ok (.iconst 0, 1) := by decide +kernel
theorem dX9_found_104 : decode cX9_found 104 = .ok (.istore_n 2, 1) := by decide +kernel
theorem dX9_found_105 : decode cX9_found 105 = .ok (.iload_n 2, 1) := by decide +kernel
theorem dX9_found_106 : decode cX9_found 106 = .ok (.iload_n 1, 1) := by decide +kernel
theorem dX9_found_107 : decode cX9_found 107 = .ok (.if_icmp .ge 21, 3) := by decide +kernel
theorem dX9_found_110 : decode cX9_found 110 = .ok (.aload_n 0, 1) := by decide +kernel
theorem dX9_found_111 : decode cX9_found 111 = .ok (.getfield 50, 3) := by decide +kernel
theorem dX9_found_114 : decode cX9_found 114 = .ok (.iload_n 2, 1) := by decide +kernel
theorem dX9_found_115 : decode cX9_found 115 = .ok (.aload_n 0, 1) := by decide +kernel
theorem dX9_found_116 : decode cX9_found 116 = .ok (.getfield 37, 3) := by decide +kernel
theorem dX9_found_119 : decode cX9_found 119 = .ok (.iload_n 2, 1) := by decide +kernel
theorem dX9_found_120 : decode cX9_found 120 = .ok (.iaload, 1) := by decide +kernel
theorem dX9_found_121 : decode cX9_found 121 = .ok (.iastore, 1) := by decide +kernel
theorem dX9_found_122 : decode cX9_found 122 = .ok (.iinc 2 1, 3) := by decide +kernel
theorem dX9_found_125 : decode cX9_found 125 = .ok (.goto (-20), 3) := by decide +kernel
theorem dX9_found_128 : decode cX9_found 128 = .ok (.aload_n 0, 1) := by decide +kernel
theorem dX9_found_129 : decode cX9_found 129 = .ok (.iload_n 1, 1) := by decide +kernel
theorem dX9_found_130 : decode cX9_found 130 = .ok (.putfield 351, 3) := by decide +kernel
theorem dX9_found_133 : decode cX9_found 133 = .ok (.aload_n 0, 1) := by decide +kernel
theorem dX9_found_134 : decode cX9_found 134 = .ok (.aload_n 0, 1) := by decide +kernel
theorem dX9_found_135 : decode cX9_found 135 = .ok (.getfield 43, 3) := by decide +kernel
theorem dX9_found_138 : decode cX9_found 138 = .ok (.iload_n 1, 1) := by decide +kernel
theorem dX9_found_139 : decode cX9_found 139 = .ok (.iconst 1, 1) := by decide +kernel
theorem dX9_found_140 : decode cX9_found 140 = .ok (.isub, 1) := by decide +kernel
theorem dX9_found_141 : decode cX9_found 141 = .ok (.laload, 1) := by decide +kernel
theorem dX9_found_142 : decode cX9_found 142 = .ok (.putfield 354, 3) := by decide +kernel
theorem dX9_found_145 : decode cX9_found 145 = .ok (.return_, 1) := by decide +kernel
theorem dX9_isNew_0 : decode cX9_isNew 0 = .ok (.iconst 0, 1) := by decide +kernel
theorem dX9_isNew_1 : decode cX9_isNew 1 = .ok (.istore_n 3, 1) := by decide +kernel
theorem dX9_isNew_2 : decode cX9_isNew 2 = .ok (.iload_n 3, 1) := by decide +kernel
theorem dX9_isNew_3 : decode cX9_isNew 3 = .ok (.iload_n 2, 1) := by decide +kernel
theorem dX9_isNew_4 : decode cX9_isNew 4 = .ok (.if_icmp .ge 21, 3) := by decide +kernel
theorem dX9_isNew_7 : decode cX9_isNew 7 = .ok (.aload_n 0, 1) := by decide +kernel
theorem dX9_isNew_8 : decode cX9_isNew 8 = .ok (.getfield 37, 3) := by decide +kernel
theorem dX9_isNew_11 : decode cX9_isNew 11 = .ok (.iload_n 3, 1) := by decide +kernel
theorem dX9_isNew_12 : decode cX9_isNew 12 = .ok (.iaload, 1) := by decide +kernel
theorem dX9_isNew_13 : decode cX9_isNew 13 = .ok (.iload_n 1, 1) := by decide +kernel
theorem dX9_isNew_14 : decode cX9_isNew 14 = .ok (.if_icmp .ne 5, 3) := by decide +kernel
theorem dX9_isNew_17 : decode cX9_isNew 17 = .ok (.iconst 0, 1) := by decide +kernel
theorem dX9_isNew_18 : decode cX9_isNew 18 = .ok (.ireturn, 1) := by decide +kernel
theorem dX9_isNew_19 : decode cX9_isNew 19 = .ok (.iinc 3 1, 3) := by decide +kernel
theorem dX9_isNew_22 : decode cX9_isNew 22 = .ok (.goto (-20), 3) := by decide +kernel
theorem dX9_isNew_25 : decode cX9_isNew 25 = .ok (.iconst 1, 1) := by decide +kernel
theorem dX9_isNew_26 : decode cX9_isNew 26 = .ok (.ireturn, 1) := by decide +kernel
theorem dX9_allWays_0 : decode cX9_allWays 0 = .ok (.aload_n 0, 1) := by decide +kernel
theorem dX9_allWays_1 : decode cX9_allWays 1 = .ok (.aload_n 0, 1) := by decide +kernel
theorem dX9_allWays_2 : decode cX9_allWays 2 = .ok (.iload_n 1, 1) := by decide +kernel
theorem dX9_allWays_3 : decode cX9_allWays 3 = .ok (.invokevirtual 332, 3) := by decide +kernel
theorem dX9_allWays_6 : decode cX9_allWays 6 = .ok (.iload_n 3, 1) := by decide +kernel
theorem dX9_allWays_7 : decode cX9_allWays 7 = .ok (.invokevirtual 335, 3) := by decide +kernel
theorem dX9_allWays_10 : decode cX9_allWays 10 = .ok (.aload_n 0, 1) := by decide +kernel
theorem dX9_allWays_11 : decode cX9_allWays 11 = .ok (.iconst 0, 1) := by decide +kernel
theorem dX9_allWays_12 : decode cX9_allWays 12 = .ok (.putfield 345, 3) := by decide +kernel
theorem dX9_allWays_15 : decode cX9_allWays 15 = .ok (.aload_n 0, 1) := by decide +kernel
theorem dX9_allWays_16 : decode cX9_allWays 16 = .ok (.iconst 0, 1) := by decide +kernel
theorem dX9_allWays_17 : decode cX9_allWays 17 = .ok (.putfield 348, 3) := by decide +kernel
theorem dX9_allWays_20 : decode cX9_allWays 20 = .ok (.aload_n 0, 1) := by decide +kernel
theorem dX9_allWays_21 : decode cX9_allWays 21 = .ok (.iconst 0, 1) := by decide +kernel
theorem dX9_allWays_22 : decode cX9_allWays 22 = .ok (.putfield 351, 3) := by decide +kernel
theorem dX9_allWays_25 : decode cX9_allWays 25 = .ok (.aload_n 0, 1) := by decide +kernel
theorem dX9_allWays_26 : decode cX9_allWays 26 = .ok (.getfield 37, 3) := by decide +kernel
theorem dX9_allWays_29 : decode cX9_allWays 29 = .ok (.iconst 0, 1) := by decide +kernel
theorem dX9_allWays_30 : decode cX9_allWays 30 = .ok (.aload_n 0, 1) := by decide +kernel
theorem dX9_allWays_31 : decode cX9_allWays 31 = .ok (.iload_n 1, 1) := by decide +kernel
theorem dX9_allWays_32 : decode cX9_allWays 32 = .ok (.invokevirtual 339, 3) := by decide +kernel
theorem dX9_allWays_35 : decode cX9_allWays 35 = .ok (.iastore, 1) := by decide +kernel
theorem dX9_allWays_36 : decode cX9_allWays 36 = .ok (.aload_n 0, 1) := by decide +kernel
theorem dX9_allWays_37 : decode cX9_allWays 37 = .ok (.getfield 43, 3) := by decide +kernel
theorem dX9_allWays_40 : decode cX9_allWays 40 = .ok (.iconst 0, 1) := by decide +kernel
theorem dX9_allWays_41 : decode cX9_allWays 41 = .ok (.ldc2_w 313, 3) := by decide +kernel
theorem dX9_allWays_44 : decode cX9_allWays 44 = .ok (.lastore, 1) := by decide +kernel
theorem dX9_allWays_45 : decode cX9_allWays 45 = .ok (.aload_n 0, 1) := by decide +kernel
theorem dX9_allWays_46 : decode cX9_allWays 46 = .ok (.getfield 40, 3) := by decide +kernel
theorem dX9_allWays_49 : decode cX9_allWays 49 = .ok (.iconst 0, 1) := by decide +kernel
theorem dX9_allWays_50 : decode cX9_allWays 50 = .ok (.iconst (-1), 1) := by decide +kernel
theorem dX9_allWays_51 : decode cX9_allWays 51 = .ok (.iastore, 1) := by decide +kernel
theorem dX9_allWays_52 : decode cX9_allWays 52 = .ok (.iconst 1, 1) := by decide +kernel
theorem dX9_allWays_53 : decode cX9_allWays 53 = .ok (.istore 4, 2) := by decide +kernel
theorem dX9_allWays_55 : decode cX9_allWays 55 = .ok (.iload 4, 2) := by decide +kernel
theorem dX9_allWays_57 : decode cX9_allWays 57 = .ok (.ifCond .le 159, 3) := by decide +kernel
theorem dX9_allWays_60 : decode cX9_allWays 60 = .ok (.aload_n 0, 1) := by decide +kernel
theorem dX9_allWays_61 : decode cX9_allWays 61 = .ok (.getfield 37, 3) := by decide +kernel
theorem dX9_allWays_64 : decode cX9_allWays 64 = .ok (.iload 4, 2) := by decide +kernel
theorem dX9_allWays_66 : decode cX9_allWays 66 = .ok (.iconst 1, 1) := by decide +kernel
theorem dX9_allWays_67 : decode cX9_allWays 67 = .ok (.isub, 1) := by decide +kernel
theorem dX9_allWays_68 : decode cX9_allWays 68 = .ok (.iaload, 1) := by decide +kernel
theorem dX9_allWays_69 : decode cX9_allWays 69 = .ok (.istore 5, 2) := by decide +kernel
theorem dX9_allWays_71 : decode cX9_allWays 71 = .ok (.iload 5, 2) := by decide +kernel
theorem dX9_allWays_73 : decode cX9_allWays 73 = .ok (.iload_n 2, 1) := by decide +kernel
theorem dX9_allWays_74 : decode cX9_allWays 74 = .ok (.if_icmp .ne 15, 3) := by decide +kernel
theorem dX9_allWays_77 : decode cX9_allWays 77 = .ok (.aload_n 0, 1) := by decide +kernel
theorem dX9_allWays_78 : decode cX9_allWays 78 = .ok (.iload 4, 2) := by decide +kernel
theorem dX9_allWays_80 : decode cX9_allWays 80 = .ok (.invokevirtual 358, 3) := by decide +kernel
theorem dX9_allWays_83 : decode cX9_allWays 83 = .ok (.iinc 4 (-1), 3) := by decide +kernel
theorem dX9_allWays_86 : decode cX9_allWays 86 = .ok (.goto (-31), 3) := by decide +kernel
theorem dX9_allWays_89 : decode cX9_allWays 89 = .ok (.aload_n 0, 1) := by decide +kernel
theorem dX9_allWays_90 : decode cX9_allWays 90 = .ok (.getfield 40, 3) := by decide +kernel
theorem dX9_allWays_93 : decode cX9_allWays 93 = .ok (.iload 4, 2) := by decide +kernel
theorem dX9_allWays_95 : decode cX9_allWays 95 = .ok (.iconst 1, 1) := by decide +kernel
theorem dX9_allWays_96 : decode cX9_allWays 96 = .ok (.isub, 1) := by decide +kernel
theorem dX9_allWays_97 : decode cX9_allWays 97 = .ok (.dup2, 1) := by decide +kernel
theorem dX9_allWays_98 : decode cX9_allWays 98 = .ok (.iaload, 1) := by decide +kernel
theorem dX9_allWays_99 : decode cX9_allWays 99 = .ok (.iconst 1, 1) := by decide +kernel
theorem dX9_allWays_100 : decode cX9_allWays 100 = .ok (.iadd, 1) := by decide +kernel
theorem dX9_allWays_101 : decode cX9_allWays 101 = .ok (.iastore, 1) := by decide +kernel
theorem dX9_allWays_102 : decode cX9_allWays 102 = .ok (.aload_n 0, 1) := by decide +kernel
theorem dX9_allWays_103 : decode cX9_allWays 103 = .ok (.getfield 40, 3) := by decide +kernel
theorem dX9_allWays_106 : decode cX9_allWays 106 = .ok (.iload 4, 2) := by decide +kernel
theorem dX9_allWays_108 : decode cX9_allWays 108 = .ok (.iconst 1, 1) := by decide +kernel
theorem dX9_allWays_109 : decode cX9_allWays 109 = .ok (.isub, 1) := by decide +kernel
theorem dX9_allWays_110 : decode cX9_allWays 110 = .ok (.iaload, 1) := by decide +kernel
theorem dX9_allWays_111 : decode cX9_allWays 111 = .ok (.istore 6, 2) := by decide +kernel
theorem dX9_allWays_113 : decode cX9_allWays 113 = .ok (.iload 6, 2) := by decide +kernel
theorem dX9_allWays_115 : decode cX9_allWays 115 = .ok (.aload_n 0, 1) := by decide +kernel
theorem dX9_allWays_116 : decode cX9_allWays 116 = .ok (.invokevirtual 86, 3) := by decide +kernel
theorem dX9_allWays_119 : decode cX9_allWays 119 = .ok (.if_icmp .lt 9, 3) := by decide +kernel
theorem dX9_allWays_122 : decode cX9_allWays 122 = .ok (.iinc 4 (-1), 3) := by decide +kernel
theorem dX9_allWays_125 : decode cX9_allWays 125 = .ok (.goto (-70), 3) := by decide +kernel
theorem dX9_allWays_128 : decode cX9_allWays 128 = .ok (.aload_n 0, 1) := by decide +kernel
theorem dX9_allWays_129 : decode cX9_allWays 129 = .ok (.iload 5, 2) := by decide +kernel
theorem dX9_allWays_131 : decode cX9_allWays 131 = .ok (.iload 6, 2) := by decide +kernel
theorem dX9_allWays_133 : decode cX9_allWays 133 = .ok (.invokevirtual 361, 3) := by decide +kernel
theorem dX9_allWays_136 : decode cX9_allWays 136 = .ok (.istore 7, 2) := by decide +kernel
theorem dX9_allWays_138 : decode cX9_allWays 138 = .ok (.iload 7, 2) := by decide +kernel
theorem dX9_allWays_140 : decode cX9_allWays 140 = .ok (.iconst (-1), 1) := by decide +kernel
theorem dX9_allWays_141 : decode cX9_allWays 141 = .ok (.if_icmp .eq (-86), 3) := by decide +kernel
theorem dX9_allWays_144 : decode cX9_allWays 144 = .ok (.aload_n 0, 1) := by decide +kernel
theorem dX9_allWays_145 : decode cX9_allWays 145 = .ok (.getfield 329, 3) := by decide +kernel
theorem dX9_allWays_148 : decode cX9_allWays 148 = .ok (.iload 7, 2) := by decide +kernel
theorem dX9_allWays_150 : decode cX9_allWays 150 = .ok (.ishr, 1) := by decide +kernel
theorem dX9_allWays_151 : decode cX9_allWays 151 = .ok (.iconst 1, 1) := by decide +kernel
theorem dX9_allWays_152 : decode cX9_allWays 152 = .ok (.iand, 1) := by decide +kernel
theorem dX9_allWays_153 : decode cX9_allWays 153 = .ok (.ifCond .eq (-98), 3) := by decide +kernel
theorem dX9_allWays_156 : decode cX9_allWays 156 = .ok (.aload_n 0, 1) := by decide +kernel
theorem dX9_allWays_157 : decode cX9_allWays 157 = .ok (.iload 6, 2) := by decide +kernel
theorem dX9_allWays_159 : decode cX9_allWays 159 = .ok (.iload 4, 2) := by decide +kernel
theorem dX9_allWays_161 : decode cX9_allWays 161 = .ok (.invokevirtual 364, 3) := by decide +kernel
theorem dX9_allWays_164 : decode cX9_allWays 164 = .ok (.ifCond .ne 6, 3) := by decide +kernel
theorem dX9_allWays_167 : decode cX9_allWays 167 = .ok (.goto (-112), 3) := by decide +kernel
theorem dX9_allWays_170 : decode cX9_allWays 170 = .ok (.aload_n 0, 1) := by decide +kernel
theorem dX9_allWays_171 : decode cX9_allWays 171 = .ok (.getfield 37, 3) := by decide +kernel
theorem dX9_allWays_174 : decode cX9_allWays 174 = .ok (.iload 4, 2) := by decide +kernel
theorem dX9_allWays_176 : decode cX9_allWays 176 = .ok (.iload 6, 2) := by decide +kernel
theorem dX9_allWays_178 : decode cX9_allWays 178 = .ok (.iastore, 1) := by decide +kernel
theorem dX9_allWays_179 : decode cX9_allWays 179 = .ok (.aload_n 0, 1) := by decide +kernel
theorem dX9_allWays_180 : decode cX9_allWays 180 = .ok (.getfield 43, 3) := by decide +kernel
theorem dX9_allWays_183 : decode cX9_allWays 183 = .ok (.iload 4, 2) := by decide +kernel
theorem dX9_allWays_185 : decode cX9_allWays 185 = .ok (.aload_n 0, 1) := by decide +kernel
theorem dX9_allWays_186 : decode cX9_allWays 186 = .ok (.aload_n 0, 1) := by decide +kernel
theorem dX9_allWays_187 : decode cX9_allWays 187 = .ok (.getfield 43, 3) := by decide +kernel
theorem dX9_allWays_190 : decode cX9_allWays 190 = .ok (.iload 4, 2) := by decide +kernel
theorem dX9_allWays_192 : decode cX9_allWays 192 = .ok (.iconst 1, 1) := by decide +kernel
theorem dX9_allWays_193 : decode cX9_allWays 193 = .ok (.isub, 1) := by decide +kernel
theorem dX9_allWays_194 : decode cX9_allWays 194 = .ok (.laload, 1) := by decide +kernel
theorem dX9_allWays_195 : decode cX9_allWays 195 = .ok (.iload 7, 2) := by decide +kernel
theorem dX9_allWays_197 : decode cX9_allWays 197 = .ok (.iload_n 3, 1) := by decide +kernel
theorem dX9_allWays_198 : decode cX9_allWays 198 = .ok (.invokevirtual 319, 3) := by decide +kernel
theorem dX9_allWays_201 : decode cX9_allWays 201 = .ok (.lastore, 1) := by decide +kernel
theorem dX9_allWays_202 : decode cX9_allWays 202 = .ok (.aload_n 0, 1) := by decide +kernel
theorem dX9_allWays_203 : decode cX9_allWays 203 = .ok (.getfield 40, 3) := by decide +kernel
theorem dX9_allWays_206 : decode cX9_allWays 206 = .ok (.iload 4, 2) := by decide +kernel
theorem dX9_allWays_208 : decode cX9_allWays 208 = .ok (.iconst (-1), 1) := by decide +kernel
theorem dX9_allWays_209 : decode cX9_allWays 209 = .ok (.iastore, 1) := by decide +kernel
theorem dX9_allWays_210 : decode cX9_allWays 210 = .ok (.iinc 4 1, 3) := by decide +kernel
theorem dX9_allWays_213 : decode cX9_allWays 213 = .ok (.goto (-158), 3) := by decide +kernel
theorem dX9_allWays_216 : decode cX9_allWays 216 = .ok (.return_, 1) := by decide +kernel
theorem dX9_isAsked_0 : decode cX9_isAsked 0 = .ok (.aload_n 0, 1) := by decide +kernel
theorem dX9_isAsked_1 : decode cX9_isAsked 1 = .ok (.iload_n 1, 1) := by decide +kernel
theorem dX9_isAsked_2 : decode cX9_isAsked 2 = .ok (.invokevirtual 367, 3) := by decide +kernel
theorem dX9_isAsked_5 : decode cX9_isAsked 5 = .ok (.ifCond .eq 24, 3) := by decide +kernel
theorem dX9_isAsked_8 : decode cX9_isAsked 8 = .ok (.aload_n 0, 1) := by decide +kernel
theorem dX9_isAsked_9 : decode cX9_isAsked 9 = .ok (.iload_n 2, 1) := by decide +kernel
theorem dX9_isAsked_10 : decode cX9_isAsked 10 = .ok (.invokevirtual 370, 3) := by decide +kernel
theorem dX9_isAsked_13 : decode cX9_isAsked 13 = .ok (.ifCond .eq 16, 3) := by decide +kernel
theorem dX9_isAsked_16 : decode cX9_isAsked 16 = .ok (.aload_n 0, 1) := by decide +kernel
theorem dX9_isAsked_17 : decode cX9_isAsked 17 = .ok (.iload_n 3, 1) := by decide +kernel
theorem dX9_isAsked_18 : decode cX9_isAsked 18 = .ok (.i2l, 1) := by decide +kernel
theorem dX9_isAsked_19 : decode cX9_isAsked 19 = .ok (.invokevirtual 292, 3) := by decide +kernel
theorem dX9_isAsked_22 : decode cX9_isAsked 22 = .ok (.ifCond .eq 7, 3) := by decide +kernel
theorem dX9_isAsked_25 : decode cX9_isAsked 25 = .ok (.iconst 1, 1) := by decide +kernel
theorem dX9_isAsked_26 : decode cX9_isAsked 26 = .ok (.goto 4, 3) := by decide +kernel
theorem dX9_isAsked_29 : decode cX9_isAsked 29 = .ok (.iconst 0, 1) := by decide +kernel
theorem dX9_isAsked_30 : decode cX9_isAsked 30 = .ok (.ireturn, 1) := by decide +kernel
theorem dX9_reach_0 : decode cX9_reach 0 = .ok (.aload_n 0, 1) := by decide +kernel
theorem dX9_reach_1 : decode cX9_reach 1 = .ok (.iload_n 1, 1) := by decide +kernel
theorem dX9_reach_2 : decode cX9_reach 2 = .ok (.invokevirtual 367, 3) := by decide +kernel
theorem dX9_reach_5 : decode cX9_reach 5 = .ok (.ifCond .eq 12, 3) := by decide +kernel
theorem dX9_reach_8 : decode cX9_reach 8 = .ok (.aload_n 0, 1) := by decide +kernel
theorem dX9_reach_9 : decode cX9_reach 9 = .ok (.iload_n 2, 1) := by decide +kernel
theorem dX9_reach_10 : decode cX9_reach 10 = .ok (.i2l, 1) := by decide +kernel
theorem dX9_reach_11 : decode cX9_reach 11 = .ok (.invokevirtual 292, 3) := by decide +kernel
theorem dX9_reach_14 : decode cX9_reach 14 = .ok (.ifCond .ne 6, 3) := by decide +kernel
theorem dX9_reach_17 : decode cX9_reach 17 = .ok (.bipush (-2), 2) := by decide +kernel
theorem dX9_reach_19 : decode cX9_reach 19 = .ok (.ireturn, 1) := by decide +kernel
theorem dX9_reach_20 : decode cX9_reach 20 = .ok (.aload_n 0, 1) := by decide +kernel
theorem dX9_reach_21 : decode cX9_reach 21 = .ok (.aload_n 0, 1) := by decide +kernel
theorem dX9_reach_22 : decode cX9_reach 22 = .ok (.iload_n 1, 1) := by decide +kernel
theorem dX9_reach_23 : decode cX9_reach 23 = .ok (.invokevirtual 332, 3) := by decide +kernel
theorem dX9_reach_26 : decode cX9_reach 26 = .ok (.iload_n 2, 1) := by decide +kernel
theorem dX9_reach_27 : decode cX9_reach 27 = .ok (.invokevirtual 335, 3) := by decide +kernel
theorem dX9_reach_30 : decode cX9_reach 30 = .ok (.aload_n 0, 1) := by decide +kernel
theorem dX9_reach_31 : decode cX9_reach 31 = .ok (.aload_n 0, 1) := by decide +kernel
theorem dX9_reach_32 : decode cX9_reach 32 = .ok (.iload_n 1, 1) := by decide +kernel
theorem dX9_reach_33 : decode cX9_reach 33 = .ok (.invokevirtual 339, 3) := by decide +kernel
theorem dX9_reach_36 : decode cX9_reach 36 = .ok (.invokevirtual 342, 3) := by decide +kernel
theorem dX9_reach_39 : decode cX9_reach 39 = .ok (.ireturn, 1) := by decide +kernel
theorem dX9_shortest_0 : decode cX9_shortest 0 = .ok (.aload_n 0, 1) := by decide +kernel
theorem dX9_shortest_1 : decode cX9_shortest 1 = .ok (.iload_n 1, 1) := by decide +kernel
theorem dX9_shortest_2 : decode cX9_shortest 2 = .ok (.iload_n 2, 1) := by decide +kernel
theorem dX9_shortest_3 : decode cX9_shortest 3 = .ok (.iload_n 3, 1) := by decide +kernel
theorem dX9_shortest_4 : decode cX9_shortest 4 = .ok (.invokevirtual 373, 3) := by decide +kernel
theorem dX9_shortest_7 : decode cX9_shortest 7 = .ok (.ifCond .ne 6, 3) := by decide +kernel
theorem dX9_shortest_10 : decode cX9_shortest 10 = .ok (.bipush (-2), 2) := by decide +kernel
theorem dX9_shortest_12 : decode cX9_shortest 12 = .ok (.ireturn, 1) := by decide +kernel
theorem dX9_shortest_13 : decode cX9_shortest 13 = .ok (.aload_n 0, 1) := by decide +kernel
theorem dX9_shortest_14 : decode cX9_shortest 14 = .ok (.iload_n 1, 1) := by decide +kernel
theorem dX9_shortest_15 : decode cX9_shortest 15 = .ok (.iload_n 2, 1) := by decide +kernel
theorem dX9_shortest_16 : decode cX9_shortest 16 = .ok (.iload_n 3, 1) := by decide +kernel
theorem dX9_shortest_17 : decode cX9_shortest 17 = .ok (.invokevirtual 376, 3) := by decide +kernel
theorem dX9_shortest_20 : decode cX9_shortest 20 = .ok (.aload_n 0, 1) := by decide +kernel
theorem dX9_shortest_21 : decode cX9_shortest 21 = .ok (.getfield 348, 3) := by decide +kernel
theorem dX9_shortest_24 : decode cX9_shortest 24 = .ok (.ifCond .ne 7, 3) := by decide +kernel
theorem dX9_shortest_27 : decode cX9_shortest 27 = .ok (.iconst (-1), 1) := by decide +kernel
theorem dX9_shortest_28 : decode cX9_shortest 28 = .ok (.goto 7, 3) := by decide +kernel
theorem dX9_shortest_31 : decode cX9_shortest 31 = .ok (.aload_n 0, 1) := by decide +kernel
theorem dX9_shortest_32 : decode cX9_shortest 32 = .ok (.getfield 348, 3) := by decide +kernel
theorem dX9_shortest_35 : decode cX9_shortest 35 = .ok (.ireturn, 1) := by decide +kernel
theorem dX9_goes_0 : decode cX9_goes 0 = .ok (.aload_n 0, 1) := by decide +kernel
theorem dX9_goes_1 : decode cX9_goes 1 = .ok (.iload_n 1, 1) := by decide +kernel
theorem dX9_goes_2 : decode cX9_goes 2 = .ok (.iload_n 2, 1) := by decide +kernel
theorem dX9_goes_3 : decode cX9_goes 3 = .ok (.iload_n 3, 1) := by decide +kernel
theorem dX9_goes_4 : decode cX9_goes 4 = .ok (.invokevirtual 373, 3) := by decide +kernel
theorem dX9_goes_7 : decode cX9_goes 7 = .ok (.ifCond .ne 6, 3) := by decide +kernel
theorem dX9_goes_10 : decode cX9_goes 10 = .ok (.bipush (-2), 2) := by decide +kernel
theorem dX9_goes_12 : decode cX9_goes 12 = .ok (.ireturn, 1) := by decide +kernel
theorem dX9_goes_13 : decode cX9_goes 13 = .ok (.aload_n 0, 1) := by decide +kernel
theorem dX9_goes_14 : decode cX9_goes 14 = .ok (.iload_n 1, 1) := by decide +kernel
theorem dX9_goes_15 : decode cX9_goes 15 = .ok (.iload_n 2, 1) := by decide +kernel
theorem dX9_goes_16 : decode cX9_goes 16 = .ok (.iload_n 3, 1) := by decide +kernel
theorem dX9_goes_17 : decode cX9_goes 17 = .ok (.invokevirtual 376, 3) := by decide +kernel
theorem dX9_goes_20 : decode cX9_goes 20 = .ok (.iload 4, 2) := by decide +kernel
theorem dX9_goes_22 : decode cX9_goes 22 = .ok (.i2l, 1) := by decide +kernel
theorem dX9_goes_23 : decode cX9_goes 23 = .ok (.lconst 0, 1) := by decide +kernel
theorem dX9_goes_24 : decode cX9_goes 24 = .ok (.aload_n 0, 1) := by decide +kernel
theorem dX9_goes_25 : decode cX9_goes 25 = .ok (.getfield 348, 3) := by decide +kernel
theorem dX9_goes_28 : decode cX9_goes 28 = .ok (.iconst 1, 1) := by decide +kernel
theorem dX9_goes_29 : decode cX9_goes 29 = .ok (.isub, 1) := by decide +kernel
theorem dX9_goes_30 : decode cX9_goes 30 = .ok (.i2l, 1) := by decide +kernel
theorem dX9_goes_31 : decode cX9_goes 31 = .ok (.invokestatic 82, 3) := by decide +kernel
theorem dX9_goes_34 : decode cX9_goes 34 = .ok (.ifCond .eq 13, 3) := by decide +kernel
theorem dX9_goes_37 : decode cX9_goes 37 = .ok (.aload_n 0, 1) := by decide +kernel
theorem dX9_goes_38 : decode cX9_goes 38 = .ok (.getfield 47, 3) := by decide +kernel
theorem dX9_goes_41 : decode cX9_goes 41 = .ok (.iload 4, 2) := by decide +kernel
theorem dX9_goes_43 : decode cX9_goes 43 = .ok (.iaload, 1) := by decide +kernel
theorem dX9_goes_44 : decode cX9_goes 44 = .ok (.goto 4, 3) := by decide +kernel
theorem dX9_goes_47 : decode cX9_goes 47 = .ok (.iconst (-1), 1) := by decide +kernel
theorem dX9_goes_48 : decode cX9_goes 48 = .ok (.ireturn, 1) := by decide +kernel
theorem dX9_safest_0 : decode cX9_safest 0 = .ok (.aload_n 0, 1) := by decide +kernel
theorem dX9_safest_1 : decode cX9_safest 1 = .ok (.iload_n 1, 1) := by decide +kernel
theorem dX9_safest_2 : decode cX9_safest 2 = .ok (.iload_n 2, 1) := by decide +kernel
theorem dX9_safest_3 : decode cX9_safest 3 = .ok (.iload_n 3, 1) := by decide +kernel
theorem dX9_safest_4 : decode cX9_safest 4 = .ok (.invokevirtual 373, 3) := by decide +kernel
theorem dX9_safest_7 : decode cX9_safest 7 = .ok (.ifCond .eq 16, 3) := by decide +kernel
theorem dX9_safest_10 : decode cX9_safest 10 = .ok (.iload 4, 2) := by decide +kernel
theorem dX9_safest_12 : decode cX9_safest 12 = .ok (.i2l, 1) := by decide +kernel
theorem dX9_safest_13 : decode cX9_safest 13 = .ok (.lconst 0, 1) := by decide +kernel
theorem dX9_safest_14 : decode cX9_safest 14 = .ok (.ldc2_w 80, 3) := by decide +kernel
theorem dX9_safest_17 : decode cX9_safest 17 = .ok (.invokestatic 82, 3) := by decide +kernel
theorem dX9_safest_20 : decode cX9_safest 20 = .ok (.ifCond .ne 7, 3) := by decide +kernel
theorem dX9_safest_23 : decode cX9_safest 23 = .ok (.ldc2_w 327, 3) := by decide +kernel
theorem dX9_safest_26 : decode cX9_safest 26 = .ok (.lreturn, 1) := by decide +kernel
theorem dX9_safest_27 : decode cX9_safest 27 = .ok (.aload_n 0, 1) := by decide +kernel
theorem dX9_safest_28 : decode cX9_safest 28 = .ok (.iload_n 1, 1) := by decide +kernel
theorem dX9_safest_29 : decode cX9_safest 29 = .ok (.iload_n 2, 1) := by decide +kernel
theorem dX9_safest_30 : decode cX9_safest 30 = .ok (.iload_n 3, 1) := by decide +kernel
theorem dX9_safest_31 : decode cX9_safest 31 = .ok (.invokevirtual 376, 3) := by decide +kernel
theorem dX9_safest_34 : decode cX9_safest 34 = .ok (.aload_n 0, 1) := by decide +kernel
theorem dX9_safest_35 : decode cX9_safest 35 = .ok (.getfield 351, 3) := by decide +kernel
theorem dX9_safest_38 : decode cX9_safest 38 = .ok (.ifCond .ne 9, 3) := by decide +kernel
theorem dX9_safest_41 : decode cX9_safest 41 = .ok (.ldc2_w 380, 3) := by decide +kernel
theorem dX9_safest_44 : decode cX9_safest 44 = .ok (.goto 26, 3) := by decide +kernel
theorem dX9_safest_47 : decode cX9_safest 47 = .ok (.iload 4, 2) := by decide +kernel
theorem dX9_safest_49 : decode cX9_safest 49 = .ok (.iconst 2, 1) := by decide +kernel
theorem dX9_safest_50 : decode cX9_safest 50 = .ok (.if_icmp .ne 11, 3) := by decide +kernel
theorem dX9_safest_53 : decode cX9_safest 53 = .ok (.aload_n 0, 1) := by decide +kernel
theorem dX9_safest_54 : decode cX9_safest 54 = .ok (.getfield 351, 3) := by decide +kernel
theorem dX9_safest_57 : decode cX9_safest 57 = .ok (.i2l, 1) := by decide +kernel
theorem dX9_safest_58 : decode cX9_safest 58 = .ok (.goto 12, 3) := by decide +kernel
theorem dX9_safest_61 : decode cX9_safest 61 = .ok (.aload_n 0, 1) := by decide +kernel
theorem dX9_safest_62 : decode cX9_safest 62 = .ok (.getfield 354, 3) := by decide +kernel
theorem dX9_safest_65 : decode cX9_safest 65 = .ok (.iload 4, 2) := by decide +kernel
theorem dX9_safest_67 : decode cX9_safest 67 = .ok (.invokestatic 323, 3) := by decide +kernel
theorem dX9_safest_70 : decode cX9_safest 70 = .ok (.lreturn, 1) := by decide +kernel
theorem dX9_place_0 : decode cX9_place 0 = .ok (.aload_n 0, 1) := by decide +kernel
theorem dX9_place_1 : decode cX9_place 1 = .ok (.iload_n 1, 1) := by decide +kernel
theorem dX9_place_2 : decode cX9_place 2 = .ok (.iload_n 2, 1) := by decide +kernel
theorem dX9_place_3 : decode cX9_place 3 = .ok (.iload_n 3, 1) := by decide +kernel
theorem dX9_place_4 : decode cX9_place 4 = .ok (.invokevirtual 373, 3) := by decide +kernel
theorem dX9_place_7 : decode cX9_place 7 = .ok (.ifCond .ne 6, 3) := by decide +kernel
theorem dX9_place_10 : decode cX9_place 10 = .ok (.bipush (-2), 2) := by decide +kernel
theorem dX9_place_12 : decode cX9_place 12 = .ok (.ireturn, 1) := by decide +kernel
theorem dX9_place_13 : decode cX9_place 13 = .ok (.aload_n 0, 1) := by decide +kernel
theorem dX9_place_14 : decode cX9_place 14 = .ok (.iload_n 1, 1) := by decide +kernel
theorem dX9_place_15 : decode cX9_place 15 = .ok (.iload_n 2, 1) := by decide +kernel
theorem dX9_place_16 : decode cX9_place 16 = .ok (.iload_n 3, 1) := by decide +kernel
theorem dX9_place_17 : decode cX9_place 17 = .ok (.invokevirtual 376, 3) := by decide +kernel
theorem dX9_place_20 : decode cX9_place 20 = .ok (.iload 4, 2) := by decide +kernel
theorem dX9_place_22 : decode cX9_place 22 = .ok (.i2l, 1) := by decide +kernel
theorem dX9_place_23 : decode cX9_place 23 = .ok (.lconst 0, 1) := by decide +kernel
theorem dX9_place_24 : decode cX9_place 24 = .ok (.aload_n 0, 1) := by decide +kernel
theorem dX9_place_25 : decode cX9_place 25 = .ok (.getfield 351, 3) := by decide +kernel
theorem dX9_place_28 : decode cX9_place 28 = .ok (.iconst 1, 1) := by decide +kernel
theorem dX9_place_29 : decode cX9_place 29 = .ok (.isub, 1) := by decide +kernel
theorem dX9_place_30 : decode cX9_place 30 = .ok (.i2l, 1) := by decide +kernel
theorem dX9_place_31 : decode cX9_place 31 = .ok (.invokestatic 82, 3) := by decide +kernel
theorem dX9_place_34 : decode cX9_place 34 = .ok (.ifCond .eq 13, 3) := by decide +kernel
theorem dX9_place_37 : decode cX9_place 37 = .ok (.aload_n 0, 1) := by decide +kernel
theorem dX9_place_38 : decode cX9_place 38 = .ok (.getfield 50, 3) := by decide +kernel
theorem dX9_place_41 : decode cX9_place 41 = .ok (.iload 4, 2) := by decide +kernel
theorem dX9_place_43 : decode cX9_place 43 = .ok (.iaload, 1) := by decide +kernel
theorem dX9_place_44 : decode cX9_place 44 = .ok (.goto 4, 3) := by decide +kernel
theorem dX9_place_47 : decode cX9_place 47 = .ok (.iconst (-1), 1) := by decide +kernel
theorem dX9_place_48 : decode cX9_place 48 = .ok (.ireturn, 1) := by decide +kernel
theorem dX9_ways_0 : decode cX9_ways 0 = .ok (.aload_n 0, 1) := by decide +kernel
theorem dX9_ways_1 : decode cX9_ways 1 = .ok (.iload_n 1, 1) := by decide +kernel
theorem dX9_ways_2 : decode cX9_ways 2 = .ok (.iload_n 2, 1) := by decide +kernel
theorem dX9_ways_3 : decode cX9_ways 3 = .ok (.iload_n 3, 1) := by decide +kernel
theorem dX9_ways_4 : decode cX9_ways 4 = .ok (.invokevirtual 373, 3) := by decide +kernel
theorem dX9_ways_7 : decode cX9_ways 7 = .ok (.ifCond .ne 6, 3) := by decide +kernel
theorem dX9_ways_10 : decode cX9_ways 10 = .ok (.bipush (-2), 2) := by decide +kernel
theorem dX9_ways_12 : decode cX9_ways 12 = .ok (.ireturn, 1) := by decide +kernel
theorem dX9_ways_13 : decode cX9_ways 13 = .ok (.aload_n 0, 1) := by decide +kernel
theorem dX9_ways_14 : decode cX9_ways 14 = .ok (.iload_n 1, 1) := by decide +kernel
theorem dX9_ways_15 : decode cX9_ways 15 = .ok (.iload_n 2, 1) := by decide +kernel
theorem dX9_ways_16 : decode cX9_ways 16 = .ok (.iload_n 3, 1) := by decide +kernel
theorem dX9_ways_17 : decode cX9_ways 17 = .ok (.invokevirtual 376, 3) := by decide +kernel
theorem dX9_ways_20 : decode cX9_ways 20 = .ok (.aload_n 0, 1) := by decide +kernel
theorem dX9_ways_21 : decode cX9_ways 21 = .ok (.getfield 345, 3) := by decide +kernel
theorem dX9_ways_24 : decode cX9_ways 24 = .ok (.ireturn, 1) := by decide +kernel
theorem dX9_when_0 : decode cX9_when 0 = .ok (.aload_n 0, 1) := by decide +kernel
theorem dX9_when_1 : decode cX9_when 1 = .ok (.iload_n 1, 1) := by decide +kernel
theorem dX9_when_2 : decode cX9_when 2 = .ok (.invokevirtual 367, 3) := by decide +kernel
theorem dX9_when_5 : decode cX9_when 5 = .ok (.ifCond .eq 23, 3) := by decide +kernel
theorem dX9_when_8 : decode cX9_when 8 = .ok (.aload_n 0, 1) := by decide +kernel
theorem dX9_when_9 : decode cX9_when 9 = .ok (.iload_n 2, 1) := by decide +kernel
theorem dX9_when_10 : decode cX9_when 10 = .ok (.invokevirtual 370, 3) := by decide +kernel
theorem dX9_when_13 : decode cX9_when 13 = .ok (.ifCond .eq 15, 3) := by decide +kernel
theorem dX9_when_16 : decode cX9_when 16 = .ok (.iload_n 3, 1) := by decide +kernel
theorem dX9_when_17 : decode cX9_when 17 = .ok (.i2l, 1) := by decide +kernel
theorem dX9_when_18 : decode cX9_when 18 = .ok (.lconst 0, 1) := by decide +kernel
theorem dX9_when_19 : decode cX9_when 19 = .ok (.ldc2_w 80, 3) := by decide +kernel
theorem dX9_when_22 : decode cX9_when 22 = .ok (.invokestatic 82, 3) := by decide +kernel
theorem dX9_when_25 : decode cX9_when 25 = .ok (.ifCond .ne 6, 3) := by decide +kernel
theorem dX9_when_28 : decode cX9_when 28 = .ok (.bipush (-2), 2) := by decide +kernel
theorem dX9_when_30 : decode cX9_when 30 = .ok (.ireturn, 1) := by decide +kernel
theorem dX9_when_31 : decode cX9_when 31 = .ok (.iconst (-1), 1) := by decide +kernel
theorem dX9_when_32 : decode cX9_when 32 = .ok (.istore 4, 2) := by decide +kernel
theorem dX9_when_34 : decode cX9_when 34 = .ok (.iconst (-1), 1) := by decide +kernel
theorem dX9_when_35 : decode cX9_when 35 = .ok (.istore 5, 2) := by decide +kernel
theorem dX9_when_37 : decode cX9_when 37 = .ok (.iconst 0, 1) := by decide +kernel
theorem dX9_when_38 : decode cX9_when 38 = .ok (.istore 6, 2) := by decide +kernel
theorem dX9_when_40 : decode cX9_when 40 = .ok (.iconst 0, 1) := by decide +kernel
theorem dX9_when_41 : decode cX9_when 41 = .ok (.istore 7, 2) := by decide +kernel
theorem dX9_when_43 : decode cX9_when 43 = .ok (.iload 7, 2) := by decide +kernel
theorem dX9_when_45 : decode cX9_when 45 = .ok (.aload_n 0, 1) := by decide +kernel
theorem dX9_when_46 : decode cX9_when 46 = .ok (.getfield 9, 3) := by decide +kernel
theorem dX9_when_49 : decode cX9_when 49 = .ok (.iconst 1, 1) := by decide +kernel
theorem dX9_when_50 : decode cX9_when 50 = .ok (.iaload, 1) := by decide +kernel
theorem dX9_when_51 : decode cX9_when 51 = .ok (.if_icmp .ge 45, 3) := by decide +kernel
theorem dX9_when_54 : decode cX9_when 54 = .ok (.aload_n 0, 1) := by decide +kernel
theorem dX9_when_55 : decode cX9_when 55 = .ok (.iload_n 1, 1) := by decide +kernel
theorem dX9_when_56 : decode cX9_when 56 = .ok (.iload_n 2, 1) := by decide +kernel
theorem dX9_when_57 : decode cX9_when 57 = .ok (.iload 7, 2) := by decide +kernel
theorem dX9_when_59 : decode cX9_when 59 = .ok (.invokevirtual 382, 3) := by decide +kernel
theorem dX9_when_62 : decode cX9_when 62 = .ok (.ifCond .ne 6, 3) := by decide +kernel
theorem dX9_when_65 : decode cX9_when 65 = .ok (.goto 25, 3) := by decide +kernel
theorem dX9_when_68 : decode cX9_when 68 = .ok (.iload 4, 2) := by decide +kernel
theorem dX9_when_70 : decode cX9_when 70 = .ok (.iconst (-1), 1) := by decide +kernel
theorem dX9_when_71 : decode cX9_when 71 = .ok (.if_icmp .ne 8, 3) := by decide +kernel
theorem dX9_when_74 : decode cX9_when 74 = .ok (.iload 7, 2) := by decide +kernel
theorem dX9_when_76 : decode cX9_when 76 = .ok (.goto 5, 3) := by decide +kernel
theorem dX9_when_79 : decode cX9_when 79 = .ok (.iload 4, 2) := by decide +kernel
theorem dX9_when_81 : decode cX9_when 81 = .ok (.istore 4, 2) := by decide +kernel
theorem dX9_when_83 : decode cX9_when 83 = .ok (.iload 7, 2) := by decide +kernel
theorem dX9_when_85 : decode cX9_when 85 = .ok (.istore 5, 2) := by decide +kernel
theorem dX9_when_87 : decode cX9_when 87 = .ok (.iinc 6 1, 3) := by decide +kernel
theorem dX9_when_90 : decode cX9_when 90 = .ok (.iinc 7 1, 3) := by decide +kernel
theorem dX9_when_93 : decode cX9_when 93 = .ok (.goto (-50), 3) := by decide +kernel
theorem dX9_when_96 : decode cX9_when 96 = .ok (.iload_n 3, 1) := by decide +kernel
theorem dX9_when_97 : decode cX9_when 97 = .ok (.ifCond .ne 8, 3) := by decide +kernel
theorem dX9_when_100 : decode cX9_when 100 = .ok (.iload 4, 2) := by decide +kernel
theorem dX9_when_102 : decode cX9_when 102 = .ok (.goto 15, 3) := by decide +kernel
theorem dX9_when_105 : decode cX9_when 105 = .ok (.iload_n 3, 1) := by decide +kernel
theorem dX9_when_106 : decode cX9_when 106 = .ok (.iconst 1, 1) := by decide +kernel
theorem dX9_when_107 : decode cX9_when 107 = .ok (.if_icmp .ne 8, 3) := by decide +kernel
theorem dX9_when_110 : decode cX9_when 110 = .ok (.iload 5, 2) := by decide +kernel
theorem dX9_when_112 : decode cX9_when 112 = .ok (.goto 5, 3) := by decide +kernel
theorem dX9_when_115 : decode cX9_when 115 = .ok (.iload 6, 2) := by decide +kernel
theorem dX9_when_117 : decode cX9_when 117 = .ok (.ireturn, 1) := by decide +kernel
theorem dX9_need_0 : decode cX9_need 0 = .ok (.aload_n 0, 1) := by decide +kernel
theorem dX9_need_1 : decode cX9_need 1 = .ok (.iload_n 1, 1) := by decide +kernel
theorem dX9_need_2 : decode cX9_need 2 = .ok (.invokevirtual 370, 3) := by decide +kernel
theorem dX9_need_5 : decode cX9_need 5 = .ok (.ifCond .eq 20, 3) := by decide +kernel
theorem dX9_need_8 : decode cX9_need 8 = .ok (.aload_n 0, 1) := by decide +kernel
theorem dX9_need_9 : decode cX9_need 9 = .ok (.iload_n 2, 1) := by decide +kernel
theorem dX9_need_10 : decode cX9_need 10 = .ok (.invokevirtual 370, 3) := by decide +kernel
theorem dX9_need_13 : decode cX9_need 13 = .ok (.ifCond .eq 12, 3) := by decide +kernel
theorem dX9_need_16 : decode cX9_need 16 = .ok (.aload_n 0, 1) := by decide +kernel
theorem dX9_need_17 : decode cX9_need 17 = .ok (.iload_n 3, 1) := by decide +kernel
theorem dX9_need_18 : decode cX9_need 18 = .ok (.i2l, 1) := by decide +kernel
theorem dX9_need_19 : decode cX9_need 19 = .ok (.invokevirtual 292, 3) := by decide +kernel
theorem dX9_need_22 : decode cX9_need 22 = .ok (.ifCond .ne 6, 3) := by decide +kernel
theorem dX9_need_25 : decode cX9_need 25 = .ok (.bipush (-2), 2) := by decide +kernel
theorem dX9_need_27 : decode cX9_need 27 = .ok (.ireturn, 1) := by decide +kernel
theorem dX9_need_28 : decode cX9_need 28 = .ok (.iconst 0, 1) := by decide +kernel
theorem dX9_need_29 : decode cX9_need 29 = .ok (.istore 4, 2) := by decide +kernel
theorem dX9_need_31 : decode cX9_need 31 = .ok (.iload 4, 2) := by decide +kernel
theorem dX9_need_33 : decode cX9_need 33 = .ok (.bipush 100, 2) := by decide +kernel
theorem dX9_need_35 : decode cX9_need 35 = .ok (.if_icmp .ge 32, 3) := by decide +kernel
theorem dX9_need_38 : decode cX9_need 38 = .ok (.aload_n 0, 1) := by decide +kernel
theorem dX9_need_39 : decode cX9_need 39 = .ok (.iload 4, 2) := by decide +kernel
theorem dX9_need_41 : decode cX9_need 41 = .ok (.iload_n 3, 1) := by decide +kernel
theorem dX9_need_42 : decode cX9_need 42 = .ok (.invokevirtual 335, 3) := by decide +kernel
theorem dX9_need_45 : decode cX9_need 45 = .ok (.aload_n 0, 1) := by decide +kernel
theorem dX9_need_46 : decode cX9_need 46 = .ok (.iload_n 1, 1) := by decide +kernel
theorem dX9_need_47 : decode cX9_need 47 = .ok (.invokevirtual 342, 3) := by decide +kernel
theorem dX9_need_50 : decode cX9_need 50 = .ok (.iload_n 2, 1) := by decide +kernel
theorem dX9_need_51 : decode cX9_need 51 = .ok (.ishr, 1) := by decide +kernel
theorem dX9_need_52 : decode cX9_need 52 = .ok (.iconst 1, 1) := by decide +kernel
theorem dX9_need_53 : decode cX9_need 53 = .ok (.iand, 1) := by decide +kernel
theorem dX9_need_54 : decode cX9_need 54 = .ok (.iconst 1, 1) := by decide +kernel
theorem dX9_need_55 : decode cX9_need 55 = .ok (.if_icmp .ne 6, 3) := by decide +kernel
theorem dX9_need_58 : decode cX9_need 58 = .ok (.iload 4, 2) := by decide +kernel
theorem dX9_need_60 : decode cX9_need 60 = .ok (.ireturn, 1) := by decide +kernel
theorem dX9_need_61 : decode cX9_need 61 = .ok (.iinc 4 1, 3) := by decide +kernel
theorem dX9_need_64 : decode cX9_need 64 = .ok (.goto (-33), 3) := by decide +kernel
theorem dX9_need_67 : decode cX9_need 67 = .ok (.iconst (-1), 1) := by decide +kernel
theorem dX9_need_68 : decode cX9_need 68 = .ok (.ireturn, 1) := by decide +kernel
theorem dX9_beginsCourtings_0 : decode cX9_beginsCourtings 0 = .ok (.iconst 0, 1) := by decide +kernel
theorem dX9_beginsCourtings_1 : decode cX9_beginsCourtings 1 = .ok (.istore_n 1, 1) := by decide +kernel
theorem dX9_beginsCourtings_2 : decode cX9_beginsCourtings 2 = .ok (.iload_n 1, 1) := by decide +kernel
theorem dX9_beginsCourtings_3 : decode cX9_beginsCourtings 3 = .ok (.aload_n 0, 1) := by decide +kernel
theorem dX9_beginsCourtings_4 : decode cX9_beginsCourtings 4 = .ok (.getfield 9, 3) := by decide +kernel
theorem dX9_beginsCourtings_7 : decode cX9_beginsCourtings 7 = .ok (.iconst 4, 1) := by decide +kernel
theorem dX9_beginsCourtings_8 : decode cX9_beginsCourtings 8 = .ok (.iaload, 1) := by decide +kernel
theorem dX9_beginsCourtings_9 : decode cX9_beginsCourtings 9 = .ok (.if_icmp .ge 30, 3) := by decide +kernel
theorem dX9_beginsCourtings_12 : decode cX9_beginsCourtings 12 = .ok (.aload_n 0, 1) := by decide +kernel
theorem dX9_beginsCourtings_13 : decode cX9_beginsCourtings 13 = .ok (.getfield 53, 3) := by decide +kernel
theorem dX9_beginsCourtings_16 : decode cX9_beginsCourtings 16 = .ok (.iload_n 1, 1) := by decide +kernel
theorem dX9_beginsCourtings_17 : decode cX9_beginsCourtings 17 = .ok (.aload_n 0, 1) := by decide +kernel
theorem dX9_beginsCourtings_18 : decode cX9_beginsCourtings 18 = .ok (.iload_n 1, 1) := by decide +kernel
theorem dX9_beginsCourtings_19 : decode cX9_beginsCourtings 19 = .ok (.invokevirtual 234, 3) := by decide +kernel
theorem dX9_beginsCourtings_22 : decode cX9_beginsCourtings 22 = .ok (.iastore, 1) := by decide +kernel
theorem dX9_beginsCourtings_23 : decode cX9_beginsCourtings 23 = .ok (.aload_n 0, 1) := by decide +kernel
theorem dX9_beginsCourtings_24 : decode cX9_beginsCourtings 24 = .ok (.getfield 9, 3) := by decide +kernel
theorem dX9_beginsCourtings_27 : decode cX9_beginsCourtings 27 = .ok (.bipush 102, 2) := by decide +kernel
theorem dX9_beginsCourtings_29 : decode cX9_beginsCourtings 29 = .ok (.iload_n 1, 1) := by decide +kernel
theorem dX9_beginsCourtings_30 : decode cX9_beginsCourtings 30 = .ok (.iadd, 1) := by decide +kernel
theorem dX9_beginsCourtings_31 : decode cX9_beginsCourtings 31 = .ok (.iconst (-1), 1) := by decide +kernel
theorem dX9_beginsCourtings_32 : decode cX9_beginsCourtings 32 = .ok (.iastore, 1) := by decide +kernel
theorem dX9_beginsCourtings_33 : decode cX9_beginsCourtings 33 = .ok (.iinc 1 1, 3) := by decide +kernel
theorem dX9_beginsCourtings_36 : decode cX9_beginsCourtings 36 = .ok (.goto (-34), 3) := by decide +kernel
theorem dX9_beginsCourtings_39 : decode cX9_beginsCourtings 39 = .ok (.return_, 1) := by decide +kernel
theorem dX9_endsCourtings_0 : decode cX9_endsCourtings 0 = .ok (.iconst 0, 1) := by decide +kernel
theorem dX9_endsCourtings_1 : decode cX9_endsCourtings 1 = .ok (.istore_n 1, 1) := by decide +kernel
theorem dX9_endsCourtings_2 : decode cX9_endsCourtings 2 = .ok (.iload_n 1, 1) := by decide +kernel
theorem dX9_endsCourtings_3 : decode cX9_endsCourtings 3 = .ok (.aload_n 0, 1) := by decide +kernel
theorem dX9_endsCourtings_4 : decode cX9_endsCourtings 4 = .ok (.getfield 9, 3) := by decide +kernel
theorem dX9_endsCourtings_7 : decode cX9_endsCourtings 7 = .ok (.iconst 4, 1) := by decide +kernel
theorem dX9_endsCourtings_8 : decode cX9_endsCourtings 8 = .ok (.iaload, 1) := by decide +kernel
theorem dX9_endsCourtings_9 : decode cX9_endsCourtings 9 = .ok (.if_icmp .ge 24, 3) := by decide +kernel
theorem dX9_endsCourtings_12 : decode cX9_endsCourtings 12 = .ok (.aload_n 0, 1) := by decide +kernel
theorem dX9_endsCourtings_13 : decode cX9_endsCourtings 13 = .ok (.getfield 9, 3) := by decide +kernel
theorem dX9_endsCourtings_16 : decode cX9_endsCourtings 16 = .ok (.bipush 102, 2) := by decide +kernel
theorem dX9_endsCourtings_18 : decode cX9_endsCourtings 18 = .ok (.iload_n 1, 1) := by decide +kernel
theorem dX9_endsCourtings_19 : decode cX9_endsCourtings 19 = .ok (.iadd, 1) := by decide +kernel
theorem dX9_endsCourtings_20 : decode cX9_endsCourtings 20 = .ok (.aload_n 0, 1) := by decide +kernel
theorem dX9_endsCourtings_21 : decode cX9_endsCourtings 21 = .ok (.getfield 53, 3) := by decide +kernel
theorem dX9_endsCourtings_24 : decode cX9_endsCourtings 24 = .ok (.iload_n 1, 1) := by decide +kernel
theorem dX9_endsCourtings_25 : decode cX9_endsCourtings 25 = .ok (.iaload, 1) := by decide +kernel
theorem dX9_endsCourtings_26 : decode cX9_endsCourtings 26 = .ok (.iastore, 1) := by decide +kernel
theorem dX9_endsCourtings_27 : decode cX9_endsCourtings 27 = .ok (.iinc 1 1, 3) := by decide +kernel
theorem dX9_endsCourtings_30 : decode cX9_endsCourtings 30 = .ok (.goto (-28), 3) := by decide +kernel
theorem dX9_endsCourtings_33 : decode cX9_endsCourtings 33 = .ok (.return_, 1) := by decide +kernel
theorem dX9_nextCourting_0 : decode cX9_nextCourting 0 = .ok (.aload_n 0, 1) := by decide +kernel
theorem dX9_nextCourting_1 : decode cX9_nextCourting 1 = .ok (.getfield 9, 3) := by decide +kernel
theorem dX9_nextCourting_4 : decode cX9_nextCourting 4 = .ok (.iconst 4, 1) := by decide +kernel
theorem dX9_nextCourting_5 : decode cX9_nextCourting 5 = .ok (.iaload, 1) := by decide +kernel
theorem dX9_nextCourting_6 : decode cX9_nextCourting 6 = .ok (.iconst 1, 1) := by decide +kernel
theorem dX9_nextCourting_7 : decode cX9_nextCourting 7 = .ok (.isub, 1) := by decide +kernel
theorem dX9_nextCourting_8 : decode cX9_nextCourting 8 = .ok (.istore_n 1, 1) := by decide +kernel
theorem dX9_nextCourting_9 : decode cX9_nextCourting 9 = .ok (.iload_n 1, 1) := by decide +kernel
theorem dX9_nextCourting_10 : decode cX9_nextCourting 10 = .ok (.ifCond .lt 74, 3) := by decide +kernel
theorem dX9_nextCourting_13 : decode cX9_nextCourting 13 = .ok (.aload_n 0, 1) := by decide +kernel
theorem dX9_nextCourting_14 : decode cX9_nextCourting 14 = .ok (.iload_n 1, 1) := by decide +kernel
theorem dX9_nextCourting_15 : decode cX9_nextCourting 15 = .ok (.invokevirtual 234, 3) := by decide +kernel
theorem dX9_nextCourting_18 : decode cX9_nextCourting 18 = .ok (.iconst 1, 1) := by decide +kernel
theorem dX9_nextCourting_19 : decode cX9_nextCourting 19 = .ok (.iadd, 1) := by decide +kernel
theorem dX9_nextCourting_20 : decode cX9_nextCourting 20 = .ok (.istore_n 2, 1) := by decide +kernel
theorem dX9_nextCourting_21 : decode cX9_nextCourting 21 = .ok (.iload_n 2, 1) := by decide +kernel
theorem dX9_nextCourting_22 : decode cX9_nextCourting 22 = .ok (.aload_n 0, 1) := by decide +kernel
theorem dX9_nextCourting_23 : decode cX9_nextCourting 23 = .ok (.getfield 9, 3) := by decide +kernel
theorem dX9_nextCourting_26 : decode cX9_nextCourting 26 = .ok (.iconst 3, 1) := by decide +kernel
theorem dX9_nextCourting_27 : decode cX9_nextCourting 27 = .ok (.iaload, 1) := by decide +kernel
theorem dX9_nextCourting_28 : decode cX9_nextCourting 28 = .ok (.if_icmp .ge 18, 3) := by decide +kernel
theorem dX9_nextCourting_31 : decode cX9_nextCourting 31 = .ok (.aload_n 0, 1) := by decide +kernel
theorem dX9_nextCourting_32 : decode cX9_nextCourting 32 = .ok (.iload_n 1, 1) := by decide +kernel
theorem dX9_nextCourting_33 : decode cX9_nextCourting 33 = .ok (.iload_n 2, 1) := by decide +kernel
theorem dX9_nextCourting_34 : decode cX9_nextCourting 34 = .ok (.invokevirtual 276, 3) := by decide +kernel
theorem dX9_nextCourting_37 : decode cX9_nextCourting 37 = .ok (.ifCond .ne 9, 3) := by decide +kernel
theorem dX9_nextCourting_40 : decode cX9_nextCourting 40 = .ok (.iinc 2 1, 3) := by decide +kernel
theorem dX9_nextCourting_43 : decode cX9_nextCourting 43 = .ok (.goto (-22), 3) := by decide +kernel
theorem dX9_nextCourting_46 : decode cX9_nextCourting 46 = .ok (.iload_n 2, 1) := by decide +kernel
theorem dX9_nextCourting_47 : decode cX9_nextCourting 47 = .ok (.aload_n 0, 1) := by decide +kernel
theorem dX9_nextCourting_48 : decode cX9_nextCourting 48 = .ok (.getfield 9, 3) := by decide +kernel
theorem dX9_nextCourting_51 : decode cX9_nextCourting 51 = .ok (.iconst 3, 1) := by decide +kernel
theorem dX9_nextCourting_52 : decode cX9_nextCourting 52 = .ok (.iaload, 1) := by decide +kernel
theorem dX9_nextCourting_53 : decode cX9_nextCourting 53 = .ok (.if_icmp .ge 15, 3) := by decide +kernel
theorem dX9_nextCourting_56 : decode cX9_nextCourting 56 = .ok (.aload_n 0, 1) := by decide +kernel
theorem dX9_nextCourting_57 : decode cX9_nextCourting 57 = .ok (.getfield 9, 3) := by decide +kernel
theorem dX9_nextCourting_60 : decode cX9_nextCourting 60 = .ok (.bipush 102, 2) := by decide +kernel
theorem dX9_nextCourting_62 : decode cX9_nextCourting 62 = .ok (.iload_n 1, 1) := by decide +kernel
theorem dX9_nextCourting_63 : decode cX9_nextCourting 63 = .ok (.iadd, 1) := by decide +kernel
theorem dX9_nextCourting_64 : decode cX9_nextCourting 64 = .ok (.iload_n 2, 1) := by decide +kernel
theorem dX9_nextCourting_65 : decode cX9_nextCourting 65 = .ok (.iastore, 1) := by decide +kernel
theorem dX9_nextCourting_66 : decode cX9_nextCourting 66 = .ok (.iconst 1, 1) := by decide +kernel
theorem dX9_nextCourting_67 : decode cX9_nextCourting 67 = .ok (.ireturn, 1) := by decide +kernel
theorem dX9_nextCourting_68 : decode cX9_nextCourting 68 = .ok (.aload_n 0, 1) := by decide +kernel
theorem dX9_nextCourting_69 : decode cX9_nextCourting 69 = .ok (.getfield 9, 3) := by decide +kernel
theorem dX9_nextCourting_72 : decode cX9_nextCourting 72 = .ok (.bipush 102, 2) := by decide +kernel
theorem dX9_nextCourting_74 : decode cX9_nextCourting 74 = .ok (.iload_n 1, 1) := by decide +kernel
theorem dX9_nextCourting_75 : decode cX9_nextCourting 75 = .ok (.iadd, 1) := by decide +kernel
theorem dX9_nextCourting_76 : decode cX9_nextCourting 76 = .ok (.iconst (-1), 1) := by decide +kernel
theorem dX9_nextCourting_77 : decode cX9_nextCourting 77 = .ok (.iastore, 1) := by decide +kernel
theorem dX9_nextCourting_78 : decode cX9_nextCourting 78 = .ok (.iinc 1 (-1), 3) := by decide +kernel
theorem dX9_nextCourting_81 : decode cX9_nextCourting 81 = .ok (.goto (-72), 3) := by decide +kernel
theorem dX9_nextCourting_84 : decode cX9_nextCourting 84 = .ok (.iconst 0, 1) := by decide +kernel
theorem dX9_nextCourting_85 : decode cX9_nextCourting 85 = .ok (.ireturn, 1) := by decide +kernel
theorem dX9_meets_0 : decode cX9_meets 0 = .ok (.aload_n 0, 1) := by decide +kernel
theorem dX9_meets_1 : decode cX9_meets 1 = .ok (.invokevirtual 289, 3) := by decide +kernel
theorem dX9_meets_4 : decode cX9_meets 4 = .ok (.istore_n 1, 1) := by decide +kernel
theorem dX9_meets_5 : decode cX9_meets 5 = .ok (.iconst 0, 1) := by decide +kernel
theorem dX9_meets_6 : decode cX9_meets 6 = .ok (.istore_n 2, 1) := by decide +kernel
theorem dX9_meets_7 : decode cX9_meets 7 = .ok (.iconst 0, 1) := by decide +kernel
theorem dX9_meets_8 : decode cX9_meets 8 = .ok (.istore_n 3, 1) := by decide +kernel
theorem dX9_meets_9 : decode cX9_meets 9 = .ok (.iload_n 3, 1) := by decide +kernel
theorem dX9_meets_10 : decode cX9_meets 10 = .ok (.aload_n 0, 1) := by decide +kernel
theorem dX9_meets_11 : decode cX9_meets 11 = .ok (.getfield 9, 3) := by decide +kernel
theorem dX9_meets_14 : decode cX9_meets 14 = .ok (.iconst 4, 1) := by decide +kernel
theorem dX9_meets_15 : decode cX9_meets 15 = .ok (.iaload, 1) := by decide +kernel
theorem dX9_meets_16 : decode cX9_meets 16 = .ok (.if_icmp .ge 63, 3) := by decide +kernel
theorem dX9_meets_19 : decode cX9_meets 19 = .ok (.iload_n 2, 1) := by decide +kernel
theorem dX9_meets_20 : decode cX9_meets 20 = .ok (.aload_n 0, 1) := by decide +kernel
theorem dX9_meets_21 : decode cX9_meets 21 = .ok (.iload_n 3, 1) := by decide +kernel
theorem dX9_meets_22 : decode cX9_meets 22 = .ok (.invokevirtual 234, 3) := by decide +kernel
theorem dX9_meets_25 : decode cX9_meets 25 = .ok (.iconst (-1), 1) := by decide +kernel
theorem dX9_meets_26 : decode cX9_meets 26 = .ok (.if_icmp .ne 7, 3) := by decide +kernel
theorem dX9_meets_29 : decode cX9_meets 29 = .ok (.iconst 0, 1) := by decide +kernel
theorem dX9_meets_30 : decode cX9_meets 30 = .ok (.goto 4, 3) := by decide +kernel
theorem dX9_meets_33 : decode cX9_meets 33 = .ok (.iconst 1, 1) := by decide +kernel
theorem dX9_meets_34 : decode cX9_meets 34 = .ok (.iadd, 1) := by decide +kernel
theorem dX9_meets_35 : decode cX9_meets 35 = .ok (.istore_n 2, 1) := by decide +kernel
theorem dX9_meets_36 : decode cX9_meets 36 = .ok (.aload_n 0, 1) := by decide +kernel
theorem dX9_meets_37 : decode cX9_meets 37 = .ok (.getfield 59, 3) := by decide +kernel
theorem dX9_meets_40 : decode cX9_meets 40 = .ok (.iload_n 3, 1) := by decide +kernel
theorem dX9_meets_41 : decode cX9_meets 41 = .ok (.aload_n 0, 1) := by decide +kernel
theorem dX9_meets_42 : decode cX9_meets 42 = .ok (.getfield 385, 3) := by decide +kernel
theorem dX9_meets_45 : decode cX9_meets 45 = .ok (.ifCond .eq 17, 3) := by decide +kernel
theorem dX9_meets_48 : decode cX9_meets 48 = .ok (.aload_n 0, 1) := by decide +kernel
theorem dX9_meets_49 : decode cX9_meets 49 = .ok (.getfield 59, 3) := by decide +kernel
theorem dX9_meets_52 : decode cX9_meets 52 = .ok (.iload_n 3, 1) := by decide +kernel
theorem dX9_meets_53 : decode cX9_meets 53 = .ok (.iaload, 1) := by decide +kernel
theorem dX9_meets_54 : decode cX9_meets 54 = .ok (.aload_n 0, 1) := by decide +kernel
theorem dX9_meets_55 : decode cX9_meets 55 = .ok (.iload_n 3, 1) := by decide +kernel
theorem dX9_meets_56 : decode cX9_meets 56 = .ok (.invokevirtual 234, 3) := by decide +kernel
theorem dX9_meets_59 : decode cX9_meets 59 = .ok (.if_icmp .ne 11, 3) := by decide +kernel
theorem dX9_meets_62 : decode cX9_meets 62 = .ok (.aload_n 0, 1) := by decide +kernel
theorem dX9_meets_63 : decode cX9_meets 63 = .ok (.iload_n 3, 1) := by decide +kernel
theorem dX9_meets_64 : decode cX9_meets 64 = .ok (.invokevirtual 234, 3) := by decide +kernel
theorem dX9_meets_67 : decode cX9_meets 67 = .ok (.goto 5, 3) := by decide +kernel
theorem dX9_meets_70 : decode cX9_meets 70 = .ok (.bipush (-2), 2) := by decide +kernel
theorem dX9_meets_72 : decode cX9_meets 72 = .ok (.iastore, 1) := by decide +kernel
theorem dX9_meets_73 : decode cX9_meets 73 = .ok (.iinc 3 1, 3) := by decide +kernel
theorem dX9_meets_76 : decode cX9_meets 76 = .ok (.goto (-67), 3) := by decide +kernel
theorem dX9_meets_79 : decode cX9_meets 79 = .ok (.aload_n 0, 1) := by decide +kernel
theorem dX9_meets_80 : decode cX9_meets 80 = .ok (.getfield 385, 3) := by decide +kernel
theorem dX9_meets_83 : decode cX9_meets 83 = .ok (.ifCond .eq 11, 3) := by decide +kernel
theorem dX9_meets_86 : decode cX9_meets 86 = .ok (.iload_n 1, 1) := by decide +kernel
theorem dX9_meets_87 : decode cX9_meets 87 = .ok (.aload_n 0, 1) := by decide +kernel
theorem dX9_meets_88 : decode cX9_meets 88 = .ok (.getfield 388, 3) := by decide +kernel
theorem dX9_meets_91 : decode cX9_meets 91 = .ok (.if_icmp .ge 32, 3) := by decide +kernel
theorem dX9_meets_94 : decode cX9_meets 94 = .ok (.iconst 0, 1) := by decide +kernel
theorem dX9_meets_95 : decode cX9_meets 95 = .ok (.istore_n 3, 1) := by decide +kernel
theorem dX9_meets_96 : decode cX9_meets 96 = .ok (.iload_n 3, 1) := by decide +kernel
theorem dX9_meets_97 : decode cX9_meets 97 = .ok (.aload_n 0, 1) := by decide +kernel
theorem dX9_meets_98 : decode cX9_meets 98 = .ok (.getfield 9, 3) := by decide +kernel
theorem dX9_meets_101 : decode cX9_meets 101 = .ok (.iconst 4, 1) := by decide +kernel
theorem dX9_meets_102 : decode cX9_meets 102 = .ok (.iaload, 1) := by decide +kernel
theorem dX9_meets_103 : decode cX9_meets 103 = .ok (.if_icmp .ge 20, 3) := by decide +kernel
theorem dX9_meets_106 : decode cX9_meets 106 = .ok (.aload_n 0, 1) := by decide +kernel
theorem dX9_meets_107 : decode cX9_meets 107 = .ok (.getfield 56, 3) := by decide +kernel
theorem dX9_meets_110 : decode cX9_meets 110 = .ok (.iload_n 3, 1) := by decide +kernel
theorem dX9_meets_111 : decode cX9_meets 111 = .ok (.aload_n 0, 1) := by decide +kernel
theorem dX9_meets_112 : decode cX9_meets 112 = .ok (.iload_n 3, 1) := by decide +kernel
theorem dX9_meets_113 : decode cX9_meets 113 = .ok (.invokevirtual 234, 3) := by decide +kernel
theorem dX9_meets_116 : decode cX9_meets 116 = .ok (.iastore, 1) := by decide +kernel
theorem dX9_meets_117 : decode cX9_meets 117 = .ok (.iinc 3 1, 3) := by decide +kernel
theorem dX9_meets_120 : decode cX9_meets 120 = .ok (.goto (-24), 3) := by decide +kernel
theorem dX9_meets_123 : decode cX9_meets 123 = .ok (.aload_n 0, 1) := by decide +kernel
theorem dX9_meets_124 : decode cX9_meets 124 = .ok (.aload_n 0, 1) := by decide +kernel
theorem dX9_meets_125 : decode cX9_meets 125 = .ok (.getfield 385, 3) := by decide +kernel
theorem dX9_meets_128 : decode cX9_meets 128 = .ok (.ifCond .ne 7, 3) := by decide +kernel
theorem dX9_meets_131 : decode cX9_meets 131 = .ok (.iload_n 1, 1) := by decide +kernel
theorem dX9_meets_132 : decode cX9_meets 132 = .ok (.goto 11, 3) := by decide +kernel
theorem dX9_meets_135 : decode cX9_meets 135 = .ok (.aload_n 0, 1) := by decide +kernel
theorem dX9_meets_136 : decode cX9_meets 136 = .ok (.getfield 388, 3) := by decide +kernel
theorem dX9_meets_139 : decode cX9_meets 139 = .ok (.iload_n 1, 1) := by decide +kernel
theorem dX9_meets_140 : decode cX9_meets 140 = .ok (.invokestatic 130, 3) := by decide +kernel
theorem dX9_meets_143 : decode cX9_meets 143 = .ok (.putfield 388, 3) := by decide +kernel
theorem dX9_meets_146 : decode cX9_meets 146 = .ok (.aload_n 0, 1) := by decide +kernel
theorem dX9_meets_147 : decode cX9_meets 147 = .ok (.aload_n 0, 1) := by decide +kernel
theorem dX9_meets_148 : decode cX9_meets 148 = .ok (.getfield 385, 3) := by decide +kernel
theorem dX9_meets_151 : decode cX9_meets 151 = .ok (.ifCond .ne 7, 3) := by decide +kernel
theorem dX9_meets_154 : decode cX9_meets 154 = .ok (.iload_n 2, 1) := by decide +kernel
theorem dX9_meets_155 : decode cX9_meets 155 = .ok (.goto 11, 3) := by decide +kernel
theorem dX9_meets_158 : decode cX9_meets 158 = .ok (.aload_n 0, 1) := by decide +kernel
theorem dX9_meets_159 : decode cX9_meets 159 = .ok (.getfield 391, 3) := by decide +kernel
theorem dX9_meets_162 : decode cX9_meets 162 = .ok (.iload_n 2, 1) := by decide +kernel
theorem dX9_meets_163 : decode cX9_meets 163 = .ok (.invokestatic 130, 3) := by decide +kernel
theorem dX9_meets_166 : decode cX9_meets 166 = .ok (.putfield 391, 3) := by decide +kernel
theorem dX9_meets_169 : decode cX9_meets 169 = .ok (.aload_n 0, 1) := by decide +kernel
theorem dX9_meets_170 : decode cX9_meets 170 = .ok (.dup, 1) := by decide +kernel
theorem dX9_meets_171 : decode cX9_meets 171 = .ok (.getfield 385, 3) := by decide +kernel
theorem dX9_meets_174 : decode cX9_meets 174 = .ok (.iconst 1, 1) := by decide +kernel
theorem dX9_meets_175 : decode cX9_meets 175 = .ok (.iadd, 1) := by decide +kernel
theorem dX9_meets_176 : decode cX9_meets 176 = .ok (.putfield 385, 3) := by decide +kernel
theorem dX9_meets_179 : decode cX9_meets 179 = .ok (.return_, 1) := by decide +kernel
theorem dX9_allCanCome_0 : decode cX9_allCanCome 0 = .ok (.iconst 0, 1) := by decide +kernel
theorem dX9_allCanCome_1 : decode cX9_allCanCome 1 = .ok (.istore_n 3, 1) := by decide +kernel
theorem dX9_allCanCome_2 : decode cX9_allCanCome 2 = .ok (.iload_n 3, 1) := by decide +kernel
theorem dX9_allCanCome_3 : decode cX9_allCanCome 3 = .ok (.aload_n 0, 1) := by decide +kernel
theorem dX9_allCanCome_4 : decode cX9_allCanCome 4 = .ok (.getfield 9, 3) := by decide +kernel
theorem dX9_allCanCome_7 : decode cX9_allCanCome 7 = .ok (.iconst 5, 1) := by decide +kernel
theorem dX9_allCanCome_8 : decode cX9_allCanCome 8 = .ok (.iaload, 1) := by decide +kernel
theorem dX9_allCanCome_9 : decode cX9_allCanCome 9 = .ok (.if_icmp .ge 21, 3) := by decide +kernel
theorem dX9_allCanCome_12 : decode cX9_allCanCome 12 = .ok (.aload_n 0, 1) := by decide +kernel
theorem dX9_allCanCome_13 : decode cX9_allCanCome 13 = .ok (.iload_n 3, 1) := by decide +kernel
theorem dX9_allCanCome_14 : decode cX9_allCanCome 14 = .ok (.iload_n 1, 1) := by decide +kernel
theorem dX9_allCanCome_15 : decode cX9_allCanCome 15 = .ok (.iload_n 2, 1) := by decide +kernel
theorem dX9_allCanCome_16 : decode cX9_allCanCome 16 = .ok (.invokevirtual 382, 3) := by decide +kernel
theorem dX9_allCanCome_19 : decode cX9_allCanCome 19 = .ok (.ifCond .ne 5, 3) := by decide +kernel
theorem dX9_allCanCome_22 : decode cX9_allCanCome 22 = .ok (.iconst 0, 1) := by decide +kernel
theorem dX9_allCanCome_23 : decode cX9_allCanCome 23 = .ok (.ireturn, 1) := by decide +kernel
theorem dX9_allCanCome_24 : decode cX9_allCanCome 24 = .ok (.iinc 3 1, 3) := by decide +kernel
theorem dX9_allCanCome_27 : decode cX9_allCanCome 27 = .ok (.goto (-25), 3) := by decide +kernel
theorem dX9_allCanCome_30 : decode cX9_allCanCome 30 = .ok (.iconst 1, 1) := by decide +kernel
theorem dX9_allCanCome_31 : decode cX9_allCanCome 31 = .ok (.ireturn, 1) := by decide +kernel
theorem dX9_courtingsTo_0 : decode cX9_courtingsTo 0 = .ok (.aload_n 0, 1) := by decide +kernel
theorem dX9_courtingsTo_1 : decode cX9_courtingsTo 1 = .ok (.iconst 0, 1) := by decide +kernel
theorem dX9_courtingsTo_2 : decode cX9_courtingsTo 2 = .ok (.putfield 385, 3) := by decide +kernel
theorem dX9_courtingsTo_5 : decode cX9_courtingsTo 5 = .ok (.aload_n 0, 1) := by decide +kernel
theorem dX9_courtingsTo_6 : decode cX9_courtingsTo 6 = .ok (.invokevirtual 394, 3) := by decide +kernel
theorem dX9_courtingsTo_9 : decode cX9_courtingsTo 9 = .ok (.iload_n 1, 1) := by decide +kernel
theorem dX9_courtingsTo_10 : decode cX9_courtingsTo 10 = .ok (.iconst (-1), 1) := by decide +kernel
theorem dX9_courtingsTo_11 : decode cX9_courtingsTo 11 = .ok (.if_icmp .ne 15, 3) := by decide +kernel
theorem dX9_courtingsTo_14 : decode cX9_courtingsTo 14 = .ok (.aload_n 0, 1) := by decide +kernel
theorem dX9_courtingsTo_15 : decode cX9_courtingsTo 15 = .ok (.iload_n 2, 1) := by decide +kernel
theorem dX9_courtingsTo_16 : decode cX9_courtingsTo 16 = .ok (.iload_n 3, 1) := by decide +kernel
theorem dX9_courtingsTo_17 : decode cX9_courtingsTo 17 = .ok (.invokevirtual 397, 3) := by decide +kernel
theorem dX9_courtingsTo_20 : decode cX9_courtingsTo 20 = .ok (.ifCond .eq 20, 3) := by decide +kernel
theorem dX9_courtingsTo_23 : decode cX9_courtingsTo 23 = .ok (.goto 13, 3) := by decide +kernel
theorem dX9_courtingsTo_26 : decode cX9_courtingsTo 26 = .ok (.aload_n 0, 1) := by decide +kernel
theorem dX9_courtingsTo_27 : decode cX9_courtingsTo 27 = .ok (.iload_n 1, 1) := by decide +kernel
theorem dX9_courtingsTo_28 : decode cX9_courtingsTo 28 = .ok (.iload_n 2, 1) := by decide +kernel
theorem dX9_courtingsTo_29 : decode cX9_courtingsTo 29 = .ok (.iload_n 3, 1) := by decide +kernel
theorem dX9_courtingsTo_30 : decode cX9_courtingsTo 30 = .ok (.invokevirtual 382, 3) := by decide +kernel
theorem dX9_courtingsTo_33 : decode cX9_courtingsTo 33 = .ok (.ifCond .eq 7, 3) := by decide +kernel
theorem dX9_courtingsTo_36 : decode cX9_courtingsTo 36 = .ok (.aload_n 0, 1) := by decide +kernel
theorem dX9_courtingsTo_37 : decode cX9_courtingsTo 37 = .ok (.invokevirtual 400, 3) := by decide +kernel
theorem dX9_courtingsTo_40 : decode cX9_courtingsTo 40 = .ok (.aload_n 0, 1) := by decide +kernel
theorem dX9_courtingsTo_41 : decode cX9_courtingsTo 41 = .ok (.invokevirtual 403, 3) := by decide +kernel
theorem dX9_courtingsTo_44 : decode cX9_courtingsTo 44 = .ok (.ifCond .ne (-35), 3) := by decide +kernel
theorem dX9_courtingsTo_47 : decode cX9_courtingsTo 47 = .ok (.aload_n 0, 1) := by decide +kernel
theorem dX9_courtingsTo_48 : decode cX9_courtingsTo 48 = .ok (.invokevirtual 406, 3) := by decide +kernel
theorem dX9_courtingsTo_51 : decode cX9_courtingsTo 51 = .ok (.return_, 1) := by decide +kernel
theorem dX9_fewest_0 : decode cX9_fewest 0 = .ok (.aload_n 0, 1) := by decide +kernel
theorem dX9_fewest_1 : decode cX9_fewest 1 = .ok (.iload_n 1, 1) := by decide +kernel
theorem dX9_fewest_2 : decode cX9_fewest 2 = .ok (.iload_n 2, 1) := by decide +kernel
theorem dX9_fewest_3 : decode cX9_fewest 3 = .ok (.iload_n 3, 1) := by decide +kernel
theorem dX9_fewest_4 : decode cX9_fewest 4 = .ok (.invokevirtual 373, 3) := by decide +kernel
theorem dX9_fewest_7 : decode cX9_fewest 7 = .ok (.ifCond .ne 6, 3) := by decide +kernel
theorem dX9_fewest_10 : decode cX9_fewest 10 = .ok (.bipush (-2), 2) := by decide +kernel
theorem dX9_fewest_12 : decode cX9_fewest 12 = .ok (.ireturn, 1) := by decide +kernel
theorem dX9_fewest_13 : decode cX9_fewest 13 = .ok (.aload_n 0, 1) := by decide +kernel
theorem dX9_fewest_14 : decode cX9_fewest 14 = .ok (.iload_n 1, 1) := by decide +kernel
theorem dX9_fewest_15 : decode cX9_fewest 15 = .ok (.iload_n 2, 1) := by decide +kernel
theorem dX9_fewest_16 : decode cX9_fewest 16 = .ok (.iload_n 3, 1) := by decide +kernel
theorem dX9_fewest_17 : decode cX9_fewest 17 = .ok (.invokevirtual 409, 3) := by decide +kernel
theorem dX9_fewest_20 : decode cX9_fewest 20 = .ok (.aload_n 0, 1) := by decide +kernel
theorem dX9_fewest_21 : decode cX9_fewest 21 = .ok (.getfield 385, 3) := by decide +kernel
theorem dX9_fewest_24 : decode cX9_fewest 24 = .ok (.ifCond .ne 7, 3) := by decide +kernel
theorem dX9_fewest_27 : decode cX9_fewest 27 = .ok (.iconst (-1), 1) := by decide +kernel
theorem dX9_fewest_28 : decode cX9_fewest 28 = .ok (.goto 7, 3) := by decide +kernel
theorem dX9_fewest_31 : decode cX9_fewest 31 = .ok (.aload_n 0, 1) := by decide +kernel
theorem dX9_fewest_32 : decode cX9_fewest 32 = .ok (.getfield 388, 3) := by decide +kernel
theorem dX9_fewest_35 : decode cX9_fewest 35 = .ok (.ireturn, 1) := by decide +kernel
theorem dX9_whom_0 : decode cX9_whom 0 = .ok (.aload_n 0, 1) := by decide +kernel
theorem dX9_whom_1 : decode cX9_whom 1 = .ok (.iload_n 1, 1) := by decide +kernel
theorem dX9_whom_2 : decode cX9_whom 2 = .ok (.iload_n 2, 1) := by decide +kernel
theorem dX9_whom_3 : decode cX9_whom 3 = .ok (.iload_n 3, 1) := by decide +kernel
theorem dX9_whom_4 : decode cX9_whom 4 = .ok (.invokevirtual 373, 3) := by decide +kernel
theorem dX9_whom_7 : decode cX9_whom 7 = .ok (.ifCond .eq 12, 3) := by decide +kernel
theorem dX9_whom_10 : decode cX9_whom 10 = .ok (.aload_n 0, 1) := by decide +kernel
theorem dX9_whom_11 : decode cX9_whom 11 = .ok (.iload 4, 2) := by decide +kernel
theorem dX9_whom_13 : decode cX9_whom 13 = .ok (.invokevirtual 270, 3) := by decide +kernel
theorem dX9_whom_16 : decode cX9_whom 16 = .ok (.ifCond .ne 6, 3) := by decide +kernel
theorem dX9_whom_19 : decode cX9_whom 19 = .ok (.bipush (-2), 2) := by decide +kernel
theorem dX9_whom_21 : decode cX9_whom 21 = .ok (.ireturn, 1) := by decide +kernel
theorem dX9_whom_22 : decode cX9_whom 22 = .ok (.aload_n 0, 1) := by decide +kernel
theorem dX9_whom_23 : decode cX9_whom 23 = .ok (.iload_n 1, 1) := by decide +kernel
theorem dX9_whom_24 : decode cX9_whom 24 = .ok (.iload_n 2, 1) := by decide +kernel
theorem dX9_whom_25 : decode cX9_whom 25 = .ok (.iload_n 3, 1) := by decide +kernel
theorem dX9_whom_26 : decode cX9_whom 26 = .ok (.invokevirtual 409, 3) := by decide +kernel
theorem dX9_whom_29 : decode cX9_whom 29 = .ok (.aload_n 0, 1) := by decide +kernel
theorem dX9_whom_30 : decode cX9_whom 30 = .ok (.getfield 385, 3) := by decide +kernel
theorem dX9_whom_33 : decode cX9_whom 33 = .ok (.ifCond .ne 7, 3) := by decide +kernel
theorem dX9_whom_36 : decode cX9_whom 36 = .ok (.iconst (-1), 1) := by decide +kernel
theorem dX9_whom_37 : decode cX9_whom 37 = .ok (.goto 10, 3) := by decide +kernel
theorem dX9_whom_40 : decode cX9_whom 40 = .ok (.aload_n 0, 1) := by decide +kernel
theorem dX9_whom_41 : decode cX9_whom 41 = .ok (.getfield 56, 3) := by decide +kernel
theorem dX9_whom_44 : decode cX9_whom 44 = .ok (.iload 4, 2) := by decide +kernel
theorem dX9_whom_46 : decode cX9_whom 46 = .ok (.iaload, 1) := by decide +kernel
theorem dX9_whom_47 : decode cX9_whom 47 = .ok (.ireturn, 1) := by decide +kernel
theorem dX9_all_0 : decode cX9_all 0 = .ok (.aload_n 0, 1) := by decide +kernel
theorem dX9_all_1 : decode cX9_all 1 = .ok (.iload_n 1, 1) := by decide +kernel
theorem dX9_all_2 : decode cX9_all 2 = .ok (.invokevirtual 370, 3) := by decide +kernel
theorem dX9_all_5 : decode cX9_all 5 = .ok (.ifCond .eq 12, 3) := by decide +kernel
theorem dX9_all_8 : decode cX9_all 8 = .ok (.aload_n 0, 1) := by decide +kernel
theorem dX9_all_9 : decode cX9_all 9 = .ok (.iload_n 2, 1) := by decide +kernel
theorem dX9_all_10 : decode cX9_all 10 = .ok (.i2l, 1) := by decide +kernel
theorem dX9_all_11 : decode cX9_all 11 = .ok (.invokevirtual 292, 3) := by decide +kernel
theorem dX9_all_14 : decode cX9_all 14 = .ok (.ifCond .ne 6, 3) := by decide +kernel
theorem dX9_all_17 : decode cX9_all 17 = .ok (.bipush (-2), 2) := by decide +kernel
theorem dX9_all_19 : decode cX9_all 19 = .ok (.ireturn, 1) := by decide +kernel
theorem dX9_all_20 : decode cX9_all 20 = .ok (.aload_n 0, 1) := by decide +kernel
theorem dX9_all_21 : decode cX9_all 21 = .ok (.iconst (-1), 1) := by decide +kernel
theorem dX9_all_22 : decode cX9_all 22 = .ok (.iload_n 1, 1) := by decide +kernel
theorem dX9_all_23 : decode cX9_all 23 = .ok (.iload_n 2, 1) := by decide +kernel
theorem dX9_all_24 : decode cX9_all 24 = .ok (.invokevirtual 409, 3) := by decide +kernel
theorem dX9_all_27 : decode cX9_all 27 = .ok (.aload_n 0, 1) := by decide +kernel
theorem dX9_all_28 : decode cX9_all 28 = .ok (.getfield 385, 3) := by decide +kernel
theorem dX9_all_31 : decode cX9_all 31 = .ok (.ifCond .ne 7, 3) := by decide +kernel
theorem dX9_all_34 : decode cX9_all 34 = .ok (.iconst (-1), 1) := by decide +kernel
theorem dX9_all_35 : decode cX9_all 35 = .ok (.goto 7, 3) := by decide +kernel
theorem dX9_all_38 : decode cX9_all 38 = .ok (.aload_n 0, 1) := by decide +kernel
theorem dX9_all_39 : decode cX9_all 39 = .ok (.getfield 388, 3) := by decide +kernel
theorem dX9_all_42 : decode cX9_all 42 = .ok (.ireturn, 1) := by decide +kernel
theorem dX9_courtings_0 : decode cX9_courtings 0 = .ok (.aload_n 0, 1) := by decide +kernel
theorem dX9_courtings_1 : decode cX9_courtings 1 = .ok (.iload_n 1, 1) := by decide +kernel
theorem dX9_courtings_2 : decode cX9_courtings 2 = .ok (.iload_n 2, 1) := by decide +kernel
theorem dX9_courtings_3 : decode cX9_courtings 3 = .ok (.iload_n 3, 1) := by decide +kernel
theorem dX9_courtings_4 : decode cX9_courtings 4 = .ok (.invokevirtual 373, 3) := by decide +kernel
theorem dX9_courtings_7 : decode cX9_courtings 7 = .ok (.ifCond .ne 6, 3) := by decide +kernel
theorem dX9_courtings_10 : decode cX9_courtings 10 = .ok (.bipush (-2), 2) := by decide +kernel
theorem dX9_courtings_12 : decode cX9_courtings 12 = .ok (.ireturn, 1) := by decide +kernel
theorem dX9_courtings_13 : decode cX9_courtings 13 = .ok (.aload_n 0, 1) := by decide +kernel
theorem dX9_courtings_14 : decode cX9_courtings 14 = .ok (.iload_n 1, 1) := by decide +kernel
theorem dX9_courtings_15 : decode cX9_courtings 15 = .ok (.iload_n 2, 1) := by decide +kernel
theorem dX9_courtings_16 : decode cX9_courtings 16 = .ok (.iload_n 3, 1) := by decide +kernel
theorem dX9_courtings_17 : decode cX9_courtings 17 = .ok (.invokevirtual 409, 3) := by decide +kernel
theorem dX9_courtings_20 : decode cX9_courtings 20 = .ok (.aload_n 0, 1) := by decide +kernel
theorem dX9_courtings_21 : decode cX9_courtings 21 = .ok (.getfield 385, 3) := by decide +kernel
theorem dX9_courtings_24 : decode cX9_courtings 24 = .ok (.ireturn, 1) := by decide +kernel
theorem dX9_busy_0 : decode cX9_busy 0 = .ok (.aload_n 0, 1) := by decide +kernel
theorem dX9_busy_1 : decode cX9_busy 1 = .ok (.iload_n 1, 1) := by decide +kernel
theorem dX9_busy_2 : decode cX9_busy 2 = .ok (.iload_n 2, 1) := by decide +kernel
theorem dX9_busy_3 : decode cX9_busy 3 = .ok (.iload_n 3, 1) := by decide +kernel
theorem dX9_busy_4 : decode cX9_busy 4 = .ok (.invokevirtual 373, 3) := by decide +kernel
theorem dX9_busy_7 : decode cX9_busy 7 = .ok (.ifCond .ne 6, 3) := by decide +kernel
theorem dX9_busy_10 : decode cX9_busy 10 = .ok (.bipush (-2), 2) := by decide +kernel
theorem dX9_busy_12 : decode cX9_busy 12 = .ok (.ireturn, 1) := by decide +kernel
theorem dX9_busy_13 : decode cX9_busy 13 = .ok (.aload_n 0, 1) := by decide +kernel
theorem dX9_busy_14 : decode cX9_busy 14 = .ok (.iload_n 1, 1) := by decide +kernel
theorem dX9_busy_15 : decode cX9_busy 15 = .ok (.iload_n 2, 1) := by decide +kernel
theorem dX9_busy_16 : decode cX9_busy 16 = .ok (.iload_n 3, 1) := by decide +kernel
theorem dX9_busy_17 : decode cX9_busy 17 = .ok (.invokevirtual 409, 3) := by decide +kernel
theorem dX9_busy_20 : decode cX9_busy 20 = .ok (.aload_n 0, 1) := by decide +kernel
theorem dX9_busy_21 : decode cX9_busy 21 = .ok (.getfield 385, 3) := by decide +kernel
theorem dX9_busy_24 : decode cX9_busy 24 = .ok (.ifCond .ne 7, 3) := by decide +kernel
theorem dX9_busy_27 : decode cX9_busy 27 = .ok (.iconst (-1), 1) := by decide +kernel
theorem dX9_busy_28 : decode cX9_busy 28 = .ok (.goto 7, 3) := by decide +kernel
theorem dX9_busy_31 : decode cX9_busy 31 = .ok (.aload_n 0, 1) := by decide +kernel
theorem dX9_busy_32 : decode cX9_busy 32 = .ok (.getfield 391, 3) := by decide +kernel
theorem dX9_busy_35 : decode cX9_busy 35 = .ok (.ireturn, 1) := by decide +kernel
theorem dX9_most_0 : decode cX9_most 0 = .ok (.aload_n 0, 1) := by decide +kernel
theorem dX9_most_1 : decode cX9_most 1 = .ok (.iload_n 1, 1) := by decide +kernel
theorem dX9_most_2 : decode cX9_most 2 = .ok (.iload_n 2, 1) := by decide +kernel
theorem dX9_most_3 : decode cX9_most 3 = .ok (.invokevirtual 295, 3) := by decide +kernel
theorem dX9_most_6 : decode cX9_most 6 = .ok (.ifCond .ne 6, 3) := by decide +kernel
theorem dX9_most_9 : decode cX9_most 9 = .ok (.bipush (-2), 2) := by decide +kernel
theorem dX9_most_11 : decode cX9_most 11 = .ok (.ireturn, 1) := by decide +kernel
theorem dX9_most_12 : decode cX9_most 12 = .ok (.iconst 0, 1) := by decide +kernel
theorem dX9_most_13 : decode cX9_most 13 = .ok (.istore_n 3, 1) := by decide +kernel
theorem dX9_most_14 : decode cX9_most 14 = .ok (.iconst 0, 1) := by decide +kernel
theorem dX9_most_15 : decode cX9_most 15 = .ok (.istore 4, 2) := by decide +kernel
theorem dX9_most_17 : decode cX9_most 17 = .ok (.iload 4, 2) := by decide +kernel
theorem dX9_most_19 : decode cX9_most 19 = .ok (.aload_n 0, 1) := by decide +kernel
theorem dX9_most_20 : decode cX9_most 20 = .ok (.getfield 9, 3) := by decide +kernel
theorem dX9_most_23 : decode cX9_most 23 = .ok (.iconst 4, 1) := by decide +kernel
theorem dX9_most_24 : decode cX9_most 24 = .ok (.iaload, 1) := by decide +kernel
theorem dX9_most_25 : decode cX9_most 25 = .ok (.if_icmp .ge 107, 3) := by decide +kernel
theorem dX9_most_28 : decode cX9_most 28 = .ok (.iconst 0, 1) := by decide +kernel
theorem dX9_most_29 : decode cX9_most 29 = .ok (.istore 5, 2) := by decide +kernel
theorem dX9_most_31 : decode cX9_most 31 = .ok (.iconst 0, 1) := by decide +kernel
theorem dX9_most_32 : decode cX9_most 32 = .ok (.istore 6, 2) := by decide +kernel
theorem dX9_most_34 : decode cX9_most 34 = .ok (.iload 6, 2) := by decide +kernel
theorem dX9_most_36 : decode cX9_most 36 = .ok (.aload_n 0, 1) := by decide +kernel
theorem dX9_most_37 : decode cX9_most 37 = .ok (.getfield 9, 3) := by decide +kernel
theorem dX9_most_40 : decode cX9_most 40 = .ok (.iconst 3, 1) := by decide +kernel
theorem dX9_most_41 : decode cX9_most 41 = .ok (.iaload, 1) := by decide +kernel
theorem dX9_most_42 : decode cX9_most 42 = .ok (.if_icmp .ge 71, 3) := by decide +kernel
theorem dX9_most_45 : decode cX9_most 45 = .ok (.iload 5, 2) := by decide +kernel
theorem dX9_most_47 : decode cX9_most 47 = .ok (.ifCond .ne 53, 3) := by decide +kernel
theorem dX9_most_50 : decode cX9_most 50 = .ok (.aload_n 0, 1) := by decide +kernel
theorem dX9_most_51 : decode cX9_most 51 = .ok (.iload 4, 2) := by decide +kernel
theorem dX9_most_53 : decode cX9_most 53 = .ok (.iload 6, 2) := by decide +kernel
theorem dX9_most_55 : decode cX9_most 55 = .ok (.invokevirtual 276, 3) := by decide +kernel
theorem dX9_most_58 : decode cX9_most 58 = .ok (.ifCond .eq 46, 3) := by decide +kernel
theorem dX9_most_61 : decode cX9_most 61 = .ok (.aload_n 0, 1) := by decide +kernel
theorem dX9_most_62 : decode cX9_most 62 = .ok (.iload 6, 2) := by decide +kernel
theorem dX9_most_64 : decode cX9_most 64 = .ok (.invokevirtual 247, 3) := by decide +kernel
theorem dX9_most_67 : decode cX9_most 67 = .ok (.iload_n 1, 1) := by decide +kernel
theorem dX9_most_68 : decode cX9_most 68 = .ok (.if_icmp .ne 36, 3) := by decide +kernel
theorem dX9_most_71 : decode cX9_most 71 = .ok (.iload_n 2, 1) := by decide +kernel
theorem dX9_most_72 : decode cX9_most 72 = .ok (.i2l, 1) := by decide +kernel
theorem dX9_most_73 : decode cX9_most 73 = .ok (.aload_n 0, 1) := by decide +kernel
theorem dX9_most_74 : decode cX9_most 74 = .ok (.iload 6, 2) := by decide +kernel
theorem dX9_most_76 : decode cX9_most 76 = .ok (.invokevirtual 250, 3) := by decide +kernel
theorem dX9_most_79 : decode cX9_most 79 = .ok (.i2l, 1) := by decide +kernel
theorem dX9_most_80 : decode cX9_most 80 = .ok (.aload_n 0, 1) := by decide +kernel
theorem dX9_most_81 : decode cX9_most 81 = .ok (.iload 6, 2) := by decide +kernel
theorem dX9_most_83 : decode cX9_most 83 = .ok (.invokevirtual 250, 3) := by decide +kernel
theorem dX9_most_86 : decode cX9_most 86 = .ok (.aload_n 0, 1) := by decide +kernel
theorem dX9_most_87 : decode cX9_most 87 = .ok (.iload 4, 2) := by decide +kernel
theorem dX9_most_89 : decode cX9_most 89 = .ok (.invokevirtual 237, 3) := by decide +kernel
theorem dX9_most_92 : decode cX9_most 92 = .ok (.iadd, 1) := by decide +kernel
theorem dX9_most_93 : decode cX9_most 93 = .ok (.i2l, 1) := by decide +kernel
theorem dX9_most_94 : decode cX9_most 94 = .ok (.invokestatic 82, 3) := by decide +kernel
theorem dX9_most_97 : decode cX9_most 97 = .ok (.ifCond .eq 7, 3) := by decide +kernel
theorem dX9_most_100 : decode cX9_most 100 = .ok (.iconst 1, 1) := by decide +kernel
theorem dX9_most_101 : decode cX9_most 101 = .ok (.goto 4, 3) := by decide +kernel
theorem dX9_most_104 : decode cX9_most 104 = .ok (.iconst 0, 1) := by decide +kernel
theorem dX9_most_105 : decode cX9_most 105 = .ok (.istore 5, 2) := by decide +kernel
theorem dX9_most_107 : decode cX9_most 107 = .ok (.iinc 6 1, 3) := by decide +kernel
theorem dX9_most_110 : decode cX9_most 110 = .ok (.goto (-76), 3) := by decide +kernel
theorem dX9_most_113 : decode cX9_most 113 = .ok (.iload_n 3, 1) := by decide +kernel
theorem dX9_most_114 : decode cX9_most 114 = .ok (.iload 5, 2) := by decide +kernel
theorem dX9_most_116 : decode cX9_most 116 = .ok (.ifCond .eq 7, 3) := by decide +kernel
theorem dX9_most_119 : decode cX9_most 119 = .ok (.iconst 1, 1) := by decide +kernel
theorem dX9_most_120 : decode cX9_most 120 = .ok (.goto 4, 3) := by decide +kernel
theorem dX9_most_123 : decode cX9_most 123 = .ok (.iconst 0, 1) := by decide +kernel
theorem dX9_most_124 : decode cX9_most 124 = .ok (.iadd, 1) := by decide +kernel
theorem dX9_most_125 : decode cX9_most 125 = .ok (.istore_n 3, 1) := by decide +kernel
theorem dX9_most_126 : decode cX9_most 126 = .ok (.iinc 4 1, 3) := by decide +kernel
theorem dX9_most_129 : decode cX9_most 129 = .ok (.goto (-112), 3) := by decide +kernel
theorem dX9_most_132 : decode cX9_most 132 = .ok (.iload_n 3, 1) := by decide +kernel
theorem dX9_most_133 : decode cX9_most 133 = .ok (.ireturn, 1) := by decide +kernel
theorem dX9_worst_0 : decode cX9_worst 0 = .ok (.aload_n 0, 1) := by decide +kernel
theorem dX9_worst_1 : decode cX9_worst 1 = .ok (.iload_n 1, 1) := by decide +kernel
theorem dX9_worst_2 : decode cX9_worst 2 = .ok (.iload_n 2, 1) := by decide +kernel
theorem dX9_worst_3 : decode cX9_worst 3 = .ok (.invokevirtual 295, 3) := by decide +kernel
theorem dX9_worst_6 : decode cX9_worst 6 = .ok (.ifCond .ne 6, 3) := by decide +kernel
theorem dX9_worst_9 : decode cX9_worst 9 = .ok (.bipush (-2), 2) := by decide +kernel
theorem dX9_worst_11 : decode cX9_worst 11 = .ok (.ireturn, 1) := by decide +kernel
theorem dX9_worst_12 : decode cX9_worst 12 = .ok (.iconst (-1), 1) := by decide +kernel
theorem dX9_worst_13 : decode cX9_worst 13 = .ok (.istore_n 3, 1) := by decide +kernel
theorem dX9_worst_14 : decode cX9_worst 14 = .ok (.iconst 0, 1) := by decide +kernel
theorem dX9_worst_15 : decode cX9_worst 15 = .ok (.istore 4, 2) := by decide +kernel
theorem dX9_worst_17 : decode cX9_worst 17 = .ok (.iload 4, 2) := by decide +kernel
theorem dX9_worst_19 : decode cX9_worst 19 = .ok (.aload_n 0, 1) := by decide +kernel
theorem dX9_worst_20 : decode cX9_worst 20 = .ok (.getfield 9, 3) := by decide +kernel
theorem dX9_worst_23 : decode cX9_worst 23 = .ok (.iconst 4, 1) := by decide +kernel
theorem dX9_worst_24 : decode cX9_worst 24 = .ok (.iaload, 1) := by decide +kernel
theorem dX9_worst_25 : decode cX9_worst 25 = .ok (.if_icmp .ge 44, 3) := by decide +kernel
theorem dX9_worst_28 : decode cX9_worst 28 = .ok (.aload_n 0, 1) := by decide +kernel
theorem dX9_worst_29 : decode cX9_worst 29 = .ok (.iload 4, 2) := by decide +kernel
theorem dX9_worst_31 : decode cX9_worst 31 = .ok (.iload_n 1, 1) := by decide +kernel
theorem dX9_worst_32 : decode cX9_worst 32 = .ok (.iload_n 2, 1) := by decide +kernel
theorem dX9_worst_33 : decode cX9_worst 33 = .ok (.invokevirtual 253, 3) := by decide +kernel
theorem dX9_worst_36 : decode cX9_worst 36 = .ok (.ifCond .eq 27, 3) := by decide +kernel
theorem dX9_worst_39 : decode cX9_worst 39 = .ok (.iload_n 3, 1) := by decide +kernel
theorem dX9_worst_40 : decode cX9_worst 40 = .ok (.iconst (-1), 1) := by decide +kernel
theorem dX9_worst_41 : decode cX9_worst 41 = .ok (.if_icmp .eq 19, 3) := by decide +kernel
theorem dX9_worst_44 : decode cX9_worst 44 = .ok (.aload_n 0, 1) := by decide +kernel
theorem dX9_worst_45 : decode cX9_worst 45 = .ok (.iload 4, 2) := by decide +kernel
theorem dX9_worst_47 : decode cX9_worst 47 = .ok (.iload_n 2, 1) := by decide +kernel
theorem dX9_worst_48 : decode cX9_worst 48 = .ok (.invokevirtual 310, 3) := by decide +kernel
theorem dX9_worst_51 : decode cX9_worst 51 = .ok (.aload_n 0, 1) := by decide +kernel
theorem dX9_worst_52 : decode cX9_worst 52 = .ok (.iload_n 3, 1) := by decide +kernel
theorem dX9_worst_53 : decode cX9_worst 53 = .ok (.iload_n 2, 1) := by decide +kernel
theorem dX9_worst_54 : decode cX9_worst 54 = .ok (.invokevirtual 310, 3) := by decide +kernel
theorem dX9_worst_57 : decode cX9_worst 57 = .ok (.if_icmp .le 6, 3) := by decide +kernel
theorem dX9_worst_60 : decode cX9_worst 60 = .ok (.iload 4, 2) := by decide +kernel
theorem dX9_worst_62 : decode cX9_worst 62 = .ok (.istore_n 3, 1) := by decide +kernel
theorem dX9_worst_63 : decode cX9_worst 63 = .ok (.iinc 4 1, 3) := by decide +kernel
theorem dX9_worst_66 : decode cX9_worst 66 = .ok (.goto (-49), 3) := by decide +kernel
theorem dX9_worst_69 : decode cX9_worst 69 = .ok (.iload_n 3, 1) := by decide +kernel
theorem dX9_worst_70 : decode cX9_worst 70 = .ok (.ireturn, 1) := by decide +kernel
theorem dX9_dry_0 : decode cX9_dry 0 = .ok (.aload_n 0, 1) := by decide +kernel
theorem dX9_dry_1 : decode cX9_dry 1 = .ok (.iload_n 1, 1) := by decide +kernel
theorem dX9_dry_2 : decode cX9_dry 2 = .ok (.i2l, 1) := by decide +kernel
theorem dX9_dry_3 : decode cX9_dry 3 = .ok (.invokevirtual 266, 3) := by decide +kernel
theorem dX9_dry_6 : decode cX9_dry 6 = .ok (.ifCond .ne 6, 3) := by decide +kernel
theorem dX9_dry_9 : decode cX9_dry 9 = .ok (.bipush (-2), 2) := by decide +kernel
theorem dX9_dry_11 : decode cX9_dry 11 = .ok (.ireturn, 1) := by decide +kernel
theorem dX9_dry_12 : decode cX9_dry 12 = .ok (.iconst 0, 1) := by decide +kernel
theorem dX9_dry_13 : decode cX9_dry 13 = .ok (.istore_n 2, 1) := by decide +kernel
theorem dX9_dry_14 : decode cX9_dry 14 = .ok (.iconst 1, 1) := by decide +kernel
theorem dX9_dry_15 : decode cX9_dry 15 = .ok (.istore_n 3, 1) := by decide +kernel
theorem dX9_dry_16 : decode cX9_dry 16 = .ok (.iload_n 3, 1) := by decide +kernel
theorem dX9_dry_17 : decode cX9_dry 17 = .ok (.aload_n 0, 1) := by decide +kernel
theorem dX9_dry_18 : decode cX9_dry 18 = .ok (.getfield 9, 3) := by decide +kernel
theorem dX9_dry_21 : decode cX9_dry 21 = .ok (.iconst 1, 1) := by decide +kernel
theorem dX9_dry_22 : decode cX9_dry 22 = .ok (.iaload, 1) := by decide +kernel
theorem dX9_dry_23 : decode cX9_dry 23 = .ok (.if_icmp .ge 37, 3) := by decide +kernel
theorem dX9_dry_26 : decode cX9_dry 26 = .ok (.aload_n 0, 1) := by decide +kernel
theorem dX9_dry_27 : decode cX9_dry 27 = .ok (.ldc2_w 313, 3) := by decide +kernel
theorem dX9_dry_30 : decode cX9_dry 30 = .ok (.iload_n 1, 1) := by decide +kernel
theorem dX9_dry_31 : decode cX9_dry 31 = .ok (.iload_n 3, 1) := by decide +kernel
theorem dX9_dry_32 : decode cX9_dry 32 = .ok (.invokevirtual 319, 3) := by decide +kernel
theorem dX9_dry_35 : decode cX9_dry 35 = .ok (.aload_n 0, 1) := by decide +kernel
theorem dX9_dry_36 : decode cX9_dry 36 = .ok (.ldc2_w 313, 3) := by decide +kernel
theorem dX9_dry_39 : decode cX9_dry 39 = .ok (.iload_n 1, 1) := by decide +kernel
theorem dX9_dry_40 : decode cX9_dry 40 = .ok (.iload_n 2, 1) := by decide +kernel
theorem dX9_dry_41 : decode cX9_dry 41 = .ok (.invokevirtual 319, 3) := by decide +kernel
theorem dX9_dry_44 : decode cX9_dry 44 = .ok (.lcmp, 1) := by decide +kernel
theorem dX9_dry_45 : decode cX9_dry 45 = .ok (.ifCond .le 7, 3) := by decide +kernel
theorem dX9_dry_48 : decode cX9_dry 48 = .ok (.iload_n 3, 1) := by decide +kernel
theorem dX9_dry_49 : decode cX9_dry 49 = .ok (.goto 4, 3) := by decide +kernel
theorem dX9_dry_52 : decode cX9_dry 52 = .ok (.iload_n 2, 1) := by decide +kernel
theorem dX9_dry_53 : decode cX9_dry 53 = .ok (.istore_n 2, 1) := by decide +kernel
theorem dX9_dry_54 : decode cX9_dry 54 = .ok (.iinc 3 1, 3) := by decide +kernel
theorem dX9_dry_57 : decode cX9_dry 57 = .ok (.goto (-41), 3) := by decide +kernel
theorem dX9_dry_60 : decode cX9_dry 60 = .ok (.iload_n 2, 1) := by decide +kernel
theorem dX9_dry_61 : decode cX9_dry 61 = .ok (.ireturn, 1) := by decide +kernel
theorem dX9_climbs_0 : decode cX9_climbs 0 = .ok (.aload_n 0, 1) := by decide +kernel
theorem dX9_climbs_1 : decode cX9_climbs 1 = .ok (.iload_n 1, 1) := by decide +kernel
theorem dX9_climbs_2 : decode cX9_climbs 2 = .ok (.iload_n 2, 1) := by decide +kernel
theorem dX9_climbs_3 : decode cX9_climbs 3 = .ok (.iload_n 3, 1) := by decide +kernel
theorem dX9_climbs_4 : decode cX9_climbs 4 = .ok (.invokevirtual 373, 3) := by decide +kernel
theorem dX9_climbs_7 : decode cX9_climbs 7 = .ok (.ifCond .eq 14, 3) := by decide +kernel
theorem dX9_climbs_10 : decode cX9_climbs 10 = .ok (.iload 4, 2) := by decide +kernel
theorem dX9_climbs_12 : decode cX9_climbs 12 = .ok (.i2l, 1) := by decide +kernel
theorem dX9_climbs_13 : decode cX9_climbs 13 = .ok (.lconst 0, 1) := by decide +kernel
theorem dX9_climbs_14 : decode cX9_climbs 14 = .ok (.lconst 1, 1) := by decide +kernel
theorem dX9_climbs_15 : decode cX9_climbs 15 = .ok (.invokestatic 82, 3) := by decide +kernel
theorem dX9_climbs_18 : decode cX9_climbs 18 = .ok (.ifCond .ne 6, 3) := by decide +kernel
theorem dX9_climbs_21 : decode cX9_climbs 21 = .ok (.bipush (-2), 2) := by decide +kernel
theorem dX9_climbs_23 : decode cX9_climbs 23 = .ok (.ireturn, 1) := by decide +kernel
theorem dX9_climbs_24 : decode cX9_climbs 24 = .ok (.aload_n 0, 1) := by decide +kernel
theorem dX9_climbs_25 : decode cX9_climbs 25 = .ok (.iload_n 1, 1) := by decide +kernel
theorem dX9_climbs_26 : decode cX9_climbs 26 = .ok (.iload_n 2, 1) := by decide +kernel
theorem dX9_climbs_27 : decode cX9_climbs 27 = .ok (.iload_n 3, 1) := by decide +kernel
theorem dX9_climbs_28 : decode cX9_climbs 28 = .ok (.invokevirtual 376, 3) := by decide +kernel
theorem dX9_climbs_31 : decode cX9_climbs 31 = .ok (.iconst 0, 1) := by decide +kernel
theorem dX9_climbs_32 : decode cX9_climbs 32 = .ok (.istore 5, 2) := by decide +kernel
theorem dX9_climbs_34 : decode cX9_climbs 34 = .ok (.iconst 1, 1) := by decide +kernel
theorem dX9_climbs_35 : decode cX9_climbs 35 = .ok (.istore 6, 2) := by decide +kernel
theorem dX9_climbs_37 : decode cX9_climbs 37 = .ok (.iload 6, 2) := by decide +kernel
theorem dX9_climbs_39 : decode cX9_climbs 39 = .ok (.aload_n 0, 1) := by decide +kernel
theorem dX9_climbs_40 : decode cX9_climbs 40 = .ok (.getfield 348, 3) := by decide +kernel
theorem dX9_climbs_43 : decode cX9_climbs 43 = .ok (.if_icmp .ge 66, 3) := by decide +kernel
theorem dX9_climbs_46 : decode cX9_climbs 46 = .ok (.aload_n 0, 1) := by decide +kernel
theorem dX9_climbs_47 : decode cX9_climbs 47 = .ok (.getfield 9, 3) := by decide +kernel
theorem dX9_climbs_50 : decode cX9_climbs 50 = .ok (.bipush 7, 2) := by decide +kernel
theorem dX9_climbs_52 : decode cX9_climbs 52 = .ok (.aload_n 0, 1) := by decide +kernel
theorem dX9_climbs_53 : decode cX9_climbs 53 = .ok (.getfield 47, 3) := by decide +kernel
theorem dX9_climbs_56 : decode cX9_climbs 56 = .ok (.iload 6, 2) := by decide +kernel
theorem dX9_climbs_58 : decode cX9_climbs 58 = .ok (.iaload, 1) := by decide +kernel
theorem dX9_climbs_59 : decode cX9_climbs 59 = .ok (.iadd, 1) := by decide +kernel
theorem dX9_climbs_60 : decode cX9_climbs 60 = .ok (.iaload, 1) := by decide +kernel
theorem dX9_climbs_61 : decode cX9_climbs 61 = .ok (.aload_n 0, 1) := by decide +kernel
theorem dX9_climbs_62 : decode cX9_climbs 62 = .ok (.getfield 9, 3) := by decide +kernel
theorem dX9_climbs_65 : decode cX9_climbs 65 = .ok (.bipush 7, 2) := by decide +kernel
theorem dX9_climbs_67 : decode cX9_climbs 67 = .ok (.aload_n 0, 1) := by decide +kernel
theorem dX9_climbs_68 : decode cX9_climbs 68 = .ok (.getfield 47, 3) := by decide +kernel
theorem dX9_climbs_71 : decode cX9_climbs 71 = .ok (.iload 6, 2) := by decide +kernel
theorem dX9_climbs_73 : decode cX9_climbs 73 = .ok (.iconst 1, 1) := by decide +kernel
theorem dX9_climbs_74 : decode cX9_climbs 74 = .ok (.isub, 1) := by decide +kernel
theorem dX9_climbs_75 : decode cX9_climbs 75 = .ok (.iaload, 1) := by decide +kernel
theorem dX9_climbs_76 : decode cX9_climbs 76 = .ok (.iadd, 1) := by decide +kernel
theorem dX9_climbs_77 : decode cX9_climbs 77 = .ok (.iaload, 1) := by decide +kernel
theorem dX9_climbs_78 : decode cX9_climbs 78 = .ok (.isub, 1) := by decide +kernel
theorem dX9_climbs_79 : decode cX9_climbs 79 = .ok (.istore 7, 2) := by decide +kernel
theorem dX9_climbs_81 : decode cX9_climbs 81 = .ok (.iload 5, 2) := by decide +kernel
theorem dX9_climbs_83 : decode cX9_climbs 83 = .ok (.iconst 0, 1) := by decide +kernel
theorem dX9_climbs_84 : decode cX9_climbs 84 = .ok (.iload 4, 2) := by decide +kernel
theorem dX9_climbs_86 : decode cX9_climbs 86 = .ok (.ifCond .ne 8, 3) := by decide +kernel
theorem dX9_climbs_89 : decode cX9_climbs 89 = .ok (.iload 7, 2) := by decide +kernel
theorem dX9_climbs_91 : decode cX9_climbs 91 = .ok (.goto 6, 3) := by decide +kernel
theorem dX9_climbs_94 : decode cX9_climbs 94 = .ok (.iload 7, 2) := by decide +kernel
theorem dX9_climbs_96 : decode cX9_climbs 96 = .ok (.ineg, 1) := by decide +kernel
theorem dX9_climbs_97 : decode cX9_climbs 97 = .ok (.invokestatic 412, 3) := by decide +kernel
theorem dX9_climbs_100 : decode cX9_climbs 100 = .ok (.iadd, 1) := by decide +kernel
theorem dX9_climbs_101 : decode cX9_climbs 101 = .ok (.istore 5, 2) := by decide +kernel
theorem dX9_climbs_103 : decode cX9_climbs 103 = .ok (.iinc 6 1, 3) := by decide +kernel
theorem dX9_climbs_106 : decode cX9_climbs 106 = .ok (.goto (-69), 3) := by decide +kernel
theorem dX9_climbs_109 : decode cX9_climbs 109 = .ok (.aload_n 0, 1) := by decide +kernel
theorem dX9_climbs_110 : decode cX9_climbs 110 = .ok (.getfield 348, 3) := by decide +kernel
theorem dX9_climbs_113 : decode cX9_climbs 113 = .ok (.ifCond .ne 7, 3) := by decide +kernel
theorem dX9_climbs_116 : decode cX9_climbs 116 = .ok (.iconst (-1), 1) := by decide +kernel
theorem dX9_climbs_117 : decode cX9_climbs 117 = .ok (.goto 5, 3) := by decide +kernel
theorem dX9_climbs_120 : decode cX9_climbs 120 = .ok (.iload 5, 2) := by decide +kernel
theorem dX9_climbs_122 : decode cX9_climbs 122 = .ok (.ireturn, 1) := by decide +kernel
theorem dX9_high_0 : decode cX9_high 0 = .ok (.aload_n 0, 1) := by decide +kernel
theorem dX9_high_1 : decode cX9_high 1 = .ok (.iload_n 1, 1) := by decide +kernel
theorem dX9_high_2 : decode cX9_high 2 = .ok (.invokevirtual 367, 3) := by decide +kernel
theorem dX9_high_5 : decode cX9_high 5 = .ok (.ifCond .eq 12, 3) := by decide +kernel
theorem dX9_high_8 : decode cX9_high 8 = .ok (.aload_n 0, 1) := by decide +kernel
theorem dX9_high_9 : decode cX9_high 9 = .ok (.iload_n 2, 1) := by decide +kernel
theorem dX9_high_10 : decode cX9_high 10 = .ok (.i2l, 1) := by decide +kernel
theorem dX9_high_11 : decode cX9_high 11 = .ok (.invokevirtual 292, 3) := by decide +kernel
theorem dX9_high_14 : decode cX9_high 14 = .ok (.ifCond .ne 6, 3) := by decide +kernel
theorem dX9_high_17 : decode cX9_high 17 = .ok (.bipush (-2), 2) := by decide +kernel
theorem dX9_high_19 : decode cX9_high 19 = .ok (.ireturn, 1) := by decide +kernel
theorem dX9_high_20 : decode cX9_high 20 = .ok (.aload_n 0, 1) := by decide +kernel
theorem dX9_high_21 : decode cX9_high 21 = .ok (.aload_n 0, 1) := by decide +kernel
theorem dX9_high_22 : decode cX9_high 22 = .ok (.iload_n 1, 1) := by decide +kernel
theorem dX9_high_23 : decode cX9_high 23 = .ok (.invokevirtual 332, 3) := by decide +kernel
theorem dX9_high_26 : decode cX9_high 26 = .ok (.iload_n 2, 1) := by decide +kernel
theorem dX9_high_27 : decode cX9_high 27 = .ok (.invokevirtual 335, 3) := by decide +kernel
theorem dX9_high_30 : decode cX9_high 30 = .ok (.aload_n 0, 1) := by decide +kernel
theorem dX9_high_31 : decode cX9_high 31 = .ok (.aload_n 0, 1) := by decide +kernel
theorem dX9_high_32 : decode cX9_high 32 = .ok (.iload_n 1, 1) := by decide +kernel
theorem dX9_high_33 : decode cX9_high 33 = .ok (.invokevirtual 339, 3) := by decide +kernel
theorem dX9_high_36 : decode cX9_high 36 = .ok (.invokevirtual 342, 3) := by decide +kernel
theorem dX9_high_39 : decode cX9_high 39 = .ok (.istore_n 3, 1) := by decide +kernel
theorem dX9_high_40 : decode cX9_high 40 = .ok (.aload_n 0, 1) := by decide +kernel
theorem dX9_high_41 : decode cX9_high 41 = .ok (.iload_n 1, 1) := by decide +kernel
theorem dX9_high_42 : decode cX9_high 42 = .ok (.invokevirtual 339, 3) := by decide +kernel
theorem dX9_high_45 : decode cX9_high 45 = .ok (.istore 4, 2) := by decide +kernel
theorem dX9_high_47 : decode cX9_high 47 = .ok (.aload_n 0, 1) := by decide +kernel
theorem dX9_high_48 : decode cX9_high 48 = .ok (.invokevirtual 86, 3) := by decide +kernel
theorem dX9_high_51 : decode cX9_high 51 = .ok (.iconst 1, 1) := by decide +kernel
theorem dX9_high_52 : decode cX9_high 52 = .ok (.isub, 1) := by decide +kernel
theorem dX9_high_53 : decode cX9_high 53 = .ok (.istore 5, 2) := by decide +kernel
theorem dX9_high_55 : decode cX9_high 55 = .ok (.iload 5, 2) := by decide +kernel
theorem dX9_high_57 : decode cX9_high 57 = .ok (.ifCond .lt 46, 3) := by decide +kernel
theorem dX9_high_60 : decode cX9_high 60 = .ok (.iload_n 3, 1) := by decide +kernel
theorem dX9_high_61 : decode cX9_high 61 = .ok (.iload 5, 2) := by decide +kernel
theorem dX9_high_63 : decode cX9_high 63 = .ok (.ishr, 1) := by decide +kernel
theorem dX9_high_64 : decode cX9_high 64 = .ok (.iconst 1, 1) := by decide +kernel
theorem dX9_high_65 : decode cX9_high 65 = .ok (.iand, 1) := by decide +kernel
theorem dX9_high_66 : decode cX9_high 66 = .ok (.iconst 1, 1) := by decide +kernel
theorem dX9_high_67 : decode cX9_high 67 = .ok (.if_icmp .ne 30, 3) := by decide +kernel
theorem dX9_high_70 : decode cX9_high 70 = .ok (.aload_n 0, 1) := by decide +kernel
theorem dX9_high_71 : decode cX9_high 71 = .ok (.getfield 9, 3) := by decide +kernel
theorem dX9_high_74 : decode cX9_high 74 = .ok (.bipush 7, 2) := by decide +kernel
theorem dX9_high_76 : decode cX9_high 76 = .ok (.iload 5, 2) := by decide +kernel
theorem dX9_high_78 : decode cX9_high 78 = .ok (.iadd, 1) := by decide +kernel
theorem dX9_high_79 : decode cX9_high 79 = .ok (.iaload, 1) := by decide +kernel
theorem dX9_high_80 : decode cX9_high 80 = .ok (.aload_n 0, 1) := by decide +kernel
theorem dX9_high_81 : decode cX9_high 81 = .ok (.getfield 9, 3) := by decide +kernel
theorem dX9_high_84 : decode cX9_high 84 = .ok (.bipush 7, 2) := by decide +kernel
theorem dX9_high_86 : decode cX9_high 86 = .ok (.iload 4, 2) := by decide +kernel
theorem dX9_high_88 : decode cX9_high 88 = .ok (.iadd, 1) := by decide +kernel
theorem dX9_high_89 : decode cX9_high 89 = .ok (.iaload, 1) := by decide +kernel
theorem dX9_high_90 : decode cX9_high 90 = .ok (.if_icmp .lt 7, 3) := by decide +kernel
theorem dX9_high_93 : decode cX9_high 93 = .ok (.iload 5, 2) := by decide +kernel
theorem dX9_high_95 : decode cX9_high 95 = .ok (.istore 4, 2) := by decide +kernel
theorem dX9_high_97 : decode cX9_high 97 = .ok (.iinc 5 (-1), 3) := by decide +kernel
theorem dX9_high_100 : decode cX9_high 100 = .ok (.goto (-45), 3) := by decide +kernel
theorem dX9_high_103 : decode cX9_high 103 = .ok (.iload 4, 2) := by decide +kernel
theorem dX9_high_105 : decode cX9_high 105 = .ok (.ireturn, 1) := by decide +kernel
theorem dX9_parts_0 : decode cX9_parts 0 = .ok (.aload_n 0, 1) := by decide +kernel
theorem dX9_parts_1 : decode cX9_parts 1 = .ok (.iload_n 1, 1) := by decide +kernel
theorem dX9_parts_2 : decode cX9_parts 2 = .ok (.i2l, 1) := by decide +kernel
theorem dX9_parts_3 : decode cX9_parts 3 = .ok (.invokevirtual 292, 3) := by decide +kernel
theorem dX9_parts_6 : decode cX9_parts 6 = .ok (.ifCond .eq 15, 3) := by decide +kernel
theorem dX9_parts_9 : decode cX9_parts 9 = .ok (.iload_n 2, 1) := by decide +kernel
theorem dX9_parts_10 : decode cX9_parts 10 = .ok (.i2l, 1) := by decide +kernel
theorem dX9_parts_11 : decode cX9_parts 11 = .ok (.lconst 0, 1) := by decide +kernel
theorem dX9_parts_12 : decode cX9_parts 12 = .ok (.ldc2_w 302, 3) := by decide +kernel
theorem dX9_parts_15 : decode cX9_parts 15 = .ok (.invokestatic 82, 3) := by decide +kernel
theorem dX9_parts_18 : decode cX9_parts 18 = .ok (.ifCond .ne 6, 3) := by decide +kernel
theorem dX9_parts_21 : decode cX9_parts 21 = .ok (.bipush (-2), 2) := by decide +kernel
theorem dX9_parts_23 : decode cX9_parts 23 = .ok (.ireturn, 1) := by decide +kernel
theorem dX9_parts_24 : decode cX9_parts 24 = .ok (.aload_n 0, 1) := by decide +kernel
theorem dX9_parts_25 : decode cX9_parts 25 = .ok (.iload_n 2, 1) := by decide +kernel
theorem dX9_parts_26 : decode cX9_parts 26 = .ok (.iload_n 1, 1) := by decide +kernel
theorem dX9_parts_27 : decode cX9_parts 27 = .ok (.invokevirtual 335, 3) := by decide +kernel
theorem dX9_parts_30 : decode cX9_parts 30 = .ok (.iconst 0, 1) := by decide +kernel
theorem dX9_parts_31 : decode cX9_parts 31 = .ok (.istore_n 3, 1) := by decide +kernel
theorem dX9_parts_32 : decode cX9_parts 32 = .ok (.iconst 0, 1) := by decide +kernel
theorem dX9_parts_33 : decode cX9_parts 33 = .ok (.istore 4, 2) := by decide +kernel
theorem dX9_parts_35 : decode cX9_parts 35 = .ok (.iconst 0, 1) := by decide +kernel
theorem dX9_parts_36 : decode cX9_parts 36 = .ok (.istore 5, 2) := by decide +kernel
theorem dX9_parts_38 : decode cX9_parts 38 = .ok (.iload 5, 2) := by decide +kernel
theorem dX9_parts_40 : decode cX9_parts 40 = .ok (.aload_n 0, 1) := by decide +kernel
theorem dX9_parts_41 : decode cX9_parts 41 = .ok (.invokevirtual 86, 3) := by decide +kernel
theorem dX9_parts_44 : decode cX9_parts 44 = .ok (.if_icmp .ge 34, 3) := by decide +kernel
theorem dX9_parts_47 : decode cX9_parts 47 = .ok (.iload_n 3, 1) := by decide +kernel
theorem dX9_parts_48 : decode cX9_parts 48 = .ok (.iload 5, 2) := by decide +kernel
theorem dX9_parts_50 : decode cX9_parts 50 = .ok (.ishr, 1) := by decide +kernel
theorem dX9_parts_51 : decode cX9_parts 51 = .ok (.iconst 1, 1) := by decide +kernel
theorem dX9_parts_52 : decode cX9_parts 52 = .ok (.iand, 1) := by decide +kernel
theorem dX9_parts_53 : decode cX9_parts 53 = .ok (.iconst 1, 1) := by decide +kernel
theorem dX9_parts_54 : decode cX9_parts 54 = .ok (.if_icmp .ne 6, 3) := by decide +kernel
theorem dX9_parts_57 : decode cX9_parts 57 = .ok (.goto 15, 3) := by decide +kernel
theorem dX9_parts_60 : decode cX9_parts 60 = .ok (.iload_n 3, 1) := by decide +kernel
theorem dX9_parts_61 : decode cX9_parts 61 = .ok (.aload_n 0, 1) := by decide +kernel
theorem dX9_parts_62 : decode cX9_parts 62 = .ok (.iload 5, 2) := by decide +kernel
theorem dX9_parts_64 : decode cX9_parts 64 = .ok (.invokevirtual 342, 3) := by decide +kernel
theorem dX9_parts_67 : decode cX9_parts 67 = .ok (.ior, 1) := by decide +kernel
theorem dX9_parts_68 : decode cX9_parts 68 = .ok (.istore_n 3, 1) := by decide +kernel
theorem dX9_parts_69 : decode cX9_parts 69 = .ok (.iinc 4 1, 3) := by decide +kernel
theorem dX9_parts_72 : decode cX9_parts 72 = .ok (.iinc 5 1, 3) := by decide +kernel
theorem dX9_parts_75 : decode cX9_parts 75 = .ok (.goto (-37), 3) := by decide +kernel
theorem dX9_parts_78 : decode cX9_parts 78 = .ok (.iload 4, 2) := by decide +kernel
theorem dX9_parts_80 : decode cX9_parts 80 = .ok (.ireturn, 1) := by decide +kernel
theorem dX9_cuts_0 : decode cX9_cuts 0 = .ok (.aload_n 0, 1) := by decide +kernel
theorem dX9_cuts_1 : decode cX9_cuts 1 = .ok (.iload_n 1, 1) := by decide +kernel
theorem dX9_cuts_2 : decode cX9_cuts 2 = .ok (.iload_n 2, 1) := by decide +kernel
theorem dX9_cuts_3 : decode cX9_cuts 3 = .ok (.iload_n 3, 1) := by decide +kernel
theorem dX9_cuts_4 : decode cX9_cuts 4 = .ok (.invokevirtual 373, 3) := by decide +kernel
theorem dX9_cuts_7 : decode cX9_cuts 7 = .ok (.ifCond .ne 6, 3) := by decide +kernel
theorem dX9_cuts_10 : decode cX9_cuts 10 = .ok (.bipush (-2), 2) := by decide +kernel
theorem dX9_cuts_12 : decode cX9_cuts 12 = .ok (.ireturn, 1) := by decide +kernel
theorem dX9_cuts_13 : decode cX9_cuts 13 = .ok (.aload_n 0, 1) := by decide +kernel
theorem dX9_cuts_14 : decode cX9_cuts 14 = .ok (.iload_n 1, 1) := by decide +kernel
theorem dX9_cuts_15 : decode cX9_cuts 15 = .ok (.iload_n 2, 1) := by decide +kernel
theorem dX9_cuts_16 : decode cX9_cuts 16 = .ok (.iload_n 3, 1) := by decide +kernel
theorem dX9_cuts_17 : decode cX9_cuts 17 = .ok (.invokevirtual 382, 3) := by decide +kernel
theorem dX9_cuts_20 : decode cX9_cuts 20 = .ok (.ifCond .ne 5, 3) := by decide +kernel
theorem dX9_cuts_23 : decode cX9_cuts 23 = .ok (.iconst (-1), 1) := by decide +kernel
theorem dX9_cuts_24 : decode cX9_cuts 24 = .ok (.ireturn, 1) := by decide +kernel
theorem dX9_cuts_25 : decode cX9_cuts 25 = .ok (.aload_n 0, 1) := by decide +kernel
theorem dX9_cuts_26 : decode cX9_cuts 26 = .ok (.getfield 329, 3) := by decide +kernel
theorem dX9_cuts_29 : decode cX9_cuts 29 = .ok (.istore 4, 2) := by decide +kernel
theorem dX9_cuts_31 : decode cX9_cuts 31 = .ok (.iconst 0, 1) := by decide +kernel
theorem dX9_cuts_32 : decode cX9_cuts 32 = .ok (.istore 5, 2) := by decide +kernel
theorem dX9_cuts_34 : decode cX9_cuts 34 = .ok (.iconst 0, 1) := by decide +kernel
theorem dX9_cuts_35 : decode cX9_cuts 35 = .ok (.istore 6, 2) := by decide +kernel
theorem dX9_cuts_37 : decode cX9_cuts 37 = .ok (.iload 6, 2) := by decide +kernel
theorem dX9_cuts_39 : decode cX9_cuts 39 = .ok (.aload_n 0, 1) := by decide +kernel
theorem dX9_cuts_40 : decode cX9_cuts 40 = .ok (.getfield 9, 3) := by decide +kernel
theorem dX9_cuts_43 : decode cX9_cuts 43 = .ok (.iconst 2, 1) := by decide +kernel
theorem dX9_cuts_44 : decode cX9_cuts 44 = .ok (.iaload, 1) := by decide +kernel
theorem dX9_cuts_45 : decode cX9_cuts 45 = .ok (.if_icmp .ge 51, 3) := by decide +kernel
theorem dX9_cuts_48 : decode cX9_cuts 48 = .ok (.aload_n 0, 1) := by decide +kernel
theorem dX9_cuts_49 : decode cX9_cuts 49 = .ok (.iload 4, 2) := by decide +kernel
theorem dX9_cuts_51 : decode cX9_cuts 51 = .ok (.iconst 1, 1) := by decide +kernel
theorem dX9_cuts_52 : decode cX9_cuts 52 = .ok (.iload 6, 2) := by decide +kernel
theorem dX9_cuts_54 : decode cX9_cuts 54 = .ok (.ishl, 1) := by decide +kernel
theorem dX9_cuts_55 : decode cX9_cuts 55 = .ok (.iconst (-1), 1) := by decide +kernel
theorem dX9_cuts_56 : decode cX9_cuts 56 = .ok (.ixor, 1) := by decide +kernel
theorem dX9_cuts_57 : decode cX9_cuts 57 = .ok (.iand, 1) := by decide +kernel
theorem dX9_cuts_58 : decode cX9_cuts 58 = .ok (.putfield 329, 3) := by decide +kernel
theorem dX9_cuts_61 : decode cX9_cuts 61 = .ok (.iload 5, 2) := by decide +kernel
theorem dX9_cuts_63 : decode cX9_cuts 63 = .ok (.aload_n 0, 1) := by decide +kernel
theorem dX9_cuts_64 : decode cX9_cuts 64 = .ok (.aload_n 0, 1) := by decide +kernel
theorem dX9_cuts_65 : decode cX9_cuts 65 = .ok (.iload_n 1, 1) := by decide +kernel
theorem dX9_cuts_66 : decode cX9_cuts 66 = .ok (.invokevirtual 339, 3) := by decide +kernel
theorem dX9_cuts_69 : decode cX9_cuts 69 = .ok (.invokevirtual 342, 3) := by decide +kernel
theorem dX9_cuts_72 : decode cX9_cuts 72 = .ok (.iload_n 2, 1) := by decide +kernel
theorem dX9_cuts_73 : decode cX9_cuts 73 = .ok (.ishr, 1) := by decide +kernel
theorem dX9_cuts_74 : decode cX9_cuts 74 = .ok (.iconst 1, 1) := by decide +kernel
theorem dX9_cuts_75 : decode cX9_cuts 75 = .ok (.iand, 1) := by decide +kernel
theorem dX9_cuts_76 : decode cX9_cuts 76 = .ok (.ifCond .ne 10, 3) := by decide +kernel
theorem dX9_cuts_79 : decode cX9_cuts 79 = .ok (.iconst 1, 1) := by decide +kernel
theorem dX9_cuts_80 : decode cX9_cuts 80 = .ok (.iload 6, 2) := by decide +kernel
theorem dX9_cuts_82 : decode cX9_cuts 82 = .ok (.ishl, 1) := by decide +kernel
theorem dX9_cuts_83 : decode cX9_cuts 83 = .ok (.goto 4, 3) := by decide +kernel
theorem dX9_cuts_86 : decode cX9_cuts 86 = .ok (.iconst 0, 1) := by decide +kernel
theorem dX9_cuts_87 : decode cX9_cuts 87 = .ok (.ior, 1) := by decide +kernel
theorem dX9_cuts_88 : decode cX9_cuts 88 = .ok (.istore 5, 2) := by decide +kernel
theorem dX9_cuts_90 : decode cX9_cuts 90 = .ok (.iinc 6 1, 3) := by decide +kernel
theorem dX9_cuts_93 : decode cX9_cuts 93 = .ok (.goto (-56), 3) := by decide +kernel
theorem dX9_cuts_96 : decode cX9_cuts 96 = .ok (.iload 5, 2) := by decide +kernel
theorem dX9_cuts_98 : decode cX9_cuts 98 = .ok (.ireturn, 1) := by decide +kernel
theorem dX9_reachOf_0 : decode cX9_reachOf 0 = .ok (.aload_n 0, 1) := by decide +kernel
theorem dX9_reachOf_1 : decode cX9_reachOf 1 = .ok (.aload_n 0, 1) := by decide +kernel
theorem dX9_reachOf_2 : decode cX9_reachOf 2 = .ok (.iload_n 1, 1) := by decide +kernel
theorem dX9_reachOf_3 : decode cX9_reachOf 3 = .ok (.invokevirtual 332, 3) := by decide +kernel
theorem dX9_reachOf_6 : decode cX9_reachOf 6 = .ok (.iload_n 2, 1) := by decide +kernel
theorem dX9_reachOf_7 : decode cX9_reachOf 7 = .ok (.invokevirtual 335, 3) := by decide +kernel
theorem dX9_reachOf_10 : decode cX9_reachOf 10 = .ok (.aload_n 0, 1) := by decide +kernel
theorem dX9_reachOf_11 : decode cX9_reachOf 11 = .ok (.aload_n 0, 1) := by decide +kernel
theorem dX9_reachOf_12 : decode cX9_reachOf 12 = .ok (.iload_n 1, 1) := by decide +kernel
theorem dX9_reachOf_13 : decode cX9_reachOf 13 = .ok (.invokevirtual 339, 3) := by decide +kernel
theorem dX9_reachOf_16 : decode cX9_reachOf 16 = .ok (.invokevirtual 342, 3) := by decide +kernel
theorem dX9_reachOf_19 : decode cX9_reachOf 19 = .ok (.ireturn, 1) := by decide +kernel
theorem dX9_vain_0 : decode cX9_vain 0 = .ok (.aload_n 0, 1) := by decide +kernel
theorem dX9_vain_1 : decode cX9_vain 1 = .ok (.iload_n 1, 1) := by decide +kernel
theorem dX9_vain_2 : decode cX9_vain 2 = .ok (.invokevirtual 270, 3) := by decide +kernel
theorem dX9_vain_5 : decode cX9_vain 5 = .ok (.ifCond .ne 6, 3) := by decide +kernel
theorem dX9_vain_8 : decode cX9_vain 8 = .ok (.bipush (-2), 2) := by decide +kernel
theorem dX9_vain_10 : decode cX9_vain 10 = .ok (.ireturn, 1) := by decide +kernel
theorem dX9_vain_11 : decode cX9_vain 11 = .ok (.aload_n 0, 1) := by decide +kernel
theorem dX9_vain_12 : decode cX9_vain 12 = .ok (.iload_n 1, 1) := by decide +kernel
theorem dX9_vain_13 : decode cX9_vain 13 = .ok (.invokevirtual 234, 3) := by decide +kernel
theorem dX9_vain_16 : decode cX9_vain 16 = .ok (.iconst (-1), 1) := by decide +kernel
theorem dX9_vain_17 : decode cX9_vain 17 = .ok (.if_icmp .ne 5, 3) := by decide +kernel
theorem dX9_vain_20 : decode cX9_vain 20 = .ok (.iconst (-1), 1) := by decide +kernel
theorem dX9_vain_21 : decode cX9_vain 21 = .ok (.ireturn, 1) := by decide +kernel
theorem dX9_vain_22 : decode cX9_vain 22 = .ok (.iconst 1, 1) := by decide +kernel
theorem dX9_vain_23 : decode cX9_vain 23 = .ok (.istore_n 2, 1) := by decide +kernel
theorem dX9_vain_24 : decode cX9_vain 24 = .ok (.iconst 0, 1) := by decide +kernel
theorem dX9_vain_25 : decode cX9_vain 25 = .ok (.istore_n 3, 1) := by decide +kernel
theorem dX9_vain_26 : decode cX9_vain 26 = .ok (.iload_n 3, 1) := by decide +kernel
theorem dX9_vain_27 : decode cX9_vain 27 = .ok (.aload_n 0, 1) := by decide +kernel
theorem dX9_vain_28 : decode cX9_vain 28 = .ok (.getfield 9, 3) := by decide +kernel
theorem dX9_vain_31 : decode cX9_vain 31 = .ok (.iconst 5, 1) := by decide +kernel
theorem dX9_vain_32 : decode cX9_vain 32 = .ok (.iaload, 1) := by decide +kernel
theorem dX9_vain_33 : decode cX9_vain 33 = .ok (.if_icmp .ge 70, 3) := by decide +kernel
theorem dX9_vain_36 : decode cX9_vain 36 = .ok (.iconst 0, 1) := by decide +kernel
theorem dX9_vain_37 : decode cX9_vain 37 = .ok (.istore 4, 2) := by decide +kernel
theorem dX9_vain_39 : decode cX9_vain 39 = .ok (.iload 4, 2) := by decide +kernel
theorem dX9_vain_41 : decode cX9_vain 41 = .ok (.aload_n 0, 1) := by decide +kernel
theorem dX9_vain_42 : decode cX9_vain 42 = .ok (.getfield 9, 3) := by decide +kernel
theorem dX9_vain_45 : decode cX9_vain 45 = .ok (.iconst 1, 1) := by decide +kernel
theorem dX9_vain_46 : decode cX9_vain 46 = .ok (.iaload, 1) := by decide +kernel
theorem dX9_vain_47 : decode cX9_vain 47 = .ok (.if_icmp .ge 50, 3) := by decide +kernel
theorem dX9_vain_50 : decode cX9_vain 50 = .ok (.aload_n 0, 1) := by decide +kernel
theorem dX9_vain_51 : decode cX9_vain 51 = .ok (.iload_n 3, 1) := by decide +kernel
theorem dX9_vain_52 : decode cX9_vain 52 = .ok (.iload 4, 2) := by decide +kernel
theorem dX9_vain_54 : decode cX9_vain 54 = .ok (.invokevirtual 415, 3) := by decide +kernel
theorem dX9_vain_57 : decode cX9_vain 57 = .ok (.istore 5, 2) := by decide +kernel
theorem dX9_vain_59 : decode cX9_vain 59 = .ok (.aload_n 0, 1) := by decide +kernel
theorem dX9_vain_60 : decode cX9_vain 60 = .ok (.iload_n 1, 1) := by decide +kernel
theorem dX9_vain_61 : decode cX9_vain 61 = .ok (.putfield 34, 3) := by decide +kernel
theorem dX9_vain_64 : decode cX9_vain 64 = .ok (.iload_n 2, 1) := by decide +kernel
theorem dX9_vain_65 : decode cX9_vain 65 = .ok (.ifCond .eq 19, 3) := by decide +kernel
theorem dX9_vain_68 : decode cX9_vain 68 = .ok (.aload_n 0, 1) := by decide +kernel
theorem dX9_vain_69 : decode cX9_vain 69 = .ok (.iload_n 3, 1) := by decide +kernel
theorem dX9_vain_70 : decode cX9_vain 70 = .ok (.iload 4, 2) := by decide +kernel
theorem dX9_vain_72 : decode cX9_vain 72 = .ok (.invokevirtual 415, 3) := by decide +kernel
theorem dX9_vain_75 : decode cX9_vain 75 = .ok (.iload 5, 2) := by decide +kernel
theorem dX9_vain_77 : decode cX9_vain 77 = .ok (.if_icmp .ne 7, 3) := by decide +kernel
theorem dX9_vain_80 : decode cX9_vain 80 = .ok (.iconst 1, 1) := by decide +kernel
theorem dX9_vain_81 : decode cX9_vain 81 = .ok (.goto 4, 3) := by decide +kernel
theorem dX9_vain_84 : decode cX9_vain 84 = .ok (.iconst 0, 1) := by decide +kernel
theorem dX9_vain_85 : decode cX9_vain 85 = .ok (.istore_n 2, 1) := by decide +kernel
theorem dX9_vain_86 : decode cX9_vain 86 = .ok (.aload_n 0, 1) := by decide +kernel
theorem dX9_vain_87 : decode cX9_vain 87 = .ok (.iconst (-1), 1) := by decide +kernel
theorem dX9_vain_88 : decode cX9_vain 88 = .ok (.putfield 34, 3) := by decide +kernel
theorem dX9_vain_91 : decode cX9_vain 91 = .ok (.iinc 4 1, 3) := by decide +kernel
theorem dX9_vain_94 : decode cX9_vain 94 = .ok (.goto (-55), 3) := by decide +kernel
theorem dX9_vain_97 : decode cX9_vain 97 = .ok (.iinc 3 1, 3) := by decide +kernel
theorem dX9_vain_100 : decode cX9_vain 100 = .ok (.goto (-74), 3) := by decide +kernel
theorem dX9_vain_103 : decode cX9_vain 103 = .ok (.iload_n 2, 1) := by decide +kernel
theorem dX9_vain_104 : decode cX9_vain 104 = .ok (.ifCond .eq 7, 3) := by decide +kernel
theorem dX9_vain_107 : decode cX9_vain 107 = .ok (.iconst 1, 1) := by decide +kernel
theorem dX9_vain_108 : decode cX9_vain 108 = .ok (.goto 4, 3) := by decide +kernel
theorem dX9_vain_111 : decode cX9_vain 111 = .ok (.iconst 0, 1) := by decide +kernel
theorem dX9_vain_112 : decode cX9_vain 112 = .ok (.ireturn, 1) := by decide +kernel
theorem dX9_sold_0 : decode cX9_sold 0 = .ok (.aload_n 0, 1) := by decide +kernel
theorem dX9_sold_1 : decode cX9_sold 1 = .ok (.iload_n 1, 1) := by decide +kernel
theorem dX9_sold_2 : decode cX9_sold 2 = .ok (.iload_n 2, 1) := by decide +kernel
theorem dX9_sold_3 : decode cX9_sold 3 = .ok (.iload_n 3, 1) := by decide +kernel
theorem dX9_sold_4 : decode cX9_sold 4 = .ok (.invokevirtual 373, 3) := by decide +kernel
theorem dX9_sold_7 : decode cX9_sold 7 = .ok (.ifCond .ne 6, 3) := by decide +kernel
theorem dX9_sold_10 : decode cX9_sold 10 = .ok (.bipush (-2), 2) := by decide +kernel
theorem dX9_sold_12 : decode cX9_sold 12 = .ok (.ireturn, 1) := by decide +kernel
theorem dX9_sold_13 : decode cX9_sold 13 = .ok (.iconst 0, 1) := by decide +kernel
theorem dX9_sold_14 : decode cX9_sold 14 = .ok (.istore 4, 2) := by decide +kernel
theorem dX9_sold_16 : decode cX9_sold 16 = .ok (.iload 4, 2) := by decide +kernel
theorem dX9_sold_18 : decode cX9_sold 18 = .ok (.aload_n 0, 1) := by decide +kernel
theorem dX9_sold_19 : decode cX9_sold 19 = .ok (.invokevirtual 86, 3) := by decide +kernel
theorem dX9_sold_22 : decode cX9_sold 22 = .ok (.if_icmp .ge 33, 3) := by decide +kernel
theorem dX9_sold_25 : decode cX9_sold 25 = .ok (.aload_n 0, 1) := by decide +kernel
theorem dX9_sold_26 : decode cX9_sold 26 = .ok (.getfield 62, 3) := by decide +kernel
theorem dX9_sold_29 : decode cX9_sold 29 = .ok (.iload 4, 2) := by decide +kernel
theorem dX9_sold_31 : decode cX9_sold 31 = .ok (.iload 4, 2) := by decide +kernel
theorem dX9_sold_33 : decode cX9_sold 33 = .ok (.aload_n 0, 1) := by decide +kernel
theorem dX9_sold_34 : decode cX9_sold 34 = .ok (.iload_n 1, 1) := by decide +kernel
theorem dX9_sold_35 : decode cX9_sold 35 = .ok (.invokevirtual 339, 3) := by decide +kernel
theorem dX9_sold_38 : decode cX9_sold 38 = .ok (.if_icmp .ne 7, 3) := by decide +kernel
theorem dX9_sold_41 : decode cX9_sold 41 = .ok (.iconst 0, 1) := by decide +kernel
theorem dX9_sold_42 : decode cX9_sold 42 = .ok (.goto 6, 3) := by decide +kernel
theorem dX9_sold_45 : decode cX9_sold 45 = .ok (.ldc_w 301, 3) := by decide +kernel
theorem dX9_sold_48 : decode cX9_sold 48 = .ok (.iastore, 1) := by decide +kernel
theorem dX9_sold_49 : decode cX9_sold 49 = .ok (.iinc 4 1, 3) := by decide +kernel
theorem dX9_sold_52 : decode cX9_sold 52 = .ok (.goto (-36), 3) := by decide +kernel
theorem dX9_sold_55 : decode cX9_sold 55 = .ok (.iconst 0, 1) := by decide +kernel
theorem dX9_sold_56 : decode cX9_sold 56 = .ok (.istore 4, 2) := by decide +kernel
theorem dX9_sold_58 : decode cX9_sold 58 = .ok (.iload 4, 2) := by decide +kernel
theorem dX9_sold_60 : decode cX9_sold 60 = .ok (.aload_n 0, 1) := by decide +kernel
theorem dX9_sold_61 : decode cX9_sold 61 = .ok (.invokevirtual 86, 3) := by decide +kernel
theorem dX9_sold_64 : decode cX9_sold 64 = .ok (.if_icmp .ge 115, 3) := by decide +kernel
theorem dX9_sold_67 : decode cX9_sold 67 = .ok (.iconst 0, 1) := by decide +kernel
theorem dX9_sold_68 : decode cX9_sold 68 = .ok (.istore 5, 2) := by decide +kernel
theorem dX9_sold_70 : decode cX9_sold 70 = .ok (.iload 5, 2) := by decide +kernel
theorem dX9_sold_72 : decode cX9_sold 72 = .ok (.aload_n 0, 1) := by decide +kernel
theorem dX9_sold_73 : decode cX9_sold 73 = .ok (.getfield 9, 3) := by decide +kernel
theorem dX9_sold_76 : decode cX9_sold 76 = .ok (.iconst 2, 1) := by decide +kernel
theorem dX9_sold_77 : decode cX9_sold 77 = .ok (.iaload, 1) := by decide +kernel
theorem dX9_sold_78 : decode cX9_sold 78 = .ok (.if_icmp .ge 95, 3) := by decide +kernel
theorem dX9_sold_81 : decode cX9_sold 81 = .ok (.aload_n 0, 1) := by decide +kernel
theorem dX9_sold_82 : decode cX9_sold 82 = .ok (.iload 5, 2) := by decide +kernel
theorem dX9_sold_84 : decode cX9_sold 84 = .ok (.iload_n 3, 1) := by decide +kernel
theorem dX9_sold_85 : decode cX9_sold 85 = .ok (.aload_n 0, 1) := by decide +kernel
theorem dX9_sold_86 : decode cX9_sold 86 = .ok (.iload_n 1, 1) := by decide +kernel
theorem dX9_sold_87 : decode cX9_sold 87 = .ok (.invokevirtual 332, 3) := by decide +kernel
theorem dX9_sold_90 : decode cX9_sold 90 = .ok (.invokevirtual 304, 3) := by decide +kernel
theorem dX9_sold_93 : decode cX9_sold 93 = .ok (.istore 6, 2) := by decide +kernel
theorem dX9_sold_95 : decode cX9_sold 95 = .ok (.aload_n 0, 1) := by decide +kernel
theorem dX9_sold_96 : decode cX9_sold 96 = .ok (.iload 5, 2) := by decide +kernel
theorem dX9_sold_98 : decode cX9_sold 98 = .ok (.iconst 0, 1) := by decide +kernel
theorem dX9_sold_99 : decode cX9_sold 99 = .ok (.invokevirtual 90, 3) := by decide +kernel
theorem dX9_sold_102 : decode cX9_sold 102 = .ok (.istore 7, 2) := by decide +kernel
theorem dX9_sold_104 : decode cX9_sold 104 = .ok (.aload_n 0, 1) := by decide +kernel
theorem dX9_sold_105 : decode cX9_sold 105 = .ok (.iload 5, 2) := by decide +kernel
theorem dX9_sold_107 : decode cX9_sold 107 = .ok (.iconst 1, 1) := by decide +kernel
theorem dX9_sold_108 : decode cX9_sold 108 = .ok (.invokevirtual 90, 3) := by decide +kernel
theorem dX9_sold_111 : decode cX9_sold 111 = .ok (.istore 8, 2) := by decide +kernel
theorem dX9_sold_113 : decode cX9_sold 113 = .ok (.aload_n 0, 1) := by decide +kernel
theorem dX9_sold_114 : decode cX9_sold 114 = .ok (.getfield 62, 3) := by decide +kernel
theorem dX9_sold_117 : decode cX9_sold 117 = .ok (.iload 7, 2) := by decide +kernel
theorem dX9_sold_119 : decode cX9_sold 119 = .ok (.aload_n 0, 1) := by decide +kernel
theorem dX9_sold_120 : decode cX9_sold 120 = .ok (.getfield 62, 3) := by decide +kernel
theorem dX9_sold_123 : decode cX9_sold 123 = .ok (.iload 7, 2) := by decide +kernel
theorem dX9_sold_125 : decode cX9_sold 125 = .ok (.iaload, 1) := by decide +kernel
theorem dX9_sold_126 : decode cX9_sold 126 = .ok (.aload_n 0, 1) := by decide +kernel
theorem dX9_sold_127 : decode cX9_sold 127 = .ok (.getfield 62, 3) := by decide +kernel
theorem dX9_sold_130 : decode cX9_sold 130 = .ok (.iload 8, 2) := by decide +kernel
theorem dX9_sold_132 : decode cX9_sold 132 = .ok (.iaload, 1) := by decide +kernel
theorem dX9_sold_133 : decode cX9_sold 133 = .ok (.iload 6, 2) := by decide +kernel
theorem dX9_sold_135 : decode cX9_sold 135 = .ok (.iadd, 1) := by decide +kernel
theorem dX9_sold_136 : decode cX9_sold 136 = .ok (.invokestatic 130, 3) := by decide +kernel
theorem dX9_sold_139 : decode cX9_sold 139 = .ok (.iastore, 1) := by decide +kernel
theorem dX9_sold_140 : decode cX9_sold 140 = .ok (.aload_n 0, 1) := by decide +kernel
theorem dX9_sold_141 : decode cX9_sold 141 = .ok (.getfield 62, 3) := by decide +kernel
theorem dX9_sold_144 : decode cX9_sold 144 = .ok (.iload 8, 2) := by decide +kernel
theorem dX9_sold_146 : decode cX9_sold 146 = .ok (.aload_n 0, 1) := by decide +kernel
theorem dX9_sold_147 : decode cX9_sold 147 = .ok (.getfield 62, 3) := by decide +kernel
theorem dX9_sold_150 : decode cX9_sold 150 = .ok (.iload 8, 2) := by decide +kernel
theorem dX9_sold_152 : decode cX9_sold 152 = .ok (.iaload, 1) := by decide +kernel
theorem dX9_sold_153 : decode cX9_sold 153 = .ok (.aload_n 0, 1) := by decide +kernel
theorem dX9_sold_154 : decode cX9_sold 154 = .ok (.getfield 62, 3) := by decide +kernel
theorem dX9_sold_157 : decode cX9_sold 157 = .ok (.iload 7, 2) := by decide +kernel
theorem dX9_sold_159 : decode cX9_sold 159 = .ok (.iaload, 1) := by decide +kernel
theorem dX9_sold_160 : decode cX9_sold 160 = .ok (.iload 6, 2) := by decide +kernel
theorem dX9_sold_162 : decode cX9_sold 162 = .ok (.iadd, 1) := by decide +kernel
theorem dX9_sold_163 : decode cX9_sold 163 = .ok (.invokestatic 130, 3) := by decide +kernel
theorem dX9_sold_166 : decode cX9_sold 166 = .ok (.iastore, 1) := by decide +kernel
theorem dX9_sold_167 : decode cX9_sold 167 = .ok (.iinc 5 1, 3) := by decide +kernel
theorem dX9_sold_170 : decode cX9_sold 170 = .ok (.goto (-100), 3) := by decide +kernel
theorem dX9_sold_173 : decode cX9_sold 173 = .ok (.iinc 4 1, 3) := by decide +kernel
theorem dX9_sold_176 : decode cX9_sold 176 = .ok (.goto (-118), 3) := by decide +kernel
theorem dX9_sold_179 : decode cX9_sold 179 = .ok (.aload_n 0, 1) := by decide +kernel
theorem dX9_sold_180 : decode cX9_sold 180 = .ok (.getfield 62, 3) := by decide +kernel
theorem dX9_sold_183 : decode cX9_sold 183 = .ok (.iload_n 2, 1) := by decide +kernel
theorem dX9_sold_184 : decode cX9_sold 184 = .ok (.iaload, 1) := by decide +kernel
theorem dX9_sold_185 : decode cX9_sold 185 = .ok (.ldc_w 301, 3) := by decide +kernel
theorem dX9_sold_188 : decode cX9_sold 188 = .ok (.if_icmp .lt 7, 3) := by decide +kernel
theorem dX9_sold_191 : decode cX9_sold 191 = .ok (.iconst (-1), 1) := by decide +kernel
theorem dX9_sold_192 : decode cX9_sold 192 = .ok (.goto 9, 3) := by decide +kernel
theorem dX9_sold_195 : decode cX9_sold 195 = .ok (.aload_n 0, 1) := by decide +kernel
theorem dX9_sold_196 : decode cX9_sold 196 = .ok (.getfield 62, 3) := by decide +kernel
theorem dX9_sold_199 : decode cX9_sold 199 = .ok (.iload_n 2, 1) := by decide +kernel
theorem dX9_sold_200 : decode cX9_sold 200 = .ok (.iaload, 1) := by decide +kernel
