theorem dX8_mountain_39 : decode cX8_mountain 39 = .ok (.getfield 31, 3) := by decide +kernel
theorem dX8_mountain_42 : decode cX8_mountain 42 = .ok (.putfield 27, 3) := by decide +kernel
theorem dX8_mountain_45 : decode cX8_mountain 45 = .ok (.aload_n 0, 1) := by decide +kernel
theorem dX8_mountain_46 : decode cX8_mountain 46 = .ok (.aload_n 2, 1) := by decide +kernel
theorem dX8_mountain_47 : decode cX8_mountain 47 = .ok (.putfield 31, 3) := by decide +kernel
theorem dX8_mountain_50 : decode cX8_mountain 50 = .ok (.aload_n 0, 1) := by decide +kernel
theorem dX8_mountain_51 : decode cX8_mountain 51 = .ok (.getfield 27, 3) := by decide +kernel
theorem dX8_mountain_54 : decode cX8_mountain 54 = .ok (.getfield 95, 3) := by decide +kernel
theorem dX8_mountain_57 : decode cX8_mountain 57 = .ok (.ireturn, 1) := by decide +kernel
theorem dX8_fault_0 : decode cX8_fault 0 = .ok (.iload_n 1, 1) := by decide +kernel
theorem dX8_fault_1 : decode cX8_fault 1 = .ok (.ifCond .ne 11, 3) := by decide +kernel
theorem dX8_fault_4 : decode cX8_fault 4 = .ok (.aload_n 0, 1) := by decide +kernel
theorem dX8_fault_5 : decode cX8_fault 5 = .ok (.getfield 20, 3) := by decide +kernel
theorem dX8_fault_8 : decode cX8_fault 8 = .ok (.getfield 98, 3) := by decide +kernel
theorem dX8_fault_11 : decode cX8_fault 11 = .ok (.ireturn, 1) := by decide +kernel
theorem dX8_fault_12 : decode cX8_fault 12 = .ok (.iload_n 1, 1) := by decide +kernel
theorem dX8_fault_13 : decode cX8_fault 13 = .ok (.iconst 1, 1) := by decide +kernel
theorem dX8_fault_14 : decode cX8_fault 14 = .ok (.if_icmp .ne 13, 3) := by decide +kernel
theorem dX8_fault_17 : decode cX8_fault 17 = .ok (.aload_n 0, 1) := by decide +kernel
theorem dX8_fault_18 : decode cX8_fault 18 = .ok (.getfield 20, 3) := by decide +kernel
theorem dX8_fault_21 : decode cX8_fault 21 = .ok (.getfield 101, 3) := by decide +kernel
theorem dX8_fault_24 : decode cX8_fault 24 = .ok (.goto 4, 3) := by decide +kernel
theorem dX8_fault_27 : decode cX8_fault 27 = .ok (.iconst (-1), 1) := by decide +kernel
theorem dX8_fault_28 : decode cX8_fault 28 = .ok (.ireturn, 1) := by decide +kernel
theorem dX8_path_0 : decode cX8_path 0 = .ok (.aload_n 0, 1) := by decide +kernel
theorem dX8_path_1 : decode cX8_path 1 = .ok (.getfield 27, 3) := by decide +kernel
theorem dX8_path_4 : decode cX8_path 4 = .ok (.iload_n 1, 1) := by decide +kernel
theorem dX8_path_5 : decode cX8_path 5 = .ok (.invokevirtual 104, 3) := by decide +kernel
theorem dX8_path_8 : decode cX8_path 8 = .ok (.ifCond .ne 6, 3) := by decide +kernel
theorem dX8_path_11 : decode cX8_path 11 = .ok (.bipush (-2), 2) := by decide +kernel
theorem dX8_path_13 : decode cX8_path 13 = .ok (.ireturn, 1) := by decide +kernel
theorem dX8_path_14 : decode cX8_path 14 = .ok (.iload_n 2, 1) := by decide +kernel
theorem dX8_path_15 : decode cX8_path 15 = .ok (.tableswitch 54 0 2 #[25, 35, 45], 25) := by decide +kernel
theorem dX8_path_40 : decode cX8_path 40 = .ok (.aload_n 0, 1) := by decide +kernel
theorem dX8_path_41 : decode cX8_path 41 = .ok (.getfield 27, 3) := by decide +kernel
theorem dX8_path_44 : decode cX8_path 44 = .ok (.getfield 108, 3) := by decide +kernel
theorem dX8_path_47 : decode cX8_path 47 = .ok (.iload_n 1, 1) := by decide +kernel
theorem dX8_path_48 : decode cX8_path 48 = .ok (.iaload, 1) := by decide +kernel
theorem dX8_path_49 : decode cX8_path 49 = .ok (.ireturn, 1) := by decide +kernel
theorem dX8_path_50 : decode cX8_path 50 = .ok (.aload_n 0, 1) := by decide +kernel
theorem dX8_path_51 : decode cX8_path 51 = .ok (.getfield 27, 3) := by decide +kernel
theorem dX8_path_54 : decode cX8_path 54 = .ok (.getfield 111, 3) := by decide +kernel
theorem dX8_path_57 : decode cX8_path 57 = .ok (.iload_n 1, 1) := by decide +kernel
theorem dX8_path_58 : decode cX8_path 58 = .ok (.iaload, 1) := by decide +kernel
theorem dX8_path_59 : decode cX8_path 59 = .ok (.ireturn, 1) := by decide +kernel
theorem dX8_path_60 : decode cX8_path 60 = .ok (.aload_n 0, 1) := by decide +kernel
theorem dX8_path_61 : decode cX8_path 61 = .ok (.getfield 27, 3) := by decide +kernel
theorem dX8_path_64 : decode cX8_path 64 = .ok (.iload_n 1, 1) := by decide +kernel
theorem dX8_path_65 : decode cX8_path 65 = .ok (.invokevirtual 114, 3) := by decide +kernel
theorem dX8_path_68 : decode cX8_path 68 = .ok (.ireturn, 1) := by decide +kernel
theorem dX8_path_69 : decode cX8_path 69 = .ok (.bipush (-2), 2) := by decide +kernel
theorem dX8_path_71 : decode cX8_path 71 = .ok (.ireturn, 1) := by decide +kernel
theorem dX8_court_0 : decode cX8_court 0 = .ok (.aload_n 0, 1) := by decide +kernel
theorem dX8_court_1 : decode cX8_court 1 = .ok (.getfield 27, 3) := by decide +kernel
theorem dX8_court_4 : decode cX8_court 4 = .ok (.iload_n 1, 1) := by decide +kernel
theorem dX8_court_5 : decode cX8_court 5 = .ok (.invokevirtual 118, 3) := by decide +kernel
theorem dX8_court_8 : decode cX8_court 8 = .ok (.ifCond .eq 20, 3) := by decide +kernel
theorem dX8_court_11 : decode cX8_court 11 = .ok (.iload_n 2, 1) := by decide +kernel
theorem dX8_court_12 : decode cX8_court 12 = .ok (.iconst (-1), 1) := by decide +kernel
theorem dX8_court_13 : decode cX8_court 13 = .ok (.if_icmp .eq 18, 3) := by decide +kernel
theorem dX8_court_16 : decode cX8_court 16 = .ok (.aload_n 0, 1) := by decide +kernel
theorem dX8_court_17 : decode cX8_court 17 = .ok (.getfield 27, 3) := by decide +kernel
theorem dX8_court_20 : decode cX8_court 20 = .ok (.iload_n 1, 1) := by decide +kernel
theorem dX8_court_21 : decode cX8_court 21 = .ok (.iload_n 2, 1) := by decide +kernel
theorem dX8_court_22 : decode cX8_court 22 = .ok (.invokevirtual 121, 3) := by decide +kernel
theorem dX8_court_25 : decode cX8_court 25 = .ok (.ifCond .ne 6, 3) := by decide +kernel
theorem dX8_court_28 : decode cX8_court 28 = .ok (.bipush (-2), 2) := by decide +kernel
theorem dX8_court_30 : decode cX8_court 30 = .ok (.ireturn, 1) := by decide +kernel
theorem dX8_court_31 : decode cX8_court 31 = .ok (.aload_n 0, 1) := by decide +kernel
theorem dX8_court_32 : decode cX8_court 32 = .ok (.getfield 27, 3) := by decide +kernel
theorem dX8_court_35 : decode cX8_court 35 = .ok (.getfield 125, 3) := by decide +kernel
theorem dX8_court_38 : decode cX8_court 38 = .ok (.iload_n 1, 1) := by decide +kernel
theorem dX8_court_39 : decode cX8_court 39 = .ok (.iaload, 1) := by decide +kernel
theorem dX8_court_40 : decode cX8_court 40 = .ok (.istore_n 3, 1) := by decide +kernel
theorem dX8_court_41 : decode cX8_court 41 = .ok (.aload_n 0, 1) := by decide +kernel
theorem dX8_court_42 : decode cX8_court 42 = .ok (.getfield 27, 3) := by decide +kernel
theorem dX8_court_45 : decode cX8_court 45 = .ok (.getfield 125, 3) := by decide +kernel
theorem dX8_court_48 : decode cX8_court 48 = .ok (.iload_n 1, 1) := by decide +kernel
theorem dX8_court_49 : decode cX8_court 49 = .ok (.iload_n 2, 1) := by decide +kernel
theorem dX8_court_50 : decode cX8_court 50 = .ok (.iastore, 1) := by decide +kernel
theorem dX8_court_51 : decode cX8_court 51 = .ok (.iload_n 3, 1) := by decide +kernel
theorem dX8_court_52 : decode cX8_court 52 = .ok (.ireturn, 1) := by decide +kernel
theorem dX8_bride_0 : decode cX8_bride 0 = .ok (.aload_n 0, 1) := by decide +kernel
theorem dX8_bride_1 : decode cX8_bride 1 = .ok (.getfield 27, 3) := by decide +kernel
theorem dX8_bride_4 : decode cX8_bride 4 = .ok (.iload_n 1, 1) := by decide +kernel
theorem dX8_bride_5 : decode cX8_bride 5 = .ok (.invokevirtual 128, 3) := by decide +kernel
theorem dX8_bride_8 : decode cX8_bride 8 = .ok (.ifCond .ne 6, 3) := by decide +kernel
theorem dX8_bride_11 : decode cX8_bride 11 = .ok (.bipush (-2), 2) := by decide +kernel
theorem dX8_bride_13 : decode cX8_bride 13 = .ok (.ireturn, 1) := by decide +kernel
theorem dX8_bride_14 : decode cX8_bride 14 = .ok (.iload_n 2, 1) := by decide +kernel
theorem dX8_bride_15 : decode cX8_bride 15 = .ok (.tableswitch 81 0 3 #[29, 39, 49, 65], 29) := by decide +kernel
theorem dX8_bride_44 : decode cX8_bride 44 = .ok (.aload_n 0, 1) := by decide +kernel
theorem dX8_bride_45 : decode cX8_bride 45 = .ok (.getfield 27, 3) := by decide +kernel
theorem dX8_bride_48 : decode cX8_bride 48 = .ok (.getfield 131, 3) := by decide +kernel
theorem dX8_bride_51 : decode cX8_bride 51 = .ok (.iload_n 1, 1) := by decide +kernel
theorem dX8_bride_52 : decode cX8_bride 52 = .ok (.iaload, 1) := by decide +kernel
theorem dX8_bride_53 : decode cX8_bride 53 = .ok (.ireturn, 1) := by decide +kernel
theorem dX8_bride_54 : decode cX8_bride 54 = .ok (.aload_n 0, 1) := by decide +kernel
theorem dX8_bride_55 : decode cX8_bride 55 = .ok (.getfield 27, 3) := by decide +kernel
theorem dX8_bride_58 : decode cX8_bride 58 = .ok (.getfield 134, 3) := by decide +kernel
theorem dX8_bride_61 : decode cX8_bride 61 = .ok (.iload_n 1, 1) := by decide +kernel
theorem dX8_bride_62 : decode cX8_bride 62 = .ok (.iaload, 1) := by decide +kernel
theorem dX8_bride_63 : decode cX8_bride 63 = .ok (.ireturn, 1) := by decide +kernel
theorem dX8_bride_64 : decode cX8_bride 64 = .ok (.aload_n 0, 1) := by decide +kernel
theorem dX8_bride_65 : decode cX8_bride 65 = .ok (.getfield 27, 3) := by decide +kernel
theorem dX8_bride_68 : decode cX8_bride 68 = .ok (.aload_n 0, 1) := by decide +kernel
theorem dX8_bride_69 : decode cX8_bride 69 = .ok (.getfield 27, 3) := by decide +kernel
theorem dX8_bride_72 : decode cX8_bride 72 = .ok (.getfield 125, 3) := by decide +kernel
theorem dX8_bride_75 : decode cX8_bride 75 = .ok (.iload_n 1, 1) := by decide +kernel
theorem dX8_bride_76 : decode cX8_bride 76 = .ok (.invokevirtual 137, 3) := by decide +kernel
theorem dX8_bride_79 : decode cX8_bride 79 = .ok (.ireturn, 1) := by decide +kernel
theorem dX8_bride_80 : decode cX8_bride 80 = .ok (.aload_n 0, 1) := by decide +kernel
theorem dX8_bride_81 : decode cX8_bride 81 = .ok (.getfield 27, 3) := by decide +kernel
theorem dX8_bride_84 : decode cX8_bride 84 = .ok (.aload_n 0, 1) := by decide +kernel
theorem dX8_bride_85 : decode cX8_bride 85 = .ok (.getfield 27, 3) := by decide +kernel
theorem dX8_bride_88 : decode cX8_bride 88 = .ok (.getfield 125, 3) := by decide +kernel
theorem dX8_bride_91 : decode cX8_bride 91 = .ok (.iload_n 1, 1) := by decide +kernel
theorem dX8_bride_92 : decode cX8_bride 92 = .ok (.invokevirtual 141, 3) := by decide +kernel
theorem dX8_bride_95 : decode cX8_bride 95 = .ok (.ireturn, 1) := by decide +kernel
theorem dX8_bride_96 : decode cX8_bride 96 = .ok (.bipush (-2), 2) := by decide +kernel
theorem dX8_bride_98 : decode cX8_bride 98 = .ok (.ireturn, 1) := by decide +kernel
theorem dX8_suitor_0 : decode cX8_suitor 0 = .ok (.aload_n 0, 1) := by decide +kernel
theorem dX8_suitor_1 : decode cX8_suitor 1 = .ok (.getfield 27, 3) := by decide +kernel
theorem dX8_suitor_4 : decode cX8_suitor 4 = .ok (.iload_n 1, 1) := by decide +kernel
theorem dX8_suitor_5 : decode cX8_suitor 5 = .ok (.invokevirtual 118, 3) := by decide +kernel
theorem dX8_suitor_8 : decode cX8_suitor 8 = .ok (.ifCond .ne 6, 3) := by decide +kernel
theorem dX8_suitor_11 : decode cX8_suitor 11 = .ok (.bipush (-2), 2) := by decide +kernel
theorem dX8_suitor_13 : decode cX8_suitor 13 = .ok (.ireturn, 1) := by decide +kernel
theorem dX8_suitor_14 : decode cX8_suitor 14 = .ok (.iload_n 2, 1) := by decide +kernel
theorem dX8_suitor_15 : decode cX8_suitor 15 = .ok (.tableswitch 97 0 4 #[33, 43, 53, 63, 73], 33) := by decide +kernel
theorem dX8_suitor_48 : decode cX8_suitor 48 = .ok (.aload_n 0, 1) := by decide +kernel
theorem dX8_suitor_49 : decode cX8_suitor 49 = .ok (.getfield 27, 3) := by decide +kernel
theorem dX8_suitor_52 : decode cX8_suitor 52 = .ok (.getfield 144, 3) := by decide +kernel
theorem dX8_suitor_55 : decode cX8_suitor 55 = .ok (.iload_n 1, 1) := by decide +kernel
theorem dX8_suitor_56 : decode cX8_suitor 56 = .ok (.iaload, 1) := by decide +kernel
theorem dX8_suitor_57 : decode cX8_suitor 57 = .ok (.ireturn, 1) := by decide +kernel
theorem dX8_suitor_58 : decode cX8_suitor 58 = .ok (.aload_n 0, 1) := by decide +kernel
theorem dX8_suitor_59 : decode cX8_suitor 59 = .ok (.getfield 27, 3) := by decide +kernel
theorem dX8_suitor_62 : decode cX8_suitor 62 = .ok (.getfield 147, 3) := by decide +kernel
theorem dX8_suitor_65 : decode cX8_suitor 65 = .ok (.iload_n 1, 1) := by decide +kernel
theorem dX8_suitor_66 : decode cX8_suitor 66 = .ok (.iaload, 1) := by decide +kernel
theorem dX8_suitor_67 : decode cX8_suitor 67 = .ok (.ireturn, 1) := by decide +kernel
theorem dX8_suitor_68 : decode cX8_suitor 68 = .ok (.aload_n 0, 1) := by decide +kernel
theorem dX8_suitor_69 : decode cX8_suitor 69 = .ok (.getfield 27, 3) := by decide +kernel
theorem dX8_suitor_72 : decode cX8_suitor 72 = .ok (.getfield 150, 3) := by decide +kernel
theorem dX8_suitor_75 : decode cX8_suitor 75 = .ok (.iload_n 1, 1) := by decide +kernel
theorem dX8_suitor_76 : decode cX8_suitor 76 = .ok (.iaload, 1) := by decide +kernel
theorem dX8_suitor_77 : decode cX8_suitor 77 = .ok (.ireturn, 1) := by decide +kernel
theorem dX8_suitor_78 : decode cX8_suitor 78 = .ok (.aload_n 0, 1) := by decide +kernel
theorem dX8_suitor_79 : decode cX8_suitor 79 = .ok (.getfield 27, 3) := by decide +kernel
theorem dX8_suitor_82 : decode cX8_suitor 82 = .ok (.getfield 125, 3) := by decide +kernel
theorem dX8_suitor_85 : decode cX8_suitor 85 = .ok (.iload_n 1, 1) := by decide +kernel
theorem dX8_suitor_86 : decode cX8_suitor 86 = .ok (.iaload, 1) := by decide +kernel
theorem dX8_suitor_87 : decode cX8_suitor 87 = .ok (.ireturn, 1) := by decide +kernel
theorem dX8_suitor_88 : decode cX8_suitor 88 = .ok (.aload_n 0, 1) := by decide +kernel
theorem dX8_suitor_89 : decode cX8_suitor 89 = .ok (.getfield 27, 3) := by decide +kernel
theorem dX8_suitor_92 : decode cX8_suitor 92 = .ok (.aload_n 0, 1) := by decide +kernel
theorem dX8_suitor_93 : decode cX8_suitor 93 = .ok (.getfield 27, 3) := by decide +kernel
theorem dX8_suitor_96 : decode cX8_suitor 96 = .ok (.getfield 125, 3) := by decide +kernel
theorem dX8_suitor_99 : decode cX8_suitor 99 = .ok (.iload_n 1, 1) := by decide +kernel
theorem dX8_suitor_100 : decode cX8_suitor 100 = .ok (.invokevirtual 153, 3) := by decide +kernel
theorem dX8_suitor_103 : decode cX8_suitor 103 = .ok (.ifCond .eq 7, 3) := by decide +kernel
theorem dX8_suitor_106 : decode cX8_suitor 106 = .ok (.iconst 1, 1) := by decide +kernel
theorem dX8_suitor_107 : decode cX8_suitor 107 = .ok (.goto 4, 3) := by decide +kernel
theorem dX8_suitor_110 : decode cX8_suitor 110 = .ok (.iconst 0, 1) := by decide +kernel
theorem dX8_suitor_111 : decode cX8_suitor 111 = .ok (.ireturn, 1) := by decide +kernel
theorem dX8_suitor_112 : decode cX8_suitor 112 = .ok (.bipush (-2), 2) := by decide +kernel
theorem dX8_suitor_114 : decode cX8_suitor 114 = .ok (.ireturn, 1) := by decide +kernel
theorem dX8_hearts_0 : decode cX8_hearts 0 = .ok (.aload_n 0, 1) := by decide +kernel
theorem dX8_hearts_1 : decode cX8_hearts 1 = .ok (.getfield 27, 3) := by decide +kernel
theorem dX8_hearts_4 : decode cX8_hearts 4 = .ok (.invokevirtual 157, 3) := by decide +kernel
theorem dX8_hearts_7 : decode cX8_hearts 7 = .ok (.ifCond .ne 6, 3) := by decide +kernel
theorem dX8_hearts_10 : decode cX8_hearts 10 = .ok (.bipush (-2), 2) := by decide +kernel
theorem dX8_hearts_12 : decode cX8_hearts 12 = .ok (.ireturn, 1) := by decide +kernel
theorem dX8_hearts_13 : decode cX8_hearts 13 = .ok (.iconst 0, 1) := by decide +kernel
theorem dX8_hearts_14 : decode cX8_hearts 14 = .ok (.istore_n 1, 1) := by decide +kernel
theorem dX8_hearts_15 : decode cX8_hearts 15 = .ok (.iconst 0, 1) := by decide +kernel
theorem dX8_hearts_16 : decode cX8_hearts 16 = .ok (.istore_n 2, 1) := by decide +kernel
theorem dX8_hearts_17 : decode cX8_hearts 17 = .ok (.iload_n 2, 1) := by decide +kernel
theorem dX8_hearts_18 : decode cX8_hearts 18 = .ok (.aload_n 0, 1) := by decide +kernel
theorem dX8_hearts_19 : decode cX8_hearts 19 = .ok (.getfield 27, 3) := by decide +kernel
theorem dX8_hearts_22 : decode cX8_hearts 22 = .ok (.getfield 161, 3) := by decide +kernel
theorem dX8_hearts_25 : decode cX8_hearts 25 = .ok (.if_icmp .ge 30, 3) := by decide +kernel
theorem dX8_hearts_28 : decode cX8_hearts 28 = .ok (.aload_n 0, 1) := by decide +kernel
theorem dX8_hearts_29 : decode cX8_hearts 29 = .ok (.getfield 27, 3) := by decide +kernel
theorem dX8_hearts_32 : decode cX8_hearts 32 = .ok (.aload_n 0, 1) := by decide +kernel
theorem dX8_hearts_33 : decode cX8_hearts 33 = .ok (.getfield 27, 3) := by decide +kernel
theorem dX8_hearts_36 : decode cX8_hearts 36 = .ok (.getfield 125, 3) := by decide +kernel
theorem dX8_hearts_39 : decode cX8_hearts 39 = .ok (.iload_n 2, 1) := by decide +kernel
theorem dX8_hearts_40 : decode cX8_hearts 40 = .ok (.invokevirtual 153, 3) := by decide +kernel
theorem dX8_hearts_43 : decode cX8_hearts 43 = .ok (.ifCond .eq 6, 3) := by decide +kernel
theorem dX8_hearts_46 : decode cX8_hearts 46 = .ok (.iinc 1 1, 3) := by decide +kernel
theorem dX8_hearts_49 : decode cX8_hearts 49 = .ok (.iinc 2 1, 3) := by decide +kernel
theorem dX8_hearts_52 : decode cX8_hearts 52 = .ok (.goto (-35), 3) := by decide +kernel
theorem dX8_hearts_55 : decode cX8_hearts 55 = .ok (.iload_n 1, 1) := by decide +kernel
theorem dX8_hearts_56 : decode cX8_hearts 56 = .ok (.ireturn, 1) := by decide +kernel
theorem dX8_knowsPath_0 : decode cX8_knowsPath 0 = .ok (.aload_n 0, 1) := by decide +kernel
theorem dX8_knowsPath_1 : decode cX8_knowsPath 1 = .ok (.getfield 27, 3) := by decide +kernel
theorem dX8_knowsPath_4 : decode cX8_knowsPath 4 = .ok (.iload_n 1, 1) := by decide +kernel
theorem dX8_knowsPath_5 : decode cX8_knowsPath 5 = .ok (.invokevirtual 104, 3) := by decide +kernel
theorem dX8_knowsPath_8 : decode cX8_knowsPath 8 = .ok (.ifCond .eq 18, 3) := by decide +kernel
theorem dX8_knowsPath_11 : decode cX8_knowsPath 11 = .ok (.aload_n 0, 1) := by decide +kernel
theorem dX8_knowsPath_12 : decode cX8_knowsPath 12 = .ok (.getfield 27, 3) := by decide +kernel
theorem dX8_knowsPath_15 : decode cX8_knowsPath 15 = .ok (.iload_n 2, 1) := by decide +kernel
theorem dX8_knowsPath_16 : decode cX8_knowsPath 16 = .ok (.invokevirtual 164, 3) := by decide +kernel
theorem dX8_knowsPath_19 : decode cX8_knowsPath 19 = .ok (.ifCond .eq 7, 3) := by decide +kernel
theorem dX8_knowsPath_22 : decode cX8_knowsPath 22 = .ok (.iconst 1, 1) := by decide +kernel
theorem dX8_knowsPath_23 : decode cX8_knowsPath 23 = .ok (.goto 4, 3) := by decide +kernel
theorem dX8_knowsPath_26 : decode cX8_knowsPath 26 = .ok (.iconst 0, 1) := by decide +kernel
theorem dX8_knowsPath_27 : decode cX8_knowsPath 27 = .ok (.ireturn, 1) := by decide +kernel
theorem dX8_steps_0 : decode cX8_steps 0 = .ok (.aload_n 0, 1) := by decide +kernel
theorem dX8_steps_1 : decode cX8_steps 1 = .ok (.iload_n 1, 1) := by decide +kernel
theorem dX8_steps_2 : decode cX8_steps 2 = .ok (.iload_n 2, 1) := by decide +kernel
theorem dX8_steps_3 : decode cX8_steps 3 = .ok (.invokevirtual 167, 3) := by decide +kernel
theorem dX8_steps_6 : decode cX8_steps 6 = .ok (.ifCond .eq 16, 3) := by decide +kernel
theorem dX8_steps_9 : decode cX8_steps 9 = .ok (.aload_n 0, 1) := by decide +kernel
theorem dX8_steps_10 : decode cX8_steps 10 = .ok (.getfield 27, 3) := by decide +kernel
theorem dX8_steps_13 : decode cX8_steps 13 = .ok (.iload_n 1, 1) := by decide +kernel
theorem dX8_steps_14 : decode cX8_steps 14 = .ok (.iload_n 2, 1) := by decide +kernel
theorem dX8_steps_15 : decode cX8_steps 15 = .ok (.iconst (-1), 1) := by decide +kernel
theorem dX8_steps_16 : decode cX8_steps 16 = .ok (.invokevirtual 170, 3) := by decide +kernel
theorem dX8_steps_19 : decode cX8_steps 19 = .ok (.goto 5, 3) := by decide +kernel
theorem dX8_steps_22 : decode cX8_steps 22 = .ok (.bipush (-2), 2) := by decide +kernel
theorem dX8_steps_24 : decode cX8_steps 24 = .ok (.ireturn, 1) := by decide +kernel
theorem dX8_whose_0 : decode cX8_whose 0 = .ok (.aload_n 0, 1) := by decide +kernel
theorem dX8_whose_1 : decode cX8_whose 1 = .ok (.iload_n 1, 1) := by decide +kernel
theorem dX8_whose_2 : decode cX8_whose 2 = .ok (.iload_n 2, 1) := by decide +kernel
theorem dX8_whose_3 : decode cX8_whose 3 = .ok (.invokevirtual 167, 3) := by decide +kernel
theorem dX8_whose_6 : decode cX8_whose 6 = .ok (.ifCond .ne 6, 3) := by decide +kernel
theorem dX8_whose_9 : decode cX8_whose 9 = .ok (.bipush (-2), 2) := by decide +kernel
theorem dX8_whose_11 : decode cX8_whose 11 = .ok (.ireturn, 1) := by decide +kernel
theorem dX8_whose_12 : decode cX8_whose 12 = .ok (.iconst 0, 1) := by decide +kernel
theorem dX8_whose_13 : decode cX8_whose 13 = .ok (.istore 4, 2) := by decide +kernel
theorem dX8_whose_15 : decode cX8_whose 15 = .ok (.iconst 0, 1) := by decide +kernel
theorem dX8_whose_16 : decode cX8_whose 16 = .ok (.istore 5, 2) := by decide +kernel
theorem dX8_whose_18 : decode cX8_whose 18 = .ok (.iload 5, 2) := by decide +kernel
theorem dX8_whose_20 : decode cX8_whose 20 = .ok (.aload_n 0, 1) := by decide +kernel
theorem dX8_whose_21 : decode cX8_whose 21 = .ok (.getfield 27, 3) := by decide +kernel
theorem dX8_whose_24 : decode cX8_whose 24 = .ok (.getfield 161, 3) := by decide +kernel
theorem dX8_whose_27 : decode cX8_whose 27 = .ok (.if_icmp .ge 35, 3) := by decide +kernel
theorem dX8_whose_30 : decode cX8_whose 30 = .ok (.aload_n 0, 1) := by decide +kernel
theorem dX8_whose_31 : decode cX8_whose 31 = .ok (.getfield 27, 3) := by decide +kernel
theorem dX8_whose_34 : decode cX8_whose 34 = .ok (.iload 5, 2) := by decide +kernel
theorem dX8_whose_36 : decode cX8_whose 36 = .ok (.iload_n 1, 1) := by decide +kernel
theorem dX8_whose_37 : decode cX8_whose 37 = .ok (.iload_n 2, 1) := by decide +kernel
theorem dX8_whose_38 : decode cX8_whose 38 = .ok (.invokevirtual 174, 3) := by decide +kernel
theorem dX8_whose_41 : decode cX8_whose 41 = .ok (.ifCond .eq 15, 3) := by decide +kernel
theorem dX8_whose_44 : decode cX8_whose 44 = .ok (.iload 4, 2) := by decide +kernel
theorem dX8_whose_46 : decode cX8_whose 46 = .ok (.iload_n 3, 1) := by decide +kernel
theorem dX8_whose_47 : decode cX8_whose 47 = .ok (.if_icmp .ne 6, 3) := by decide +kernel
theorem dX8_whose_50 : decode cX8_whose 50 = .ok (.iload 5, 2) := by decide +kernel
theorem dX8_whose_52 : decode cX8_whose 52 = .ok (.ireturn, 1) := by decide +kernel
theorem dX8_whose_53 : decode cX8_whose 53 = .ok (.iinc 4 1, 3) := by decide +kernel
theorem dX8_whose_56 : decode cX8_whose 56 = .ok (.iinc 5 1, 3) := by decide +kernel
theorem dX8_whose_59 : decode cX8_whose 59 = .ok (.goto (-41), 3) := by decide +kernel
theorem dX8_whose_62 : decode cX8_whose 62 = .ok (.iconst (-1), 1) := by decide +kernel
theorem dX8_whose_63 : decode cX8_whose 63 = .ok (.ireturn, 1) := by decide +kernel
theorem dX8_leap_0 : decode cX8_leap 0 = .ok (.aload_n 0, 1) := by decide +kernel
theorem dX8_leap_1 : decode cX8_leap 1 = .ok (.iload_n 1, 1) := by decide +kernel
theorem dX8_leap_2 : decode cX8_leap 2 = .ok (.iload_n 2, 1) := by decide +kernel
theorem dX8_leap_3 : decode cX8_leap 3 = .ok (.invokevirtual 167, 3) := by decide +kernel
theorem dX8_leap_6 : decode cX8_leap 6 = .ok (.ifCond .eq 15, 3) := by decide +kernel
theorem dX8_leap_9 : decode cX8_leap 9 = .ok (.aload_n 0, 1) := by decide +kernel
theorem dX8_leap_10 : decode cX8_leap 10 = .ok (.getfield 27, 3) := by decide +kernel
theorem dX8_leap_13 : decode cX8_leap 13 = .ok (.iload_n 1, 1) := by decide +kernel
theorem dX8_leap_14 : decode cX8_leap 14 = .ok (.iload_n 2, 1) := by decide +kernel
theorem dX8_leap_15 : decode cX8_leap 15 = .ok (.invokevirtual 178, 3) := by decide +kernel
theorem dX8_leap_18 : decode cX8_leap 18 = .ok (.goto 5, 3) := by decide +kernel
theorem dX8_leap_21 : decode cX8_leap 21 = .ok (.bipush (-2), 2) := by decide +kernel
theorem dX8_leap_23 : decode cX8_leap 23 = .ok (.ireturn, 1) := by decide +kernel
theorem dX8_rots_0 : decode cX8_rots 0 = .ok (.aload_n 0, 1) := by decide +kernel
theorem dX8_rots_1 : decode cX8_rots 1 = .ok (.getfield 27, 3) := by decide +kernel
theorem dX8_rots_4 : decode cX8_rots 4 = .ok (.iload_n 1, 1) := by decide +kernel
theorem dX8_rots_5 : decode cX8_rots 5 = .ok (.invokevirtual 104, 3) := by decide +kernel
theorem dX8_rots_8 : decode cX8_rots 8 = .ok (.ifCond .ne 6, 3) := by decide +kernel
theorem dX8_rots_11 : decode cX8_rots 11 = .ok (.bipush (-2), 2) := by decide +kernel
theorem dX8_rots_13 : decode cX8_rots 13 = .ok (.ireturn, 1) := by decide +kernel
theorem dX8_rots_14 : decode cX8_rots 14 = .ok (.aload_n 0, 1) := by decide +kernel
theorem dX8_rots_15 : decode cX8_rots 15 = .ok (.getfield 27, 3) := by decide +kernel
theorem dX8_rots_18 : decode cX8_rots 18 = .ok (.getfield 182, 3) := by decide +kernel
theorem dX8_rots_21 : decode cX8_rots 21 = .ok (.iconst 1, 1) := by decide +kernel
theorem dX8_rots_22 : decode cX8_rots 22 = .ok (.isub, 1) := by decide +kernel
theorem dX8_rots_23 : decode cX8_rots 23 = .ok (.istore_n 2, 1) := by decide +kernel
theorem dX8_rots_24 : decode cX8_rots 24 = .ok (.iload_n 2, 1) := by decide +kernel
theorem dX8_rots_25 : decode cX8_rots 25 = .ok (.ifCond .lt 43, 3) := by decide +kernel
theorem dX8_rots_28 : decode cX8_rots 28 = .ok (.aload_n 0, 1) := by decide +kernel
theorem dX8_rots_29 : decode cX8_rots 29 = .ok (.getfield 27, 3) := by decide +kernel
theorem dX8_rots_32 : decode cX8_rots 32 = .ok (.iload_n 1, 1) := by decide +kernel
theorem dX8_rots_33 : decode cX8_rots 33 = .ok (.iload_n 2, 1) := by decide +kernel
theorem dX8_rots_34 : decode cX8_rots 34 = .ok (.iconst (-1), 1) := by decide +kernel
theorem dX8_rots_35 : decode cX8_rots 35 = .ok (.invokevirtual 170, 3) := by decide +kernel
theorem dX8_rots_38 : decode cX8_rots 38 = .ok (.ifCond .le 24, 3) := by decide +kernel
theorem dX8_rots_41 : decode cX8_rots 41 = .ok (.iload_n 2, 1) := by decide +kernel
theorem dX8_rots_42 : decode cX8_rots 42 = .ok (.aload_n 0, 1) := by decide +kernel
theorem dX8_rots_43 : decode cX8_rots 43 = .ok (.getfield 27, 3) := by decide +kernel
theorem dX8_rots_46 : decode cX8_rots 46 = .ok (.getfield 182, 3) := by decide +kernel
theorem dX8_rots_49 : decode cX8_rots 49 = .ok (.iconst 1, 1) := by decide +kernel
theorem dX8_rots_50 : decode cX8_rots 50 = .ok (.isub, 1) := by decide +kernel
theorem dX8_rots_51 : decode cX8_rots 51 = .ok (.if_icmp .ne 7, 3) := by decide +kernel
theorem dX8_rots_54 : decode cX8_rots 54 = .ok (.iconst (-1), 1) := by decide +kernel
theorem dX8_rots_55 : decode cX8_rots 55 = .ok (.goto 6, 3) := by decide +kernel
theorem dX8_rots_58 : decode cX8_rots 58 = .ok (.iload_n 2, 1) := by decide +kernel
theorem dX8_rots_59 : decode cX8_rots 59 = .ok (.iconst 1, 1) := by decide +kernel
theorem dX8_rots_60 : decode cX8_rots 60 = .ok (.iadd, 1) := by decide +kernel
theorem dX8_rots_61 : decode cX8_rots 61 = .ok (.ireturn, 1) := by decide +kernel
theorem dX8_rots_62 : decode cX8_rots 62 = .ok (.iinc 2 (-1), 3) := by decide +kernel
theorem dX8_rots_65 : decode cX8_rots 65 = .ok (.goto (-41), 3) := by decide +kernel
theorem dX8_rots_68 : decode cX8_rots 68 = .ok (.iconst (-1), 1) := by decide +kernel
theorem dX8_rots_69 : decode cX8_rots 69 = .ok (.ireturn, 1) := by decide +kernel
theorem dX8_lacks_0 : decode cX8_lacks 0 = .ok (.aload_n 0, 1) := by decide +kernel
theorem dX8_lacks_1 : decode cX8_lacks 1 = .ok (.iload_n 1, 1) := by decide +kernel
theorem dX8_lacks_2 : decode cX8_lacks 2 = .ok (.iload_n 2, 1) := by decide +kernel
theorem dX8_lacks_3 : decode cX8_lacks 3 = .ok (.invokevirtual 167, 3) := by decide +kernel
theorem dX8_lacks_6 : decode cX8_lacks 6 = .ok (.ifCond .eq 13, 3) := by decide +kernel
theorem dX8_lacks_9 : decode cX8_lacks 9 = .ok (.iload_n 3, 1) := by decide +kernel
theorem dX8_lacks_10 : decode cX8_lacks 10 = .ok (.ifCond .lt 9, 3) := by decide +kernel
theorem dX8_lacks_13 : decode cX8_lacks 13 = .ok (.iload_n 3, 1) := by decide +kernel
theorem dX8_lacks_14 : decode cX8_lacks 14 = .ok (.bipush 99, 2) := by decide +kernel
theorem dX8_lacks_16 : decode cX8_lacks 16 = .ok (.if_icmp .le 6, 3) := by decide +kernel
theorem dX8_lacks_19 : decode cX8_lacks 19 = .ok (.bipush (-2), 2) := by decide +kernel
theorem dX8_lacks_21 : decode cX8_lacks 21 = .ok (.ireturn, 1) := by decide +kernel
theorem dX8_lacks_22 : decode cX8_lacks 22 = .ok (.aload_n 0, 1) := by decide +kernel
theorem dX8_lacks_23 : decode cX8_lacks 23 = .ok (.getfield 27, 3) := by decide +kernel
theorem dX8_lacks_26 : decode cX8_lacks 26 = .ok (.iload_n 1, 1) := by decide +kernel
theorem dX8_lacks_27 : decode cX8_lacks 27 = .ok (.iload_n 2, 1) := by decide +kernel
theorem dX8_lacks_28 : decode cX8_lacks 28 = .ok (.iload_n 3, 1) := by decide +kernel
theorem dX8_lacks_29 : decode cX8_lacks 29 = .ok (.invokevirtual 185, 3) := by decide +kernel
theorem dX8_lacks_32 : decode cX8_lacks 32 = .ok (.ireturn, 1) := by decide +kernel
theorem dX8_safe_0 : decode cX8_safe 0 = .ok (.aload_n 0, 1) := by decide +kernel
theorem dX8_safe_1 : decode cX8_safe 1 = .ok (.iload_n 1, 1) := by decide +kernel
theorem dX8_safe_2 : decode cX8_safe 2 = .ok (.iload_n 2, 1) := by decide +kernel
theorem dX8_safe_3 : decode cX8_safe 3 = .ok (.invokevirtual 167, 3) := by decide +kernel
theorem dX8_safe_6 : decode cX8_safe 6 = .ok (.ifCond .eq 12, 3) := by decide +kernel
theorem dX8_safe_9 : decode cX8_safe 9 = .ok (.iload_n 3, 1) := by decide +kernel
theorem dX8_safe_10 : decode cX8_safe 10 = .ok (.ifCond .lt 8, 3) := by decide +kernel
theorem dX8_safe_13 : decode cX8_safe 13 = .ok (.iload_n 3, 1) := by decide +kernel
theorem dX8_safe_14 : decode cX8_safe 14 = .ok (.iconst 1, 1) := by decide +kernel
theorem dX8_safe_15 : decode cX8_safe 15 = .ok (.if_icmp .le 7, 3) := by decide +kernel
theorem dX8_safe_18 : decode cX8_safe 18 = .ok (.ldc2_w 188, 3) := by decide +kernel
theorem dX8_safe_21 : decode cX8_safe 21 = .ok (.lreturn, 1) := by decide +kernel
theorem dX8_safe_22 : decode cX8_safe 22 = .ok (.aload_n 0, 1) := by decide +kernel
theorem dX8_safe_23 : decode cX8_safe 23 = .ok (.getfield 27, 3) := by decide +kernel
theorem dX8_safe_26 : decode cX8_safe 26 = .ok (.ldc2_w 190, 3) := by decide +kernel
theorem dX8_safe_29 : decode cX8_safe 29 = .ok (.iload_n 1, 1) := by decide +kernel
theorem dX8_safe_30 : decode cX8_safe 30 = .ok (.iload_n 2, 1) := by decide +kernel
theorem dX8_safe_31 : decode cX8_safe 31 = .ok (.invokevirtual 192, 3) := by decide +kernel
theorem dX8_safe_34 : decode cX8_safe 34 = .ok (.iload_n 3, 1) := by decide +kernel
theorem dX8_safe_35 : decode cX8_safe 35 = .ok (.invokestatic 196, 3) := by decide +kernel
theorem dX8_safe_38 : decode cX8_safe 38 = .ok (.lreturn, 1) := by decide +kernel
theorem dX8_most_0 : decode cX8_most 0 = .ok (.aload_n 0, 1) := by decide +kernel
theorem dX8_most_1 : decode cX8_most 1 = .ok (.iload_n 1, 1) := by decide +kernel
theorem dX8_most_2 : decode cX8_most 2 = .ok (.iload_n 2, 1) := by decide +kernel
theorem dX8_most_3 : decode cX8_most 3 = .ok (.invokevirtual 167, 3) := by decide +kernel
theorem dX8_most_6 : decode cX8_most 6 = .ok (.ifCond .ne 6, 3) := by decide +kernel
theorem dX8_most_9 : decode cX8_most 9 = .ok (.bipush (-2), 2) := by decide +kernel
theorem dX8_most_11 : decode cX8_most 11 = .ok (.ireturn, 1) := by decide +kernel
theorem dX8_most_12 : decode cX8_most 12 = .ok (.iconst 0, 1) := by decide +kernel
theorem dX8_most_13 : decode cX8_most 13 = .ok (.istore_n 3, 1) := by decide +kernel
theorem dX8_most_14 : decode cX8_most 14 = .ok (.iconst 0, 1) := by decide +kernel
theorem dX8_most_15 : decode cX8_most 15 = .ok (.istore 4, 2) := by decide +kernel
theorem dX8_most_17 : decode cX8_most 17 = .ok (.iload 4, 2) := by decide +kernel
theorem dX8_most_19 : decode cX8_most 19 = .ok (.aload_n 0, 1) := by decide +kernel
theorem dX8_most_20 : decode cX8_most 20 = .ok (.getfield 27, 3) := by decide +kernel
theorem dX8_most_23 : decode cX8_most 23 = .ok (.getfield 161, 3) := by decide +kernel
theorem dX8_most_26 : decode cX8_most 26 = .ok (.if_icmp .ge 23, 3) := by decide +kernel
theorem dX8_most_29 : decode cX8_most 29 = .ok (.aload_n 0, 1) := by decide +kernel
theorem dX8_most_30 : decode cX8_most 30 = .ok (.iload 4, 2) := by decide +kernel
theorem dX8_most_32 : decode cX8_most 32 = .ok (.iload_n 1, 1) := by decide +kernel
theorem dX8_most_33 : decode cX8_most 33 = .ok (.iload_n 2, 1) := by decide +kernel
theorem dX8_most_34 : decode cX8_most 34 = .ok (.invokevirtual 200, 3) := by decide +kernel
theorem dX8_most_37 : decode cX8_most 37 = .ok (.ifCond .eq 6, 3) := by decide +kernel
theorem dX8_most_40 : decode cX8_most 40 = .ok (.iinc 3 1, 3) := by decide +kernel
theorem dX8_most_43 : decode cX8_most 43 = .ok (.iinc 4 1, 3) := by decide +kernel
theorem dX8_most_46 : decode cX8_most 46 = .ok (.goto (-29), 3) := by decide +kernel
theorem dX8_most_49 : decode cX8_most 49 = .ok (.iload_n 3, 1) := by decide +kernel
theorem dX8_most_50 : decode cX8_most 50 = .ok (.ireturn, 1) := by decide +kernel
theorem dX8_couldStep_0 : decode cX8_couldStep 0 = .ok (.iconst 0, 1) := by decide +kernel
theorem dX8_couldStep_1 : decode cX8_couldStep 1 = .ok (.istore 4, 2) := by decide +kernel
theorem dX8_couldStep_3 : decode cX8_couldStep 3 = .ok (.iload 4, 2) := by decide +kernel
theorem dX8_couldStep_5 : decode cX8_couldStep 5 = .ok (.aload_n 0, 1) := by decide +kernel
theorem dX8_couldStep_6 : decode cX8_couldStep 6 = .ok (.getfield 27, 3) := by decide +kernel
theorem dX8_couldStep_9 : decode cX8_couldStep 9 = .ok (.getfield 203, 3) := by decide +kernel
theorem dX8_couldStep_12 : decode cX8_couldStep 12 = .ok (.if_icmp .ge 39, 3) := by decide +kernel
theorem dX8_couldStep_15 : decode cX8_couldStep 15 = .ok (.aload_n 0, 1) := by decide +kernel
theorem dX8_couldStep_16 : decode cX8_couldStep 16 = .ok (.getfield 27, 3) := by decide +kernel
theorem dX8_couldStep_19 : decode cX8_couldStep 19 = .ok (.iload_n 1, 1) := by decide +kernel
theorem dX8_couldStep_20 : decode cX8_couldStep 20 = .ok (.iload 4, 2) := by decide +kernel
theorem dX8_couldStep_22 : decode cX8_couldStep 22 = .ok (.invokevirtual 121, 3) := by decide +kernel
theorem dX8_couldStep_25 : decode cX8_couldStep 25 = .ok (.ifCond .eq 20, 3) := by decide +kernel
theorem dX8_couldStep_28 : decode cX8_couldStep 28 = .ok (.aload_n 0, 1) := by decide +kernel
theorem dX8_couldStep_29 : decode cX8_couldStep 29 = .ok (.getfield 27, 3) := by decide +kernel
theorem dX8_couldStep_32 : decode cX8_couldStep 32 = .ok (.iload_n 1, 1) := by decide +kernel
theorem dX8_couldStep_33 : decode cX8_couldStep 33 = .ok (.iload 4, 2) := by decide +kernel
theorem dX8_couldStep_35 : decode cX8_couldStep 35 = .ok (.iload_n 2, 1) := by decide +kernel
theorem dX8_couldStep_36 : decode cX8_couldStep 36 = .ok (.iload_n 3, 1) := by decide +kernel
theorem dX8_couldStep_37 : decode cX8_couldStep 37 = .ok (.invokevirtual 206, 3) := by decide +kernel
theorem dX8_couldStep_40 : decode cX8_couldStep 40 = .ok (.ifCond .eq 5, 3) := by decide +kernel
theorem dX8_couldStep_43 : decode cX8_couldStep 43 = .ok (.iconst 1, 1) := by decide +kernel
theorem dX8_couldStep_44 : decode cX8_couldStep 44 = .ok (.ireturn, 1) := by decide +kernel
theorem dX8_couldStep_45 : decode cX8_couldStep 45 = .ok (.iinc 4 1, 3) := by decide +kernel
theorem dX8_couldStep_48 : decode cX8_couldStep 48 = .ok (.goto (-45), 3) := by decide +kernel
theorem dX8_couldStep_51 : decode cX8_couldStep 51 = .ok (.iconst 0, 1) := by decide +kernel
theorem dX8_couldStep_52 : decode cX8_couldStep 52 = .ok (.ireturn, 1) := by decide +kernel
theorem dX8_worst_0 : decode cX8_worst 0 = .ok (.aload_n 0, 1) := by decide +kernel
theorem dX8_worst_1 : decode cX8_worst 1 = .ok (.iload_n 1, 1) := by decide +kernel
theorem dX8_worst_2 : decode cX8_worst 2 = .ok (.iload_n 2, 1) := by decide +kernel
theorem dX8_worst_3 : decode cX8_worst 3 = .ok (.invokevirtual 167, 3) := by decide +kernel
theorem dX8_worst_6 : decode cX8_worst 6 = .ok (.ifCond .ne 6, 3) := by decide +kernel
theorem dX8_worst_9 : decode cX8_worst 9 = .ok (.bipush (-2), 2) := by decide +kernel
theorem dX8_worst_11 : decode cX8_worst 11 = .ok (.ireturn, 1) := by decide +kernel
theorem dX8_worst_12 : decode cX8_worst 12 = .ok (.iconst (-1), 1) := by decide +kernel
theorem dX8_worst_13 : decode cX8_worst 13 = .ok (.istore_n 3, 1) := by decide +kernel
theorem dX8_worst_14 : decode cX8_worst 14 = .ok (.iconst (-1), 1) := by decide +kernel
theorem dX8_worst_15 : decode cX8_worst 15 = .ok (.istore 4, 2) := by decide +kernel
theorem dX8_worst_17 : decode cX8_worst 17 = .ok (.iconst 0, 1) := by decide +kernel
theorem dX8_worst_18 : decode cX8_worst 18 = .ok (.istore 5, 2) := by decide +kernel
theorem dX8_worst_20 : decode cX8_worst 20 = .ok (.iload 5, 2) := by decide +kernel
theorem dX8_worst_22 : decode cX8_worst 22 = .ok (.aload_n 0, 1) := by decide +kernel
theorem dX8_worst_23 : decode cX8_worst 23 = .ok (.getfield 27, 3) := by decide +kernel
theorem dX8_worst_26 : decode cX8_worst 26 = .ok (.getfield 161, 3) := by decide +kernel
theorem dX8_worst_29 : decode cX8_worst 29 = .ok (.if_icmp .ge 53, 3) := by decide +kernel
theorem dX8_worst_32 : decode cX8_worst 32 = .ok (.aload_n 0, 1) := by decide +kernel
theorem dX8_worst_33 : decode cX8_worst 33 = .ok (.getfield 27, 3) := by decide +kernel
theorem dX8_worst_36 : decode cX8_worst 36 = .ok (.iload 5, 2) := by decide +kernel
theorem dX8_worst_38 : decode cX8_worst 38 = .ok (.iload_n 1, 1) := by decide +kernel
theorem dX8_worst_39 : decode cX8_worst 39 = .ok (.iload_n 2, 1) := by decide +kernel
theorem dX8_worst_40 : decode cX8_worst 40 = .ok (.invokevirtual 174, 3) := by decide +kernel
theorem dX8_worst_43 : decode cX8_worst 43 = .ok (.ifCond .eq 33, 3) := by decide +kernel
theorem dX8_worst_46 : decode cX8_worst 46 = .ok (.aload_n 0, 1) := by decide +kernel
theorem dX8_worst_47 : decode cX8_worst 47 = .ok (.getfield 27, 3) := by decide +kernel
theorem dX8_worst_50 : decode cX8_worst 50 = .ok (.iload 5, 2) := by decide +kernel
theorem dX8_worst_52 : decode cX8_worst 52 = .ok (.iload_n 2, 1) := by decide +kernel
theorem dX8_worst_53 : decode cX8_worst 53 = .ok (.invokevirtual 210, 3) := by decide +kernel
theorem dX8_worst_56 : decode cX8_worst 56 = .ok (.iload 4, 2) := by decide +kernel
theorem dX8_worst_58 : decode cX8_worst 58 = .ok (.if_icmp .le 18, 3) := by decide +kernel
theorem dX8_worst_61 : decode cX8_worst 61 = .ok (.iload 5, 2) := by decide +kernel
theorem dX8_worst_63 : decode cX8_worst 63 = .ok (.istore_n 3, 1) := by decide +kernel
theorem dX8_worst_64 : decode cX8_worst 64 = .ok (.aload_n 0, 1) := by decide +kernel
theorem dX8_worst_65 : decode cX8_worst 65 = .ok (.getfield 27, 3) := by decide +kernel
theorem dX8_worst_68 : decode cX8_worst 68 = .ok (.iload 5, 2) := by decide +kernel
theorem dX8_worst_70 : decode cX8_worst 70 = .ok (.iload_n 2, 1) := by decide +kernel
theorem dX8_worst_71 : decode cX8_worst 71 = .ok (.invokevirtual 210, 3) := by decide +kernel
theorem dX8_worst_74 : decode cX8_worst 74 = .ok (.istore 4, 2) := by decide +kernel
theorem dX8_worst_76 : decode cX8_worst 76 = .ok (.iinc 5 1, 3) := by decide +kernel
theorem dX8_worst_79 : decode cX8_worst 79 = .ok (.goto (-59), 3) := by decide +kernel
theorem dX8_worst_82 : decode cX8_worst 82 = .ok (.iload_n 3, 1) := by decide +kernel
theorem dX8_worst_83 : decode cX8_worst 83 = .ok (.ireturn, 1) := by decide +kernel
theorem dX8_dry_0 : decode cX8_dry 0 = .ok (.aload_n 0, 1) := by decide +kernel
theorem dX8_dry_1 : decode cX8_dry 1 = .ok (.getfield 27, 3) := by decide +kernel
theorem dX8_dry_4 : decode cX8_dry 4 = .ok (.iload_n 1, 1) := by decide +kernel
theorem dX8_dry_5 : decode cX8_dry 5 = .ok (.invokevirtual 104, 3) := by decide +kernel
theorem dX8_dry_8 : decode cX8_dry 8 = .ok (.ifCond .ne 6, 3) := by decide +kernel
theorem dX8_dry_11 : decode cX8_dry 11 = .ok (.bipush (-2), 2) := by decide +kernel
theorem dX8_dry_13 : decode cX8_dry 13 = .ok (.ireturn, 1) := by decide +kernel
theorem dX8_dry_14 : decode cX8_dry 14 = .ok (.iconst 0, 1) := by decide +kernel
theorem dX8_dry_15 : decode cX8_dry 15 = .ok (.istore_n 2, 1) := by decide +kernel
theorem dX8_dry_16 : decode cX8_dry 16 = .ok (.ldc2_w 213, 3) := by decide +kernel
theorem dX8_dry_19 : decode cX8_dry 19 = .ok (.lstore_n 3, 1) := by decide +kernel
theorem dX8_dry_20 : decode cX8_dry 20 = .ok (.iconst 0, 1) := by decide +kernel
theorem dX8_dry_21 : decode cX8_dry 21 = .ok (.istore 5, 2) := by decide +kernel
theorem dX8_dry_23 : decode cX8_dry 23 = .ok (.iload 5, 2) := by decide +kernel
theorem dX8_dry_25 : decode cX8_dry 25 = .ok (.aload_n 0, 1) := by decide +kernel
theorem dX8_dry_26 : decode cX8_dry 26 = .ok (.getfield 27, 3) := by decide +kernel
theorem dX8_dry_29 : decode cX8_dry 29 = .ok (.getfield 182, 3) := by decide +kernel
theorem dX8_dry_32 : decode cX8_dry 32 = .ok (.if_icmp .ge 37, 3) := by decide +kernel
theorem dX8_dry_35 : decode cX8_dry 35 = .ok (.aload_n 0, 1) := by decide +kernel
theorem dX8_dry_36 : decode cX8_dry 36 = .ok (.getfield 27, 3) := by decide +kernel
theorem dX8_dry_39 : decode cX8_dry 39 = .ok (.ldc2_w 190, 3) := by decide +kernel
theorem dX8_dry_42 : decode cX8_dry 42 = .ok (.iload_n 1, 1) := by decide +kernel
theorem dX8_dry_43 : decode cX8_dry 43 = .ok (.iload 5, 2) := by decide +kernel
theorem dX8_dry_45 : decode cX8_dry 45 = .ok (.invokevirtual 192, 3) := by decide +kernel
theorem dX8_dry_48 : decode cX8_dry 48 = .ok (.lstore 6, 2) := by decide +kernel
theorem dX8_dry_50 : decode cX8_dry 50 = .ok (.lload 6, 2) := by decide +kernel
theorem dX8_dry_52 : decode cX8_dry 52 = .ok (.lload_n 3, 1) := by decide +kernel
theorem dX8_dry_53 : decode cX8_dry 53 = .ok (.lcmp, 1) := by decide +kernel
theorem dX8_dry_54 : decode cX8_dry 54 = .ok (.ifCond .le 9, 3) := by decide +kernel
theorem dX8_dry_57 : decode cX8_dry 57 = .ok (.lload 6, 2) := by decide +kernel
theorem dX8_dry_59 : decode cX8_dry 59 = .ok (.lstore_n 3, 1) := by decide +kernel
theorem dX8_dry_60 : decode cX8_dry 60 = .ok (.iload 5, 2) := by decide +kernel
theorem dX8_dry_62 : decode cX8_dry 62 = .ok (.istore_n 2, 1) := by decide +kernel
theorem dX8_dry_63 : decode cX8_dry 63 = .ok (.iinc 5 1, 3) := by decide +kernel
theorem dX8_dry_66 : decode cX8_dry 66 = .ok (.goto (-43), 3) := by decide +kernel
theorem dX8_dry_69 : decode cX8_dry 69 = .ok (.iload_n 2, 1) := by decide +kernel
theorem dX8_dry_70 : decode cX8_dry 70 = .ok (.ireturn, 1) := by decide +kernel
theorem dX8_lowestTerm_0 : decode cX8_lowestTerm 0 = .ok (.ldc2_w 190, 3) := by decide +kernel
theorem dX8_lowestTerm_3 : decode cX8_lowestTerm 3 = .ok (.lload_n 0, 1) := by decide +kernel
theorem dX8_lowestTerm_4 : decode cX8_lowestTerm 4 = .ok (.invokestatic 215, 3) := by decide +kernel
theorem dX8_lowestTerm_7 : decode cX8_lowestTerm 7 = .ok (.lstore_n 3, 1) := by decide +kernel
theorem dX8_lowestTerm_8 : decode cX8_lowestTerm 8 = .ok (.iload_n 2, 1) := by decide +kernel
theorem dX8_lowestTerm_9 : decode cX8_lowestTerm 9 = .ok (.ifCond .ne 7, 3) := by decide +kernel
theorem dX8_lowestTerm_12 : decode cX8_lowestTerm 12 = .ok (.lload_n 0, 1) := by decide +kernel
theorem dX8_lowestTerm_13 : decode cX8_lowestTerm 13 = .ok (.goto 6, 3) := by decide +kernel
theorem dX8_lowestTerm_16 : decode cX8_lowestTerm 16 = .ok (.ldc2_w 190, 3) := by decide +kernel
theorem dX8_lowestTerm_19 : decode cX8_lowestTerm 19 = .ok (.lstore 5, 2) := by decide +kernel
theorem dX8_lowestTerm_21 : decode cX8_lowestTerm 21 = .ok (.lload_n 3, 1) := by decide +kernel
theorem dX8_lowestTerm_22 : decode cX8_lowestTerm 22 = .ok (.lconst 0, 1) := by decide +kernel
theorem dX8_lowestTerm_23 : decode cX8_lowestTerm 23 = .ok (.lcmp, 1) := by decide +kernel
theorem dX8_lowestTerm_24 : decode cX8_lowestTerm 24 = .ok (.ifCond .le 10, 3) := by decide +kernel
theorem dX8_lowestTerm_27 : decode cX8_lowestTerm 27 = .ok (.lload 5, 2) := by decide +kernel
theorem dX8_lowestTerm_29 : decode cX8_lowestTerm 29 = .ok (.lload_n 3, 1) := by decide +kernel
theorem dX8_lowestTerm_30 : decode cX8_lowestTerm 30 = .ok (.ldiv, 1) := by decide +kernel
theorem dX8_lowestTerm_31 : decode cX8_lowestTerm 31 = .ok (.goto 5, 3) := by decide +kernel
theorem dX8_lowestTerm_34 : decode cX8_lowestTerm 34 = .ok (.lload 5, 2) := by decide +kernel
theorem dX8_lowestTerm_36 : decode cX8_lowestTerm 36 = .ok (.lreturn, 1) := by decide +kernel
theorem dX8_commonDivisor_0 : decode cX8_commonDivisor 0 = .ok (.lload_n 0, 1) := by decide +kernel
theorem dX8_commonDivisor_1 : decode cX8_commonDivisor 1 = .ok (.lstore 4, 2) := by decide +kernel
theorem dX8_commonDivisor_3 : decode cX8_commonDivisor 3 = .ok (.lload_n 2, 1) := by decide +kernel
theorem dX8_commonDivisor_4 : decode cX8_commonDivisor 4 = .ok (.lstore 6, 2) := by decide +kernel
theorem dX8_commonDivisor_6 : decode cX8_commonDivisor 6 = .ok (.iconst 0, 1) := by decide +kernel
theorem dX8_commonDivisor_7 : decode cX8_commonDivisor 7 = .ok (.istore 8, 2) := by decide +kernel
theorem dX8_commonDivisor_9 : decode cX8_commonDivisor 9 = .ok (.iload 8, 2) := by decide +kernel
theorem dX8_commonDivisor_11 : decode cX8_commonDivisor 11 = .ok (.sipush 200, 3) := by decide +kernel
theorem dX8_commonDivisor_14 : decode cX8_commonDivisor 14 = .ok (.if_icmp .ge 31, 3) := by decide +kernel
theorem dX8_commonDivisor_17 : decode cX8_commonDivisor 17 = .ok (.lload 6, 2) := by decide +kernel
theorem dX8_commonDivisor_19 : decode cX8_commonDivisor 19 = .ok (.lconst 0, 1) := by decide +kernel
theorem dX8_commonDivisor_20 : decode cX8_commonDivisor 20 = .ok (.lcmp, 1) := by decide +kernel
theorem dX8_commonDivisor_21 : decode cX8_commonDivisor 21 = .ok (.ifCond .eq 24, 3) := by decide +kernel
theorem dX8_commonDivisor_24 : decode cX8_commonDivisor 24 = .ok (.lload 4, 2) := by decide +kernel
theorem dX8_commonDivisor_26 : decode cX8_commonDivisor 26 = .ok (.lload 6, 2) := by decide +kernel
theorem dX8_commonDivisor_28 : decode cX8_commonDivisor 28 = .ok (.lrem, 1) := by decide +kernel
theorem dX8_commonDivisor_29 : decode cX8_commonDivisor 29 = .ok (.lstore 9, 2) := by decide +kernel
theorem dX8_commonDivisor_31 : decode cX8_commonDivisor 31 = .ok (.lload 6, 2) := by decide +kernel
theorem dX8_commonDivisor_33 : decode cX8_commonDivisor 33 = .ok (.lstore 4, 2) := by decide +kernel
theorem dX8_commonDivisor_35 : decode cX8_commonDivisor 35 = .ok (.lload 9, 2) := by decide +kernel
theorem dX8_commonDivisor_37 : decode cX8_commonDivisor 37 = .ok (.lstore 6, 2) := by decide +kernel
theorem dX8_commonDivisor_39 : decode cX8_commonDivisor 39 = .ok (.iinc 8 1, 3) := by decide +kernel
theorem dX8_commonDivisor_42 : decode cX8_commonDivisor 42 = .ok (.goto (-33), 3) := by decide +kernel
theorem dX8_commonDivisor_45 : decode cX8_commonDivisor 45 = .ok (.lload 4, 2) := by decide +kernel
theorem dX8_commonDivisor_47 : decode cX8_commonDivisor 47 = .ok (.lreturn, 1) := by decide +kernel
theorem dX8_knowsWay_0 : decode cX8_knowsWay 0 = .ok (.aload_n 0, 1) := by decide +kernel
theorem dX8_knowsWay_1 : decode cX8_knowsWay 1 = .ok (.getfield 27, 3) := by decide +kernel
theorem dX8_knowsWay_4 : decode cX8_knowsWay 4 = .ok (.iload_n 1, 1) := by decide +kernel
theorem dX8_knowsWay_5 : decode cX8_knowsWay 5 = .ok (.invokevirtual 219, 3) := by decide +kernel
theorem dX8_knowsWay_8 : decode cX8_knowsWay 8 = .ok (.ifCond .eq 29, 3) := by decide +kernel
theorem dX8_knowsWay_11 : decode cX8_knowsWay 11 = .ok (.aload_n 0, 1) := by decide +kernel
theorem dX8_knowsWay_12 : decode cX8_knowsWay 12 = .ok (.getfield 27, 3) := by decide +kernel
theorem dX8_knowsWay_15 : decode cX8_knowsWay 15 = .ok (.iload_n 2, 1) := by decide +kernel
theorem dX8_knowsWay_16 : decode cX8_knowsWay 16 = .ok (.invokevirtual 222, 3) := by decide +kernel
theorem dX8_knowsWay_19 : decode cX8_knowsWay 19 = .ok (.ifCond .eq 18, 3) := by decide +kernel
theorem dX8_knowsWay_22 : decode cX8_knowsWay 22 = .ok (.aload_n 0, 1) := by decide +kernel
theorem dX8_knowsWay_23 : decode cX8_knowsWay 23 = .ok (.getfield 27, 3) := by decide +kernel
theorem dX8_knowsWay_26 : decode cX8_knowsWay 26 = .ok (.iload_n 3, 1) := by decide +kernel
theorem dX8_knowsWay_27 : decode cX8_knowsWay 27 = .ok (.invokevirtual 164, 3) := by decide +kernel
theorem dX8_knowsWay_30 : decode cX8_knowsWay 30 = .ok (.ifCond .eq 7, 3) := by decide +kernel
theorem dX8_knowsWay_33 : decode cX8_knowsWay 33 = .ok (.iconst 1, 1) := by decide +kernel
theorem dX8_knowsWay_34 : decode cX8_knowsWay 34 = .ok (.goto 4, 3) := by decide +kernel
theorem dX8_knowsWay_37 : decode cX8_knowsWay 37 = .ok (.iconst 0, 1) := by decide +kernel
theorem dX8_knowsWay_38 : decode cX8_knowsWay 38 = .ok (.ireturn, 1) := by decide +kernel
theorem dX8_reach_0 : decode cX8_reach 0 = .ok (.aload_n 0, 1) := by decide +kernel
theorem dX8_reach_1 : decode cX8_reach 1 = .ok (.getfield 27, 3) := by decide +kernel
theorem dX8_reach_4 : decode cX8_reach 4 = .ok (.iload_n 1, 1) := by decide +kernel
theorem dX8_reach_5 : decode cX8_reach 5 = .ok (.invokevirtual 219, 3) := by decide +kernel
theorem dX8_reach_8 : decode cX8_reach 8 = .ok (.ifCond .eq 27, 3) := by decide +kernel
theorem dX8_reach_11 : decode cX8_reach 11 = .ok (.aload_n 0, 1) := by decide +kernel
theorem dX8_reach_12 : decode cX8_reach 12 = .ok (.getfield 27, 3) := by decide +kernel
theorem dX8_reach_15 : decode cX8_reach 15 = .ok (.iload_n 2, 1) := by decide +kernel
theorem dX8_reach_16 : decode cX8_reach 16 = .ok (.invokevirtual 164, 3) := by decide +kernel
theorem dX8_reach_19 : decode cX8_reach 19 = .ok (.ifCond .eq 16, 3) := by decide +kernel
theorem dX8_reach_22 : decode cX8_reach 22 = .ok (.aload_n 0, 1) := by decide +kernel
theorem dX8_reach_23 : decode cX8_reach 23 = .ok (.getfield 27, 3) := by decide +kernel
theorem dX8_reach_26 : decode cX8_reach 26 = .ok (.iload_n 1, 1) := by decide +kernel
theorem dX8_reach_27 : decode cX8_reach 27 = .ok (.iload_n 2, 1) := by decide +kernel
theorem dX8_reach_28 : decode cX8_reach 28 = .ok (.iconst (-1), 1) := by decide +kernel
theorem dX8_reach_29 : decode cX8_reach 29 = .ok (.invokevirtual 225, 3) := by decide +kernel
theorem dX8_reach_32 : decode cX8_reach 32 = .ok (.goto 5, 3) := by decide +kernel
theorem dX8_reach_35 : decode cX8_reach 35 = .ok (.bipush (-2), 2) := by decide +kernel
theorem dX8_reach_37 : decode cX8_reach 37 = .ok (.ireturn, 1) := by decide +kernel
theorem dX8_canCome_0 : decode cX8_canCome 0 = .ok (.aload_n 0, 1) := by decide +kernel
theorem dX8_canCome_1 : decode cX8_canCome 1 = .ok (.getfield 27, 3) := by decide +kernel
theorem dX8_canCome_4 : decode cX8_canCome 4 = .ok (.iload_n 1, 1) := by decide +kernel
theorem dX8_canCome_5 : decode cX8_canCome 5 = .ok (.iload_n 3, 1) := by decide +kernel
theorem dX8_canCome_6 : decode cX8_canCome 6 = .ok (.iconst (-1), 1) := by decide +kernel
theorem dX8_canCome_7 : decode cX8_canCome 7 = .ok (.invokevirtual 225, 3) := by decide +kernel
theorem dX8_canCome_10 : decode cX8_canCome 10 = .ok (.iload_n 2, 1) := by decide +kernel
theorem dX8_canCome_11 : decode cX8_canCome 11 = .ok (.ishr, 1) := by decide +kernel
theorem dX8_canCome_12 : decode cX8_canCome 12 = .ok (.iconst 1, 1) := by decide +kernel
theorem dX8_canCome_13 : decode cX8_canCome 13 = .ok (.iand, 1) := by decide +kernel
theorem dX8_canCome_14 : decode cX8_canCome 14 = .ok (.iconst 1, 1) := by decide +kernel
theorem dX8_canCome_15 : decode cX8_canCome 15 = .ok (.if_icmp .ne 7, 3) := by decide +kernel
theorem dX8_canCome_18 : decode cX8_canCome 18 = .ok (.iconst 1, 1) := by decide +kernel
theorem dX8_canCome_19 : decode cX8_canCome 19 = .ok (.goto 4, 3) := by decide +kernel
theorem dX8_canCome_22 : decode cX8_canCome 22 = .ok (.iconst 0, 1) := by decide +kernel
theorem dX8_canCome_23 : decode cX8_canCome 23 = .ok (.ireturn, 1) := by decide +kernel
theorem dX8_shortest_0 : decode cX8_shortest 0 = .ok (.aload_n 0, 1) := by decide +kernel
theorem dX8_shortest_1 : decode cX8_shortest 1 = .ok (.iload_n 1, 1) := by decide +kernel
theorem dX8_shortest_2 : decode cX8_shortest 2 = .ok (.iload_n 2, 1) := by decide +kernel
theorem dX8_shortest_3 : decode cX8_shortest 3 = .ok (.iload_n 3, 1) := by decide +kernel
theorem dX8_shortest_4 : decode cX8_shortest 4 = .ok (.invokevirtual 228, 3) := by decide +kernel
theorem dX8_shortest_7 : decode cX8_shortest 7 = .ok (.ifCond .ne 6, 3) := by decide +kernel
theorem dX8_shortest_10 : decode cX8_shortest 10 = .ok (.bipush (-2), 2) := by decide +kernel
theorem dX8_shortest_12 : decode cX8_shortest 12 = .ok (.ireturn, 1) := by decide +kernel
theorem dX8_shortest_13 : decode cX8_shortest 13 = .ok (.aload_n 0, 1) := by decide +kernel
theorem dX8_shortest_14 : decode cX8_shortest 14 = .ok (.getfield 51, 3) := by decide +kernel
theorem dX8_shortest_17 : decode cX8_shortest 17 = .ok (.aload_n 0, 1) := by decide +kernel
theorem dX8_shortest_18 : decode cX8_shortest 18 = .ok (.getfield 27, 3) := by decide +kernel
theorem dX8_shortest_21 : decode cX8_shortest 21 = .ok (.iload_n 1, 1) := by decide +kernel
theorem dX8_shortest_22 : decode cX8_shortest 22 = .ok (.iload_n 2, 1) := by decide +kernel
theorem dX8_shortest_23 : decode cX8_shortest 23 = .ok (.iload_n 3, 1) := by decide +kernel
theorem dX8_shortest_24 : decode cX8_shortest 24 = .ok (.invokevirtual 231, 3) := by decide +kernel
theorem dX8_shortest_27 : decode cX8_shortest 27 = .ok (.aload_n 0, 1) := by decide +kernel
theorem dX8_shortest_28 : decode cX8_shortest 28 = .ok (.getfield 51, 3) := by decide +kernel
theorem dX8_shortest_31 : decode cX8_shortest 31 = .ok (.getfield 235, 3) := by decide +kernel
theorem dX8_shortest_34 : decode cX8_shortest 34 = .ok (.ireturn, 1) := by decide +kernel
theorem dX8_goes_0 : decode cX8_goes 0 = .ok (.aload_n 0, 1) := by decide +kernel
theorem dX8_goes_1 : decode cX8_goes 1 = .ok (.iload_n 1, 1) := by decide +kernel
theorem dX8_goes_2 : decode cX8_goes 2 = .ok (.iload_n 2, 1) := by decide +kernel
theorem dX8_goes_3 : decode cX8_goes 3 = .ok (.iload_n 3, 1) := by decide +kernel
theorem dX8_goes_4 : decode cX8_goes 4 = .ok (.invokevirtual 228, 3) := by decide +kernel
theorem dX8_goes_7 : decode cX8_goes 7 = .ok (.ifCond .ne 6, 3) := by decide +kernel
theorem dX8_goes_10 : decode cX8_goes 10 = .ok (.bipush (-2), 2) := by decide +kernel
theorem dX8_goes_12 : decode cX8_goes 12 = .ok (.ireturn, 1) := by decide +kernel
theorem dX8_goes_13 : decode cX8_goes 13 = .ok (.aload_n 0, 1) := by decide +kernel
theorem dX8_goes_14 : decode cX8_goes 14 = .ok (.getfield 51, 3) := by decide +kernel
theorem dX8_goes_17 : decode cX8_goes 17 = .ok (.aload_n 0, 1) := by decide +kernel
theorem dX8_goes_18 : decode cX8_goes 18 = .ok (.getfield 27, 3) := by decide +kernel
theorem dX8_goes_21 : decode cX8_goes 21 = .ok (.iload_n 1, 1) := by decide +kernel
theorem dX8_goes_22 : decode cX8_goes 22 = .ok (.iload_n 2, 1) := by decide +kernel
theorem dX8_goes_23 : decode cX8_goes 23 = .ok (.iload_n 3, 1) := by decide +kernel
theorem dX8_goes_24 : decode cX8_goes 24 = .ok (.invokevirtual 231, 3) := by decide +kernel
theorem dX8_goes_27 : decode cX8_goes 27 = .ok (.iload 4, 2) := by decide +kernel
theorem dX8_goes_29 : decode cX8_goes 29 = .ok (.ifCond .lt 28, 3) := by decide +kernel
theorem dX8_goes_32 : decode cX8_goes 32 = .ok (.iload 4, 2) := by decide +kernel
theorem dX8_goes_34 : decode cX8_goes 34 = .ok (.aload_n 0, 1) := by decide +kernel
theorem dX8_goes_35 : decode cX8_goes 35 = .ok (.getfield 51, 3) := by decide +kernel
theorem dX8_goes_38 : decode cX8_goes 38 = .ok (.getfield 235, 3) := by decide +kernel
theorem dX8_goes_41 : decode cX8_goes 41 = .ok (.if_icmp .ge 16, 3) := by decide +kernel
theorem dX8_goes_44 : decode cX8_goes 44 = .ok (.aload_n 0, 1) := by decide +kernel
theorem dX8_goes_45 : decode cX8_goes 45 = .ok (.getfield 51, 3) := by decide +kernel
theorem dX8_goes_48 : decode cX8_goes 48 = .ok (.getfield 238, 3) := by decide +kernel
theorem dX8_goes_51 : decode cX8_goes 51 = .ok (.iload 4, 2) := by decide +kernel
theorem dX8_goes_53 : decode cX8_goes 53 = .ok (.iaload, 1) := by decide +kernel
theorem dX8_goes_54 : decode cX8_goes 54 = .ok (.goto 4, 3) := by decide +kernel
theorem dX8_goes_57 : decode cX8_goes 57 = .ok (.iconst (-1), 1) := by decide +kernel
theorem dX8_goes_58 : decode cX8_goes 58 = .ok (.ireturn, 1) := by decide +kernel
theorem dX8_safest_0 : decode cX8_safest 0 = .ok (.aload_n 0, 1) := by decide +kernel
theorem dX8_safest_1 : decode cX8_safest 1 = .ok (.iload_n 1, 1) := by decide +kernel
theorem dX8_safest_2 : decode cX8_safest 2 = .ok (.iload_n 2, 1) := by decide +kernel
theorem dX8_safest_3 : decode cX8_safest 3 = .ok (.iload_n 3, 1) := by decide +kernel
theorem dX8_safest_4 : decode cX8_safest 4 = .ok (.invokevirtual 228, 3) := by decide +kernel
theorem dX8_safest_7 : decode cX8_safest 7 = .ok (.ifCond .eq 14, 3) := by decide +kernel
theorem dX8_safest_10 : decode cX8_safest 10 = .ok (.iload 4, 2) := by decide +kernel
theorem dX8_safest_12 : decode cX8_safest 12 = .ok (.ifCond .lt 9, 3) := by decide +kernel
theorem dX8_safest_15 : decode cX8_safest 15 = .ok (.iload 4, 2) := by decide +kernel
theorem dX8_safest_17 : decode cX8_safest 17 = .ok (.iconst 2, 1) := by decide +kernel
theorem dX8_safest_18 : decode cX8_safest 18 = .ok (.if_icmp .le 7, 3) := by decide +kernel
theorem dX8_safest_21 : decode cX8_safest 21 = .ok (.ldc2_w 188, 3) := by decide +kernel
theorem dX8_safest_24 : decode cX8_safest 24 = .ok (.lreturn, 1) := by decide +kernel
theorem dX8_safest_25 : decode cX8_safest 25 = .ok (.aload_n 0, 1) := by decide +kernel
theorem dX8_safest_26 : decode cX8_safest 26 = .ok (.getfield 51, 3) := by decide +kernel
theorem dX8_safest_29 : decode cX8_safest 29 = .ok (.aload_n 0, 1) := by decide +kernel
theorem dX8_safest_30 : decode cX8_safest 30 = .ok (.getfield 27, 3) := by decide +kernel
theorem dX8_safest_33 : decode cX8_safest 33 = .ok (.iload_n 1, 1) := by decide +kernel
theorem dX8_safest_34 : decode cX8_safest 34 = .ok (.iload_n 2, 1) := by decide +kernel
theorem dX8_safest_35 : decode cX8_safest 35 = .ok (.iload_n 3, 1) := by decide +kernel
theorem dX8_safest_36 : decode cX8_safest 36 = .ok (.invokevirtual 231, 3) := by decide +kernel
theorem dX8_safest_39 : decode cX8_safest 39 = .ok (.aload_n 0, 1) := by decide +kernel
theorem dX8_safest_40 : decode cX8_safest 40 = .ok (.getfield 51, 3) := by decide +kernel
theorem dX8_safest_43 : decode cX8_safest 43 = .ok (.getfield 241, 3) := by decide +kernel
theorem dX8_safest_46 : decode cX8_safest 46 = .ok (.iconst (-1), 1) := by decide +kernel
theorem dX8_safest_47 : decode cX8_safest 47 = .ok (.if_icmp .ne 7, 3) := by decide +kernel
theorem dX8_safest_50 : decode cX8_safest 50 = .ok (.ldc2_w 213, 3) := by decide +kernel
theorem dX8_safest_53 : decode cX8_safest 53 = .ok (.lreturn, 1) := by decide +kernel
theorem dX8_safest_54 : decode cX8_safest 54 = .ok (.iload 4, 2) := by decide +kernel
theorem dX8_safest_56 : decode cX8_safest 56 = .ok (.iconst 2, 1) := by decide +kernel
theorem dX8_safest_57 : decode cX8_safest 57 = .ok (.if_icmp .ne 14, 3) := by decide +kernel
theorem dX8_safest_60 : decode cX8_safest 60 = .ok (.aload_n 0, 1) := by decide +kernel
theorem dX8_safest_61 : decode cX8_safest 61 = .ok (.getfield 51, 3) := by decide +kernel
theorem dX8_safest_64 : decode cX8_safest 64 = .ok (.getfield 241, 3) := by decide +kernel
theorem dX8_safest_67 : decode cX8_safest 67 = .ok (.i2l, 1) := by decide +kernel
theorem dX8_safest_68 : decode cX8_safest 68 = .ok (.goto 15, 3) := by decide +kernel
theorem dX8_safest_71 : decode cX8_safest 71 = .ok (.aload_n 0, 1) := by decide +kernel
theorem dX8_safest_72 : decode cX8_safest 72 = .ok (.getfield 51, 3) := by decide +kernel
theorem dX8_safest_75 : decode cX8_safest 75 = .ok (.getfield 244, 3) := by decide +kernel
theorem dX8_safest_78 : decode cX8_safest 78 = .ok (.iload 4, 2) := by decide +kernel
theorem dX8_safest_80 : decode cX8_safest 80 = .ok (.invokestatic 196, 3) := by decide +kernel
theorem dX8_safest_83 : decode cX8_safest 83 = .ok (.lreturn, 1) := by decide +kernel
theorem dX8_place_0 : decode cX8_place 0 = .ok (.aload_n 0, 1) := by decide +kernel
theorem dX8_place_1 : decode cX8_place 1 = .ok (.iload_n 1, 1) := by decide +kernel
theorem dX8_place_2 : decode cX8_place 2 = .ok (.iload_n 2, 1) := by decide +kernel
theorem dX8_place_3 : decode cX8_place 3 = .ok (.iload_n 3, 1) := by decide +kernel
theorem dX8_place_4 : decode cX8_place 4 = .ok (.invokevirtual 228, 3) := by decide +kernel
theorem dX8_place_7 : decode cX8_place 7 = .ok (.ifCond .ne 6, 3) := by decide +kernel
theorem dX8_place_10 : decode cX8_place 10 = .ok (.bipush (-2), 2) := by decide +kernel
theorem dX8_place_12 : decode cX8_place 12 = .ok (.ireturn, 1) := by decide +kernel
theorem dX8_place_13 : decode cX8_place 13 = .ok (.aload_n 0, 1) := by decide +kernel
theorem dX8_place_14 : decode cX8_place 14 = .ok (.getfield 51, 3) := by decide +kernel
theorem dX8_place_17 : decode cX8_place 17 = .ok (.aload_n 0, 1) := by decide +kernel
theorem dX8_place_18 : decode cX8_place 18 = .ok (.getfield 27, 3) := by decide +kernel
theorem dX8_place_21 : decode cX8_place 21 = .ok (.iload_n 1, 1) := by decide +kernel
theorem dX8_place_22 : decode cX8_place 22 = .ok (.iload_n 2, 1) := by decide +kernel
theorem dX8_place_23 : decode cX8_place 23 = .ok (.iload_n 3, 1) := by decide +kernel
theorem dX8_place_24 : decode cX8_place 24 = .ok (.invokevirtual 231, 3) := by decide +kernel
theorem dX8_place_27 : decode cX8_place 27 = .ok (.iload 4, 2) := by decide +kernel
theorem dX8_place_29 : decode cX8_place 29 = .ok (.ifCond .lt 28, 3) := by decide +kernel
theorem dX8_place_32 : decode cX8_place 32 = .ok (.iload 4, 2) := by decide +kernel
theorem dX8_place_34 : decode cX8_place 34 = .ok (.aload_n 0, 1) := by decide +kernel
theorem dX8_place_35 : decode cX8_place 35 = .ok (.getfield 51, 3) := by decide +kernel
theorem dX8_place_38 : decode cX8_place 38 = .ok (.getfield 241, 3) := by decide +kernel
theorem dX8_place_41 : decode cX8_place 41 = .ok (.if_icmp .ge 16, 3) := by decide +kernel
theorem dX8_place_44 : decode cX8_place 44 = .ok (.aload_n 0, 1) := by decide +kernel
theorem dX8_place_45 : decode cX8_place 45 = .ok (.getfield 51, 3) := by decide +kernel
theorem dX8_place_48 : decode cX8_place 48 = .ok (.getfield 248, 3) := by decide +kernel
theorem dX8_place_51 : decode cX8_place 51 = .ok (.iload 4, 2) := by decide +kernel
theorem dX8_place_53 : decode cX8_place 53 = .ok (.iaload, 1) := by decide +kernel
theorem dX8_place_54 : decode cX8_place 54 = .ok (.goto 4, 3) := by decide +kernel
theorem dX8_place_57 : decode cX8_place 57 = .ok (.iconst (-1), 1) := by decide +kernel
theorem dX8_place_58 : decode cX8_place 58 = .ok (.ireturn, 1) := by decide +kernel
theorem dX8_ways_0 : decode cX8_ways 0 = .ok (.aload_n 0, 1) := by decide +kernel
theorem dX8_ways_1 : decode cX8_ways 1 = .ok (.iload_n 1, 1) := by decide +kernel
theorem dX8_ways_2 : decode cX8_ways 2 = .ok (.iload_n 2, 1) := by decide +kernel
theorem dX8_ways_3 : decode cX8_ways 3 = .ok (.iload_n 3, 1) := by decide +kernel
theorem dX8_ways_4 : decode cX8_ways 4 = .ok (.invokevirtual 228, 3) := by decide +kernel
theorem dX8_ways_7 : decode cX8_ways 7 = .ok (.ifCond .ne 6, 3) := by decide +kernel
theorem dX8_ways_10 : decode cX8_ways 10 = .ok (.bipush (-2), 2) := by decide +kernel
theorem dX8_ways_12 : decode cX8_ways 12 = .ok (.ireturn, 1) := by decide +kernel
theorem dX8_ways_13 : decode cX8_ways 13 = .ok (.aload_n 0, 1) := by decide +kernel
theorem dX8_ways_14 : decode cX8_ways 14 = .ok (.getfield 51, 3) := by decide +kernel
theorem dX8_ways_17 : decode cX8_ways 17 = .ok (.aload_n 0, 1) := by decide +kernel
theorem dX8_ways_18 : decode cX8_ways 18 = .ok (.getfield 27, 3) := by decide +kernel
theorem dX8_ways_21 : decode cX8_ways 21 = .ok (.iload_n 1, 1) := by decide +kernel
theorem dX8_ways_22 : decode cX8_ways 22 = .ok (.iload_n 2, 1) := by decide +kernel
theorem dX8_ways_23 : decode cX8_ways 23 = .ok (.iload_n 3, 1) := by decide +kernel
theorem dX8_ways_24 : decode cX8_ways 24 = .ok (.invokevirtual 231, 3) := by decide +kernel
theorem dX8_ways_27 : decode cX8_ways 27 = .ok (.aload_n 0, 1) := by decide +kernel
theorem dX8_ways_28 : decode cX8_ways 28 = .ok (.getfield 51, 3) := by decide +kernel
theorem dX8_ways_31 : decode cX8_ways 31 = .ok (.getfield 251, 3) := by decide +kernel
theorem dX8_ways_34 : decode cX8_ways 34 = .ok (.ireturn, 1) := by decide +kernel
theorem dX8_when_0 : decode cX8_when 0 = .ok (.aload_n 0, 1) := by decide +kernel
theorem dX8_when_1 : decode cX8_when 1 = .ok (.getfield 27, 3) := by decide +kernel
theorem dX8_when_4 : decode cX8_when 4 = .ok (.iload_n 1, 1) := by decide +kernel
theorem dX8_when_5 : decode cX8_when 5 = .ok (.invokevirtual 219, 3) := by decide +kernel
theorem dX8_when_8 : decode cX8_when 8 = .ok (.ifCond .eq 23, 3) := by decide +kernel
theorem dX8_when_11 : decode cX8_when 11 = .ok (.aload_n 0, 1) := by decide +kernel
theorem dX8_when_12 : decode cX8_when 12 = .ok (.getfield 27, 3) := by decide +kernel
theorem dX8_when_15 : decode cX8_when 15 = .ok (.iload_n 2, 1) := by decide +kernel
theorem dX8_when_16 : decode cX8_when 16 = .ok (.invokevirtual 222, 3) := by decide +kernel
theorem dX8_when_19 : decode cX8_when 19 = .ok (.ifCond .eq 12, 3) := by decide +kernel
theorem dX8_when_22 : decode cX8_when 22 = .ok (.iload_n 3, 1) := by decide +kernel
theorem dX8_when_23 : decode cX8_when 23 = .ok (.ifCond .lt 8, 3) := by decide +kernel
theorem dX8_when_26 : decode cX8_when 26 = .ok (.iload_n 3, 1) := by decide +kernel
theorem dX8_when_27 : decode cX8_when 27 = .ok (.iconst 2, 1) := by decide +kernel
theorem dX8_when_28 : decode cX8_when 28 = .ok (.if_icmp .le 6, 3) := by decide +kernel
theorem dX8_when_31 : decode cX8_when 31 = .ok (.bipush (-2), 2) := by decide +kernel
theorem dX8_when_33 : decode cX8_when 33 = .ok (.ireturn, 1) := by decide +kernel
theorem dX8_when_34 : decode cX8_when 34 = .ok (.iconst (-1), 1) := by decide +kernel
theorem dX8_when_35 : decode cX8_when 35 = .ok (.istore 4, 2) := by decide +kernel
theorem dX8_when_37 : decode cX8_when 37 = .ok (.iconst (-1), 1) := by decide +kernel
theorem dX8_when_38 : decode cX8_when 38 = .ok (.istore 5, 2) := by decide +kernel
theorem dX8_when_40 : decode cX8_when 40 = .ok (.iconst 0, 1) := by decide +kernel
theorem dX8_when_41 : decode cX8_when 41 = .ok (.istore 6, 2) := by decide +kernel
theorem dX8_when_43 : decode cX8_when 43 = .ok (.iconst 0, 1) := by decide +kernel
theorem dX8_when_44 : decode cX8_when 44 = .ok (.istore 7, 2) := by decide +kernel
theorem dX8_when_46 : decode cX8_when 46 = .ok (.iload 7, 2) := by decide +kernel
theorem dX8_when_48 : decode cX8_when 48 = .ok (.aload_n 0, 1) := by decide +kernel
theorem dX8_when_49 : decode cX8_when 49 = .ok (.getfield 27, 3) := by decide +kernel
theorem dX8_when_52 : decode cX8_when 52 = .ok (.getfield 182, 3) := by decide +kernel
theorem dX8_when_55 : decode cX8_when 55 = .ok (.if_icmp .ge 41, 3) := by decide +kernel
theorem dX8_when_58 : decode cX8_when 58 = .ok (.aload_n 0, 1) := by decide +kernel
theorem dX8_when_59 : decode cX8_when 59 = .ok (.iload_n 1, 1) := by decide +kernel
theorem dX8_when_60 : decode cX8_when 60 = .ok (.iload_n 2, 1) := by decide +kernel
theorem dX8_when_61 : decode cX8_when 61 = .ok (.iload 7, 2) := by decide +kernel
theorem dX8_when_63 : decode cX8_when 63 = .ok (.invokevirtual 254, 3) := by decide +kernel
theorem dX8_when_66 : decode cX8_when 66 = .ok (.ifCond .eq 24, 3) := by decide +kernel
theorem dX8_when_69 : decode cX8_when 69 = .ok (.iload 6, 2) := by decide +kernel
theorem dX8_when_71 : decode cX8_when 71 = .ok (.ifCond .ne 8, 3) := by decide +kernel
theorem dX8_when_74 : decode cX8_when 74 = .ok (.iload 7, 2) := by decide +kernel
theorem dX8_when_76 : decode cX8_when 76 = .ok (.goto 5, 3) := by decide +kernel
theorem dX8_when_79 : decode cX8_when 79 = .ok (.iload 4, 2) := by decide +kernel
theorem dX8_when_81 : decode cX8_when 81 = .ok (.istore 4, 2) := by decide +kernel
theorem dX8_when_83 : decode cX8_when 83 = .ok (.iload 7, 2) := by decide +kernel
theorem dX8_when_85 : decode cX8_when 85 = .ok (.istore 5, 2) := by decide +kernel
theorem dX8_when_87 : decode cX8_when 87 = .ok (.iinc 6 1, 3) := by decide +kernel
theorem dX8_when_90 : decode cX8_when 90 = .ok (.iinc 7 1, 3) := by decide +kernel
theorem dX8_when_93 : decode cX8_when 93 = .ok (.goto (-47), 3) := by decide +kernel
theorem dX8_when_96 : decode cX8_when 96 = .ok (.iload_n 3, 1) := by decide +kernel
theorem dX8_when_97 : decode cX8_when 97 = .ok (.iconst 2, 1) := by decide +kernel
theorem dX8_when_98 : decode cX8_when 98 = .ok (.if_icmp .ne 6, 3) := by decide +kernel
theorem dX8_when_101 : decode cX8_when 101 = .ok (.iload 6, 2) := by decide +kernel
theorem dX8_when_103 : decode cX8_when 103 = .ok (.ireturn, 1) := by decide +kernel
theorem dX8_when_104 : decode cX8_when 104 = .ok (.iload_n 3, 1) := by decide +kernel
theorem dX8_when_105 : decode cX8_when 105 = .ok (.ifCond .ne 8, 3) := by decide +kernel
theorem dX8_when_108 : decode cX8_when 108 = .ok (.iload 4, 2) := by decide +kernel
theorem dX8_when_110 : decode cX8_when 110 = .ok (.goto 5, 3) := by decide +kernel
theorem dX8_when_113 : decode cX8_when 113 = .ok (.iload 5, 2) := by decide +kernel
theorem dX8_when_115 : decode cX8_when 115 = .ok (.ireturn, 1) := by decide +kernel
theorem dX8_climbs_0 : decode cX8_climbs 0 = .ok (.aload_n 0, 1) := by decide +kernel
theorem dX8_climbs_1 : decode cX8_climbs 1 = .ok (.iload_n 1, 1) := by decide +kernel
theorem dX8_climbs_2 : decode cX8_climbs 2 = .ok (.iload_n 2, 1) := by decide +kernel
theorem dX8_climbs_3 : decode cX8_climbs 3 = .ok (.iload_n 3, 1) := by decide +kernel
theorem dX8_climbs_4 : decode cX8_climbs 4 = .ok (.invokevirtual 228, 3) := by decide +kernel
theorem dX8_climbs_7 : decode cX8_climbs 7 = .ok (.ifCond .eq 14, 3) := by decide +kernel
theorem dX8_climbs_10 : decode cX8_climbs 10 = .ok (.iload 4, 2) := by decide +kernel
theorem dX8_climbs_12 : decode cX8_climbs 12 = .ok (.ifCond .lt 9, 3) := by decide +kernel
theorem dX8_climbs_15 : decode cX8_climbs 15 = .ok (.iload 4, 2) := by decide +kernel
theorem dX8_climbs_17 : decode cX8_climbs 17 = .ok (.iconst 1, 1) := by decide +kernel
theorem dX8_climbs_18 : decode cX8_climbs 18 = .ok (.if_icmp .le 6, 3) := by decide +kernel
theorem dX8_climbs_21 : decode cX8_climbs 21 = .ok (.bipush (-2), 2) := by decide +kernel
theorem dX8_climbs_23 : decode cX8_climbs 23 = .ok (.ireturn, 1) := by decide +kernel
theorem dX8_climbs_24 : decode cX8_climbs 24 = .ok (.aload_n 0, 1) := by decide +kernel
theorem dX8_climbs_25 : decode cX8_climbs 25 = .ok (.getfield 51, 3) := by decide +kernel
theorem dX8_climbs_28 : decode cX8_climbs 28 = .ok (.aload_n 0, 1) := by decide +kernel
theorem dX8_climbs_29 : decode cX8_climbs 29 = .ok (.getfield 27, 3) := by decide +kernel
theorem dX8_climbs_32 : decode cX8_climbs 32 = .ok (.iload_n 1, 1) := by decide +kernel
theorem dX8_climbs_33 : decode cX8_climbs 33 = .ok (.iload_n 2, 1) := by decide +kernel
theorem dX8_climbs_34 : decode cX8_climbs 34 = .ok (.iload_n 3, 1) := by decide +kernel
theorem dX8_climbs_35 : decode cX8_climbs 35 = .ok (.invokevirtual 231, 3) := by decide +kernel
theorem dX8_climbs_38 : decode cX8_climbs 38 = .ok (.aload_n 0, 1) := by decide +kernel
theorem dX8_climbs_39 : decode cX8_climbs 39 = .ok (.getfield 51, 3) := by decide +kernel
theorem dX8_climbs_42 : decode cX8_climbs 42 = .ok (.getfield 235, 3) := by decide +kernel
theorem dX8_climbs_45 : decode cX8_climbs 45 = .ok (.iconst (-1), 1) := by decide +kernel
theorem dX8_climbs_46 : decode cX8_climbs 46 = .ok (.if_icmp .ne 5, 3) := by decide +kernel
theorem dX8_climbs_49 : decode cX8_climbs 49 = .ok (.iconst (-1), 1) := by decide +kernel
theorem dX8_climbs_50 : decode cX8_climbs 50 = .ok (.ireturn, 1) := by decide +kernel
theorem dX8_climbs_51 : decode cX8_climbs 51 = .ok (.iconst 0, 1) := by decide +kernel
theorem dX8_climbs_52 : decode cX8_climbs 52 = .ok (.istore 5, 2) := by decide +kernel
theorem dX8_climbs_54 : decode cX8_climbs 54 = .ok (.iconst 1, 1) := by decide +kernel
theorem dX8_climbs_55 : decode cX8_climbs 55 = .ok (.istore 6, 2) := by decide +kernel
theorem dX8_climbs_57 : decode cX8_climbs 57 = .ok (.iload 6, 2) := by decide +kernel
theorem dX8_climbs_59 : decode cX8_climbs 59 = .ok (.aload_n 0, 1) := by decide +kernel
theorem dX8_climbs_60 : decode cX8_climbs 60 = .ok (.getfield 51, 3) := by decide +kernel
theorem dX8_climbs_63 : decode cX8_climbs 63 = .ok (.getfield 235, 3) := by decide +kernel
theorem dX8_climbs_66 : decode cX8_climbs 66 = .ok (.if_icmp .ge 72, 3) := by decide +kernel
theorem dX8_climbs_69 : decode cX8_climbs 69 = .ok (.aload_n 0, 1) := by decide +kernel
theorem dX8_climbs_70 : decode cX8_climbs 70 = .ok (.getfield 27, 3) := by decide +kernel
theorem dX8_climbs_73 : decode cX8_climbs 73 = .ok (.getfield 257, 3) := by decide +kernel
theorem dX8_climbs_76 : decode cX8_climbs 76 = .ok (.aload_n 0, 1) := by decide +kernel
theorem dX8_climbs_77 : decode cX8_climbs 77 = .ok (.getfield 51, 3) := by decide +kernel
theorem dX8_climbs_80 : decode cX8_climbs 80 = .ok (.getfield 238, 3) := by decide +kernel
theorem dX8_climbs_83 : decode cX8_climbs 83 = .ok (.iload 6, 2) := by decide +kernel
theorem dX8_climbs_85 : decode cX8_climbs 85 = .ok (.iaload, 1) := by decide +kernel
theorem dX8_climbs_86 : decode cX8_climbs 86 = .ok (.iaload, 1) := by decide +kernel
theorem dX8_climbs_87 : decode cX8_climbs 87 = .ok (.aload_n 0, 1) := by decide +kernel
theorem dX8_climbs_88 : decode cX8_climbs 88 = .ok (.getfield 27, 3) := by decide +kernel
theorem dX8_climbs_91 : decode cX8_climbs 91 = .ok (.getfield 257, 3) := by decide +kernel
theorem dX8_climbs_94 : decode cX8_climbs 94 = .ok (.aload_n 0, 1) := by decide +kernel
theorem dX8_climbs_95 : decode cX8_climbs 95 = .ok (.getfield 51, 3) := by decide +kernel
theorem dX8_climbs_98 : decode cX8_climbs 98 = .ok (.getfield 238, 3) := by decide +kernel
theorem dX8_climbs_101 : decode cX8_climbs 101 = .ok (.iload 6, 2) := by decide +kernel
theorem dX8_climbs_103 : decode cX8_climbs 103 = .ok (.iconst 1, 1) := by decide +kernel
theorem dX8_climbs_104 : decode cX8_climbs 104 = .ok (.isub, 1) := by decide +kernel
theorem dX8_climbs_105 : decode cX8_climbs 105 = .ok (.iaload, 1) := by decide +kernel
theorem dX8_climbs_106 : decode cX8_climbs 106 = .ok (.iaload, 1) := by decide +kernel
theorem dX8_climbs_107 : decode cX8_climbs 107 = .ok (.isub, 1) := by decide +kernel
theorem dX8_climbs_108 : decode cX8_climbs 108 = .ok (.istore 7, 2) := by decide +kernel
theorem dX8_climbs_110 : decode cX8_climbs 110 = .ok (.iload 5, 2) := by decide +kernel
theorem dX8_climbs_112 : decode cX8_climbs 112 = .ok (.iload 4, 2) := by decide +kernel
theorem dX8_climbs_114 : decode cX8_climbs 114 = .ok (.ifCond .ne 8, 3) := by decide +kernel
theorem dX8_climbs_117 : decode cX8_climbs 117 = .ok (.iload 7, 2) := by decide +kernel
theorem dX8_climbs_119 : decode cX8_climbs 119 = .ok (.goto 6, 3) := by decide +kernel
theorem dX8_climbs_122 : decode cX8_climbs 122 = .ok (.iload 7, 2) := by decide +kernel
theorem dX8_climbs_124 : decode cX8_climbs 124 = .ok (.ineg, 1) := by decide +kernel
theorem dX8_climbs_125 : decode cX8_climbs 125 = .ok (.iconst 0, 1) := by decide +kernel
theorem dX8_climbs_126 : decode cX8_climbs 126 = .ok (.invokestatic 260, 3) := by decide +kernel
theorem dX8_climbs_129 : decode cX8_climbs 129 = .ok (.iadd, 1) := by decide +kernel
theorem dX8_climbs_130 : decode cX8_climbs 130 = .ok (.istore 5, 2) := by decide +kernel
theorem dX8_climbs_132 : decode cX8_climbs 132 = .ok (.iinc 6 1, 3) := by decide +kernel
theorem dX8_climbs_135 : decode cX8_climbs 135 = .ok (.goto (-78), 3) := by decide +kernel
theorem dX8_climbs_138 : decode cX8_climbs 138 = .ok (.iload 5, 2) := by decide +kernel
theorem dX8_climbs_140 : decode cX8_climbs 140 = .ok (.ireturn, 1) := by decide +kernel
theorem dX8_high_0 : decode cX8_high 0 = .ok (.aload_n 0, 1) := by decide +kernel
theorem dX8_high_1 : decode cX8_high 1 = .ok (.getfield 27, 3) := by decide +kernel
theorem dX8_high_4 : decode cX8_high 4 = .ok (.iload_n 1, 1) := by decide +kernel
theorem dX8_high_5 : decode cX8_high 5 = .ok (.invokevirtual 219, 3) := by decide +kernel
theorem dX8_high_8 : decode cX8_high 8 = .ok (.ifCond .eq 14, 3) := by decide +kernel
theorem dX8_high_11 : decode cX8_high 11 = .ok (.aload_n 0, 1) := by decide +kernel
theorem dX8_high_12 : decode cX8_high 12 = .ok (.getfield 27, 3) := by decide +kernel
theorem dX8_high_15 : decode cX8_high 15 = .ok (.iload_n 2, 1) := by decide +kernel
theorem dX8_high_16 : decode cX8_high 16 = .ok (.invokevirtual 164, 3) := by decide +kernel
theorem dX8_high_19 : decode cX8_high 19 = .ok (.ifCond .ne 6, 3) := by decide +kernel
theorem dX8_high_22 : decode cX8_high 22 = .ok (.bipush (-2), 2) := by decide +kernel
theorem dX8_high_24 : decode cX8_high 24 = .ok (.ireturn, 1) := by decide +kernel
theorem dX8_high_25 : decode cX8_high 25 = .ok (.aload_n 0, 1) := by decide +kernel
theorem dX8_high_26 : decode cX8_high 26 = .ok (.getfield 27, 3) := by decide +kernel
theorem dX8_high_29 : decode cX8_high 29 = .ok (.iload_n 1, 1) := by decide +kernel
theorem dX8_high_30 : decode cX8_high 30 = .ok (.iload_n 2, 1) := by decide +kernel
theorem dX8_high_31 : decode cX8_high 31 = .ok (.iconst (-1), 1) := by decide +kernel
theorem dX8_high_32 : decode cX8_high 32 = .ok (.invokevirtual 225, 3) := by decide +kernel
theorem dX8_high_35 : decode cX8_high 35 = .ok (.istore_n 3, 1) := by decide +kernel
theorem dX8_high_36 : decode cX8_high 36 = .ok (.aload_n 0, 1) := by decide +kernel
theorem dX8_high_37 : decode cX8_high 37 = .ok (.getfield 27, 3) := by decide +kernel
theorem dX8_high_40 : decode cX8_high 40 = .ok (.getfield 265, 3) := by decide +kernel
theorem dX8_high_43 : decode cX8_high 43 = .ok (.iload_n 1, 1) := by decide +kernel
theorem dX8_high_44 : decode cX8_high 44 = .ok (.iaload, 1) := by decide +kernel
theorem dX8_high_45 : decode cX8_high 45 = .ok (.istore 4, 2) := by decide +kernel
theorem dX8_high_47 : decode cX8_high 47 = .ok (.iconst (-1), 1) := by decide +kernel
theorem dX8_high_48 : decode cX8_high 48 = .ok (.istore 5, 2) := by decide +kernel
theorem dX8_high_50 : decode cX8_high 50 = .ok (.iconst 0, 1) := by decide +kernel
theorem dX8_high_51 : decode cX8_high 51 = .ok (.istore 6, 2) := by decide +kernel
theorem dX8_high_53 : decode cX8_high 53 = .ok (.iload 6, 2) := by decide +kernel
theorem dX8_high_55 : decode cX8_high 55 = .ok (.aload_n 0, 1) := by decide +kernel
theorem dX8_high_56 : decode cX8_high 56 = .ok (.getfield 27, 3) := by decide +kernel
theorem dX8_high_59 : decode cX8_high 59 = .ok (.getfield 268, 3) := by decide +kernel
theorem dX8_high_62 : decode cX8_high 62 = .ok (.if_icmp .ge 50, 3) := by decide +kernel
theorem dX8_high_65 : decode cX8_high 65 = .ok (.iload_n 3, 1) := by decide +kernel
theorem dX8_high_66 : decode cX8_high 66 = .ok (.iload 6, 2) := by decide +kernel
theorem dX8_high_68 : decode cX8_high 68 = .ok (.ishr, 1) := by decide +kernel
theorem dX8_high_69 : decode cX8_high 69 = .ok (.iconst 1, 1) := by decide +kernel
theorem dX8_high_70 : decode cX8_high 70 = .ok (.iand, 1) := by decide +kernel
theorem dX8_high_71 : decode cX8_high 71 = .ok (.iconst 1, 1) := by decide +kernel
theorem dX8_high_72 : decode cX8_high 72 = .ok (.if_icmp .ne 34, 3) := by decide +kernel
theorem dX8_high_75 : decode cX8_high 75 = .ok (.aload_n 0, 1) := by decide +kernel
theorem dX8_high_76 : decode cX8_high 76 = .ok (.getfield 27, 3) := by decide +kernel
theorem dX8_high_79 : decode cX8_high 79 = .ok (.getfield 257, 3) := by decide +kernel
theorem dX8_high_82 : decode cX8_high 82 = .ok (.iload 6, 2) := by decide +kernel
theorem dX8_high_84 : decode cX8_high 84 = .ok (.iaload, 1) := by decide +kernel
theorem dX8_high_85 : decode cX8_high 85 = .ok (.iload 5, 2) := by decide +kernel
theorem dX8_high_87 : decode cX8_high 87 = .ok (.if_icmp .le 19, 3) := by decide +kernel
theorem dX8_high_90 : decode cX8_high 90 = .ok (.aload_n 0, 1) := by decide +kernel
theorem dX8_high_91 : decode cX8_high 91 = .ok (.getfield 27, 3) := by decide +kernel
theorem dX8_high_94 : decode cX8_high 94 = .ok (.getfield 257, 3) := by decide +kernel
theorem dX8_high_97 : decode cX8_high 97 = .ok (.iload 6, 2) := by decide +kernel
theorem dX8_high_99 : decode cX8_high 99 = .ok (.iaload, 1) := by decide +kernel
theorem dX8_high_100 : decode cX8_high 100 = .ok (.istore 5, 2) := by decide +kernel
theorem dX8_high_102 : decode cX8_high 102 = .ok (.iload 6, 2) := by decide +kernel
theorem dX8_high_104 : decode cX8_high 104 = .ok (.istore 4, 2) := by decide +kernel
theorem dX8_high_106 : decode cX8_high 106 = .ok (.iinc 6 1, 3) := by decide +kernel
theorem dX8_high_109 : decode cX8_high 109 = .ok (.goto (-56), 3) := by decide +kernel
theorem dX8_high_112 : decode cX8_high 112 = .ok (.iload 4, 2) := by decide +kernel
theorem dX8_high_114 : decode cX8_high 114 = .ok (.ireturn, 1) := by decide +kernel
theorem dX8_parts_0 : decode cX8_parts 0 = .ok (.aload_n 0, 1) := by decide +kernel
theorem dX8_parts_1 : decode cX8_parts 1 = .ok (.getfield 27, 3) := by decide +kernel
theorem dX8_parts_4 : decode cX8_parts 4 = .ok (.iload_n 1, 1) := by decide +kernel
theorem dX8_parts_5 : decode cX8_parts 5 = .ok (.invokevirtual 164, 3) := by decide +kernel
theorem dX8_parts_8 : decode cX8_parts 8 = .ok (.ifCond .eq 13, 3) := by decide +kernel
theorem dX8_parts_11 : decode cX8_parts 11 = .ok (.iload_n 2, 1) := by decide +kernel
theorem dX8_parts_12 : decode cX8_parts 12 = .ok (.ifCond .lt 9, 3) := by decide +kernel
theorem dX8_parts_15 : decode cX8_parts 15 = .ok (.iload_n 2, 1) := by decide +kernel
theorem dX8_parts_16 : decode cX8_parts 16 = .ok (.bipush 99, 2) := by decide +kernel
theorem dX8_parts_18 : decode cX8_parts 18 = .ok (.if_icmp .le 6, 3) := by decide +kernel
theorem dX8_parts_21 : decode cX8_parts 21 = .ok (.bipush (-2), 2) := by decide +kernel
theorem dX8_parts_23 : decode cX8_parts 23 = .ok (.ireturn, 1) := by decide +kernel
theorem dX8_parts_24 : decode cX8_parts 24 = .ok (.aload_n 0, 1) := by decide +kernel
theorem dX8_parts_25 : decode cX8_parts 25 = .ok (.getfield 27, 3) := by decide +kernel
theorem dX8_parts_28 : decode cX8_parts 28 = .ok (.iload_n 2, 1) := by decide +kernel
theorem dX8_parts_29 : decode cX8_parts 29 = .ok (.iload_n 1, 1) := by decide +kernel
theorem dX8_parts_30 : decode cX8_parts 30 = .ok (.iconst (-1), 1) := by decide +kernel
theorem dX8_parts_31 : decode cX8_parts 31 = .ok (.invokevirtual 271, 3) := by decide +kernel
theorem dX8_parts_34 : decode cX8_parts 34 = .ok (.istore_n 3, 1) := by decide +kernel
theorem dX8_parts_35 : decode cX8_parts 35 = .ok (.iconst 0, 1) := by decide +kernel
theorem dX8_parts_36 : decode cX8_parts 36 = .ok (.istore 4, 2) := by decide +kernel
theorem dX8_parts_38 : decode cX8_parts 38 = .ok (.iconst 0, 1) := by decide +kernel
theorem dX8_parts_39 : decode cX8_parts 39 = .ok (.istore 5, 2) := by decide +kernel
theorem dX8_parts_41 : decode cX8_parts 41 = .ok (.iconst 0, 1) := by decide +kernel
theorem dX8_parts_42 : decode cX8_parts 42 = .ok (.istore 6, 2) := by decide +kernel
theorem dX8_parts_44 : decode cX8_parts 44 = .ok (.iload 6, 2) := by decide +kernel
theorem dX8_parts_46 : decode cX8_parts 46 = .ok (.aload_n 0, 1) := by decide +kernel
theorem dX8_parts_47 : decode cX8_parts 47 = .ok (.getfield 27, 3) := by decide +kernel
theorem dX8_parts_50 : decode cX8_parts 50 = .ok (.getfield 268, 3) := by decide +kernel
theorem dX8_parts_53 : decode cX8_parts 53 = .ok (.if_icmp .ge 37, 3) := by decide +kernel
theorem dX8_parts_56 : decode cX8_parts 56 = .ok (.iload 4, 2) := by decide +kernel
theorem dX8_parts_58 : decode cX8_parts 58 = .ok (.iload 6, 2) := by decide +kernel
theorem dX8_parts_60 : decode cX8_parts 60 = .ok (.ishr, 1) := by decide +kernel
theorem dX8_parts_61 : decode cX8_parts 61 = .ok (.iconst 1, 1) := by decide +kernel
theorem dX8_parts_62 : decode cX8_parts 62 = .ok (.iand, 1) := by decide +kernel
theorem dX8_parts_63 : decode cX8_parts 63 = .ok (.ifCond .ne 21, 3) := by decide +kernel
theorem dX8_parts_66 : decode cX8_parts 66 = .ok (.iload 4, 2) := by decide +kernel
theorem dX8_parts_68 : decode cX8_parts 68 = .ok (.aload_n 0, 1) := by decide +kernel
theorem dX8_parts_69 : decode cX8_parts 69 = .ok (.getfield 27, 3) := by decide +kernel
theorem dX8_parts_72 : decode cX8_parts 72 = .ok (.iload 6, 2) := by decide +kernel
theorem dX8_parts_74 : decode cX8_parts 74 = .ok (.iload_n 3, 1) := by decide +kernel
theorem dX8_parts_75 : decode cX8_parts 75 = .ok (.invokevirtual 274, 3) := by decide +kernel
theorem dX8_parts_78 : decode cX8_parts 78 = .ok (.ior, 1) := by decide +kernel
theorem dX8_parts_79 : decode cX8_parts 79 = .ok (.istore 4, 2) := by decide +kernel
theorem dX8_parts_81 : decode cX8_parts 81 = .ok (.iinc 5 1, 3) := by decide +kernel
theorem dX8_parts_84 : decode cX8_parts 84 = .ok (.iinc 6 1, 3) := by decide +kernel
theorem dX8_parts_87 : decode cX8_parts 87 = .ok (.goto (-43), 3) := by decide +kernel
theorem dX8_parts_90 : decode cX8_parts 90 = .ok (.iload 5, 2) := by decide +kernel
theorem dX8_parts_92 : decode cX8_parts 92 = .ok (.ireturn, 1) := by decide +kernel
theorem dX8_cuts_0 : decode cX8_cuts 0 = .ok (.aload_n 0, 1) := by decide +kernel
theorem dX8_cuts_1 : decode cX8_cuts 1 = .ok (.iload_n 1, 1) := by decide +kernel
theorem dX8_cuts_2 : decode cX8_cuts 2 = .ok (.iload_n 2, 1) := by decide +kernel
theorem dX8_cuts_3 : decode cX8_cuts 3 = .ok (.iload_n 3, 1) := by decide +kernel
theorem dX8_cuts_4 : decode cX8_cuts 4 = .ok (.invokevirtual 228, 3) := by decide +kernel
theorem dX8_cuts_7 : decode cX8_cuts 7 = .ok (.ifCond .ne 6, 3) := by decide +kernel
theorem dX8_cuts_10 : decode cX8_cuts 10 = .ok (.bipush (-2), 2) := by decide +kernel
theorem dX8_cuts_12 : decode cX8_cuts 12 = .ok (.ireturn, 1) := by decide +kernel
theorem dX8_cuts_13 : decode cX8_cuts 13 = .ok (.aload_n 0, 1) := by decide +kernel
theorem dX8_cuts_14 : decode cX8_cuts 14 = .ok (.iload_n 1, 1) := by decide +kernel
theorem dX8_cuts_15 : decode cX8_cuts 15 = .ok (.iload_n 2, 1) := by decide +kernel
theorem dX8_cuts_16 : decode cX8_cuts 16 = .ok (.iload_n 3, 1) := by decide +kernel
theorem dX8_cuts_17 : decode cX8_cuts 17 = .ok (.invokevirtual 254, 3) := by decide +kernel
theorem dX8_cuts_20 : decode cX8_cuts 20 = .ok (.ifCond .ne 5, 3) := by decide +kernel
theorem dX8_cuts_23 : decode cX8_cuts 23 = .ok (.iconst (-1), 1) := by decide +kernel
theorem dX8_cuts_24 : decode cX8_cuts 24 = .ok (.ireturn, 1) := by decide +kernel
theorem dX8_cuts_25 : decode cX8_cuts 25 = .ok (.aload_n 0, 1) := by decide +kernel
theorem dX8_cuts_26 : decode cX8_cuts 26 = .ok (.getfield 27, 3) := by decide +kernel
theorem dX8_cuts_29 : decode cX8_cuts 29 = .ok (.aload_n 0, 1) := by decide +kernel
theorem dX8_cuts_30 : decode cX8_cuts 30 = .ok (.getfield 27, 3) := by decide +kernel
theorem dX8_cuts_33 : decode cX8_cuts 33 = .ok (.getfield 277, 3) := by decide +kernel
theorem dX8_cuts_36 : decode cX8_cuts 36 = .ok (.iload_n 1, 1) := by decide +kernel
theorem dX8_cuts_37 : decode cX8_cuts 37 = .ok (.iaload, 1) := by decide +kernel
theorem dX8_cuts_38 : decode cX8_cuts 38 = .ok (.iload_n 3, 1) := by decide +kernel
theorem dX8_cuts_39 : decode cX8_cuts 39 = .ok (.iconst (-1), 1) := by decide +kernel
theorem dX8_cuts_40 : decode cX8_cuts 40 = .ok (.invokevirtual 271, 3) := by decide +kernel
theorem dX8_cuts_43 : decode cX8_cuts 43 = .ok (.istore 4, 2) := by decide +kernel
theorem dX8_cuts_45 : decode cX8_cuts 45 = .ok (.iconst 0, 1) := by decide +kernel
theorem dX8_cuts_46 : decode cX8_cuts 46 = .ok (.istore 5, 2) := by decide +kernel
theorem dX8_cuts_48 : decode cX8_cuts 48 = .ok (.iconst 0, 1) := by decide +kernel
theorem dX8_cuts_49 : decode cX8_cuts 49 = .ok (.istore 6, 2) := by decide +kernel
theorem dX8_cuts_51 : decode cX8_cuts 51 = .ok (.iload 6, 2) := by decide +kernel
theorem dX8_cuts_53 : decode cX8_cuts 53 = .ok (.aload_n 0, 1) := by decide +kernel
theorem dX8_cuts_54 : decode cX8_cuts 54 = .ok (.getfield 27, 3) := by decide +kernel
theorem dX8_cuts_57 : decode cX8_cuts 57 = .ok (.getfield 280, 3) := by decide +kernel
theorem dX8_cuts_60 : decode cX8_cuts 60 = .ok (.if_icmp .ge 54, 3) := by decide +kernel
theorem dX8_cuts_63 : decode cX8_cuts 63 = .ok (.aload_n 0, 1) := by decide +kernel
theorem dX8_cuts_64 : decode cX8_cuts 64 = .ok (.getfield 27, 3) := by decide +kernel
theorem dX8_cuts_67 : decode cX8_cuts 67 = .ok (.aload_n 0, 1) := by decide +kernel
theorem dX8_cuts_68 : decode cX8_cuts 68 = .ok (.getfield 27, 3) := by decide +kernel
theorem dX8_cuts_71 : decode cX8_cuts 71 = .ok (.getfield 265, 3) := by decide +kernel
theorem dX8_cuts_74 : decode cX8_cuts 74 = .ok (.iload_n 1, 1) := by decide +kernel
theorem dX8_cuts_75 : decode cX8_cuts 75 = .ok (.iaload, 1) := by decide +kernel
theorem dX8_cuts_76 : decode cX8_cuts 76 = .ok (.iload 4, 2) := by decide +kernel
theorem dX8_cuts_78 : decode cX8_cuts 78 = .ok (.iconst 1, 1) := by decide +kernel
theorem dX8_cuts_79 : decode cX8_cuts 79 = .ok (.iload 6, 2) := by decide +kernel
theorem dX8_cuts_81 : decode cX8_cuts 81 = .ok (.ishl, 1) := by decide +kernel
theorem dX8_cuts_82 : decode cX8_cuts 82 = .ok (.iconst (-1), 1) := by decide +kernel
theorem dX8_cuts_83 : decode cX8_cuts 83 = .ok (.ixor, 1) := by decide +kernel
theorem dX8_cuts_84 : decode cX8_cuts 84 = .ok (.iand, 1) := by decide +kernel
theorem dX8_cuts_85 : decode cX8_cuts 85 = .ok (.invokevirtual 274, 3) := by decide +kernel
theorem dX8_cuts_88 : decode cX8_cuts 88 = .ok (.istore 7, 2) := by decide +kernel
theorem dX8_cuts_90 : decode cX8_cuts 90 = .ok (.iload 7, 2) := by decide +kernel
theorem dX8_cuts_92 : decode cX8_cuts 92 = .ok (.iload_n 2, 1) := by decide +kernel
theorem dX8_cuts_93 : decode cX8_cuts 93 = .ok (.ishr, 1) := by decide +kernel
theorem dX8_cuts_94 : decode cX8_cuts 94 = .ok (.iconst 1, 1) := by decide +kernel
theorem dX8_cuts_95 : decode cX8_cuts 95 = .ok (.iand, 1) := by decide +kernel
theorem dX8_cuts_96 : decode cX8_cuts 96 = .ok (.ifCond .ne 12, 3) := by decide +kernel
theorem dX8_cuts_99 : decode cX8_cuts 99 = .ok (.iload 5, 2) := by decide +kernel
theorem dX8_cuts_101 : decode cX8_cuts 101 = .ok (.iconst 1, 1) := by decide +kernel
theorem dX8_cuts_102 : decode cX8_cuts 102 = .ok (.iload 6, 2) := by decide +kernel
theorem dX8_cuts_104 : decode cX8_cuts 104 = .ok (.ishl, 1) := by decide +kernel
theorem dX8_cuts_105 : decode cX8_cuts 105 = .ok (.ior, 1) := by decide +kernel
theorem dX8_cuts_106 : decode cX8_cuts 106 = .ok (.istore 5, 2) := by decide +kernel
theorem dX8_cuts_108 : decode cX8_cuts 108 = .ok (.iinc 6 1, 3) := by decide +kernel
theorem dX8_cuts_111 : decode cX8_cuts 111 = .ok (.goto (-60), 3) := by decide +kernel
theorem dX8_cuts_114 : decode cX8_cuts 114 = .ok (.iload 5, 2) := by decide +kernel
theorem dX8_cuts_116 : decode cX8_cuts 116 = .ok (.ireturn, 1) := by decide +kernel
theorem dX8_vain_0 : decode cX8_vain 0 = .ok (.aload_n 0, 1) := by decide +kernel
theorem dX8_vain_1 : decode cX8_vain 1 = .ok (.getfield 27, 3) := by decide +kernel
theorem dX8_vain_4 : decode cX8_vain 4 = .ok (.iload_n 1, 1) := by decide +kernel
theorem dX8_vain_5 : decode cX8_vain 5 = .ok (.invokevirtual 118, 3) := by decide +kernel
theorem dX8_vain_8 : decode cX8_vain 8 = .ok (.ifCond .ne 6, 3) := by decide +kernel
theorem dX8_vain_11 : decode cX8_vain 11 = .ok (.bipush (-2), 2) := by decide +kernel
theorem dX8_vain_13 : decode cX8_vain 13 = .ok (.ireturn, 1) := by decide +kernel
theorem dX8_vain_14 : decode cX8_vain 14 = .ok (.aload_n 0, 1) := by decide +kernel
theorem dX8_vain_15 : decode cX8_vain 15 = .ok (.getfield 27, 3) := by decide +kernel
theorem dX8_vain_18 : decode cX8_vain 18 = .ok (.getfield 125, 3) := by decide +kernel
theorem dX8_vain_21 : decode cX8_vain 21 = .ok (.iload_n 1, 1) := by decide +kernel
theorem dX8_vain_22 : decode cX8_vain 22 = .ok (.iaload, 1) := by decide +kernel
theorem dX8_vain_23 : decode cX8_vain 23 = .ok (.iconst (-1), 1) := by decide +kernel
theorem dX8_vain_24 : decode cX8_vain 24 = .ok (.if_icmp .ne 5, 3) := by decide +kernel
theorem dX8_vain_27 : decode cX8_vain 27 = .ok (.iconst (-1), 1) := by decide +kernel
theorem dX8_vain_28 : decode cX8_vain 28 = .ok (.ireturn, 1) := by decide +kernel
theorem dX8_vain_29 : decode cX8_vain 29 = .ok (.iconst 0, 1) := by decide +kernel
theorem dX8_vain_30 : decode cX8_vain 30 = .ok (.istore_n 2, 1) := by decide +kernel
theorem dX8_vain_31 : decode cX8_vain 31 = .ok (.iload_n 2, 1) := by decide +kernel
theorem dX8_vain_32 : decode cX8_vain 32 = .ok (.aload_n 0, 1) := by decide +kernel
theorem dX8_vain_33 : decode cX8_vain 33 = .ok (.getfield 27, 3) := by decide +kernel
theorem dX8_vain_36 : decode cX8_vain 36 = .ok (.getfield 283, 3) := by decide +kernel
theorem dX8_vain_39 : decode cX8_vain 39 = .ok (.if_icmp .ge 53, 3) := by decide +kernel
theorem dX8_vain_42 : decode cX8_vain 42 = .ok (.iconst 0, 1) := by decide +kernel
theorem dX8_vain_43 : decode cX8_vain 43 = .ok (.istore_n 3, 1) := by decide +kernel
theorem dX8_vain_44 : decode cX8_vain 44 = .ok (.iload_n 3, 1) := by decide +kernel
theorem dX8_vain_45 : decode cX8_vain 45 = .ok (.aload_n 0, 1) := by decide +kernel
theorem dX8_vain_46 : decode cX8_vain 46 = .ok (.getfield 27, 3) := by decide +kernel
theorem dX8_vain_49 : decode cX8_vain 49 = .ok (.getfield 182, 3) := by decide +kernel
theorem dX8_vain_52 : decode cX8_vain 52 = .ok (.if_icmp .ge 34, 3) := by decide +kernel
theorem dX8_vain_55 : decode cX8_vain 55 = .ok (.aload_n 0, 1) := by decide +kernel
theorem dX8_vain_56 : decode cX8_vain 56 = .ok (.getfield 27, 3) := by decide +kernel
theorem dX8_vain_59 : decode cX8_vain 59 = .ok (.iload_n 2, 1) := by decide +kernel
theorem dX8_vain_60 : decode cX8_vain 60 = .ok (.iload_n 3, 1) := by decide +kernel
theorem dX8_vain_61 : decode cX8_vain 61 = .ok (.iconst (-1), 1) := by decide +kernel
theorem dX8_vain_62 : decode cX8_vain 62 = .ok (.invokevirtual 225, 3) := by decide +kernel
theorem dX8_vain_65 : decode cX8_vain 65 = .ok (.aload_n 0, 1) := by decide +kernel
theorem dX8_vain_66 : decode cX8_vain 66 = .ok (.getfield 27, 3) := by decide +kernel
theorem dX8_vain_69 : decode cX8_vain 69 = .ok (.iload_n 2, 1) := by decide +kernel
theorem dX8_vain_70 : decode cX8_vain 70 = .ok (.iload_n 3, 1) := by decide +kernel
theorem dX8_vain_71 : decode cX8_vain 71 = .ok (.iload_n 1, 1) := by decide +kernel
theorem dX8_vain_72 : decode cX8_vain 72 = .ok (.invokevirtual 225, 3) := by decide +kernel
theorem dX8_vain_75 : decode cX8_vain 75 = .ok (.if_icmp .eq 5, 3) := by decide +kernel
theorem dX8_vain_78 : decode cX8_vain 78 = .ok (.iconst 0, 1) := by decide +kernel
theorem dX8_vain_79 : decode cX8_vain 79 = .ok (.ireturn, 1) := by decide +kernel
theorem dX8_vain_80 : decode cX8_vain 80 = .ok (.iinc 3 1, 3) := by decide +kernel
theorem dX8_vain_83 : decode cX8_vain 83 = .ok (.goto (-39), 3) := by decide +kernel
theorem dX8_vain_86 : decode cX8_vain 86 = .ok (.iinc 2 1, 3) := by decide +kernel
theorem dX8_vain_89 : decode cX8_vain 89 = .ok (.goto (-58), 3) := by decide +kernel
theorem dX8_vain_92 : decode cX8_vain 92 = .ok (.iconst 1, 1) := by decide +kernel
theorem dX8_vain_93 : decode cX8_vain 93 = .ok (.ireturn, 1) := by decide +kernel
theorem dX8_need_0 : decode cX8_need 0 = .ok (.aload_n 0, 1) := by decide +kernel
theorem dX8_need_1 : decode cX8_need 1 = .ok (.getfield 27, 3) := by decide +kernel
theorem dX8_need_4 : decode cX8_need 4 = .ok (.iload_n 1, 1) := by decide +kernel
theorem dX8_need_5 : decode cX8_need 5 = .ok (.invokevirtual 222, 3) := by decide +kernel
theorem dX8_need_8 : decode cX8_need 8 = .ok (.ifCond .eq 25, 3) := by decide +kernel
theorem dX8_need_11 : decode cX8_need 11 = .ok (.aload_n 0, 1) := by decide +kernel
theorem dX8_need_12 : decode cX8_need 12 = .ok (.getfield 27, 3) := by decide +kernel
theorem dX8_need_15 : decode cX8_need 15 = .ok (.iload_n 2, 1) := by decide +kernel
theorem dX8_need_16 : decode cX8_need 16 = .ok (.invokevirtual 222, 3) := by decide +kernel
theorem dX8_need_19 : decode cX8_need 19 = .ok (.ifCond .eq 14, 3) := by decide +kernel
theorem dX8_need_22 : decode cX8_need 22 = .ok (.aload_n 0, 1) := by decide +kernel
theorem dX8_need_23 : decode cX8_need 23 = .ok (.getfield 27, 3) := by decide +kernel
theorem dX8_need_26 : decode cX8_need 26 = .ok (.iload_n 3, 1) := by decide +kernel
theorem dX8_need_27 : decode cX8_need 27 = .ok (.invokevirtual 164, 3) := by decide +kernel
theorem dX8_need_30 : decode cX8_need 30 = .ok (.ifCond .ne 6, 3) := by decide +kernel
theorem dX8_need_33 : decode cX8_need 33 = .ok (.bipush (-2), 2) := by decide +kernel
theorem dX8_need_35 : decode cX8_need 35 = .ok (.ireturn, 1) := by decide +kernel
theorem dX8_need_36 : decode cX8_need 36 = .ok (.iconst 0, 1) := by decide +kernel
theorem dX8_need_37 : decode cX8_need 37 = .ok (.istore 4, 2) := by decide +kernel
theorem dX8_need_39 : decode cX8_need 39 = .ok (.iload 4, 2) := by decide +kernel
theorem dX8_need_41 : decode cX8_need 41 = .ok (.aload_n 0, 1) := by decide +kernel
theorem dX8_need_42 : decode cX8_need 42 = .ok (.getfield 27, 3) := by decide +kernel
theorem dX8_need_45 : decode cX8_need 45 = .ok (.getfield 280, 3) := by decide +kernel
theorem dX8_need_48 : decode cX8_need 48 = .ok (.if_icmp .ge 26, 3) := by decide +kernel
theorem dX8_need_51 : decode cX8_need 51 = .ok (.aload_n 0, 1) := by decide +kernel
theorem dX8_need_52 : decode cX8_need 52 = .ok (.getfield 83, 3) := by decide +kernel
theorem dX8_need_55 : decode cX8_need 55 = .ok (.iload 4, 2) := by decide +kernel
theorem dX8_need_57 : decode cX8_need 57 = .ok (.aload_n 0, 1) := by decide +kernel
theorem dX8_need_58 : decode cX8_need 58 = .ok (.getfield 27, 3) := by decide +kernel
theorem dX8_need_61 : decode cX8_need 61 = .ok (.iload 4, 2) := by decide +kernel
theorem dX8_need_63 : decode cX8_need 63 = .ok (.iload_n 3, 1) := by decide +kernel
theorem dX8_need_64 : decode cX8_need 64 = .ok (.invokevirtual 178, 3) := by decide +kernel
theorem dX8_need_67 : decode cX8_need 67 = .ok (.iastore, 1) := by decide +kernel
theorem dX8_need_68 : decode cX8_need 68 = .ok (.iinc 4 1, 3) := by decide +kernel
theorem dX8_need_71 : decode cX8_need 71 = .ok (.goto (-32), 3) := by decide +kernel
theorem dX8_need_74 : decode cX8_need 74 = .ok (.aload_n 0, 1) := by decide +kernel
theorem dX8_need_75 : decode cX8_need 75 = .ok (.iload_n 1, 1) := by decide +kernel
theorem dX8_need_76 : decode cX8_need 76 = .ok (.iload_n 2, 1) := by decide +kernel
theorem dX8_need_77 : decode cX8_need 77 = .ok (.iconst 0, 1) := by decide +kernel
theorem dX8_need_78 : decode cX8_need 78 = .ok (.invokevirtual 286, 3) := by decide +kernel
theorem dX8_need_81 : decode cX8_need 81 = .ok (.ireturn, 1) := by decide +kernel
theorem dX8_sold_0 : decode cX8_sold 0 = .ok (.aload_n 0, 1) := by decide +kernel
theorem dX8_sold_1 : decode cX8_sold 1 = .ok (.iload_n 1, 1) := by decide +kernel
theorem dX8_sold_2 : decode cX8_sold 2 = .ok (.iload_n 2, 1) := by decide +kernel
theorem dX8_sold_3 : decode cX8_sold 3 = .ok (.iload_n 3, 1) := by decide +kernel
theorem dX8_sold_4 : decode cX8_sold 4 = .ok (.invokevirtual 228, 3) := by decide +kernel
theorem dX8_sold_7 : decode cX8_sold 7 = .ok (.ifCond .ne 6, 3) := by decide +kernel
theorem dX8_sold_10 : decode cX8_sold 10 = .ok (.bipush (-2), 2) := by decide +kernel
theorem dX8_sold_12 : decode cX8_sold 12 = .ok (.ireturn, 1) := by decide +kernel
theorem dX8_sold_13 : decode cX8_sold 13 = .ok (.iconst 0, 1) := by decide +kernel
theorem dX8_sold_14 : decode cX8_sold 14 = .ok (.istore 4, 2) := by decide +kernel
theorem dX8_sold_16 : decode cX8_sold 16 = .ok (.iload 4, 2) := by decide +kernel
theorem dX8_sold_18 : decode cX8_sold 18 = .ok (.aload_n 0, 1) := by decide +kernel
theorem dX8_sold_19 : decode cX8_sold 19 = .ok (.getfield 27, 3) := by decide +kernel
theorem dX8_sold_22 : decode cX8_sold 22 = .ok (.getfield 280, 3) := by decide +kernel
theorem dX8_sold_25 : decode cX8_sold 25 = .ok (.if_icmp .ge 35, 3) := by decide +kernel
theorem dX8_sold_28 : decode cX8_sold 28 = .ok (.aload_n 0, 1) := by decide +kernel
theorem dX8_sold_29 : decode cX8_sold 29 = .ok (.getfield 83, 3) := by decide +kernel
theorem dX8_sold_32 : decode cX8_sold 32 = .ok (.iload 4, 2) := by decide +kernel
theorem dX8_sold_34 : decode cX8_sold 34 = .ok (.aload_n 0, 1) := by decide +kernel
theorem dX8_sold_35 : decode cX8_sold 35 = .ok (.getfield 27, 3) := by decide +kernel
theorem dX8_sold_38 : decode cX8_sold 38 = .ok (.iload 4, 2) := by decide +kernel
theorem dX8_sold_40 : decode cX8_sold 40 = .ok (.iload_n 3, 1) := by decide +kernel
theorem dX8_sold_41 : decode cX8_sold 41 = .ok (.aload_n 0, 1) := by decide +kernel
theorem dX8_sold_42 : decode cX8_sold 42 = .ok (.getfield 27, 3) := by decide +kernel
theorem dX8_sold_45 : decode cX8_sold 45 = .ok (.getfield 277, 3) := by decide +kernel
theorem dX8_sold_48 : decode cX8_sold 48 = .ok (.iload_n 1, 1) := by decide +kernel
theorem dX8_sold_49 : decode cX8_sold 49 = .ok (.iaload, 1) := by decide +kernel
theorem dX8_sold_50 : decode cX8_sold 50 = .ok (.invokevirtual 185, 3) := by decide +kernel
theorem dX8_sold_53 : decode cX8_sold 53 = .ok (.iastore, 1) := by decide +kernel
theorem dX8_sold_54 : decode cX8_sold 54 = .ok (.iinc 4 1, 3) := by decide +kernel
theorem dX8_sold_57 : decode cX8_sold 57 = .ok (.goto (-41), 3) := by decide +kernel
theorem dX8_sold_60 : decode cX8_sold 60 = .ok (.aload_n 0, 1) := by decide +kernel
theorem dX8_sold_61 : decode cX8_sold 61 = .ok (.aload_n 0, 1) := by decide +kernel
theorem dX8_sold_62 : decode cX8_sold 62 = .ok (.getfield 27, 3) := by decide +kernel
theorem dX8_sold_65 : decode cX8_sold 65 = .ok (.getfield 265, 3) := by decide +kernel
theorem dX8_sold_68 : decode cX8_sold 68 = .ok (.iload_n 1, 1) := by decide +kernel
theorem dX8_sold_69 : decode cX8_sold 69 = .ok (.iaload, 1) := by decide +kernel
theorem dX8_sold_70 : decode cX8_sold 70 = .ok (.iload_n 2, 1) := by decide +kernel
theorem dX8_sold_71 : decode cX8_sold 71 = .ok (.iconst 1, 1) := by decide +kernel
theorem dX8_sold_72 : decode cX8_sold 72 = .ok (.invokevirtual 286, 3) := by decide +kernel
theorem dX8_sold_75 : decode cX8_sold 75 = .ok (.ireturn, 1) := by decide +kernel
theorem dX8_cheapest_0 : decode cX8_cheapest 0 = .ok (.aload_n 0, 1) := by decide +kernel
theorem dX8_cheapest_1 : decode cX8_cheapest 1 = .ok (.getfield 80, 3) := by decide +kernel
theorem dX8_cheapest_4 : decode cX8_cheapest 4 = .ok (.ldc_w 290, 3) := by decide +kernel
theorem dX8_cheapest_7 : decode cX8_cheapest 7 = .ok (.invokestatic 291, 3) := by decide +kernel
theorem dX8_cheapest_10 : decode cX8_cheapest 10 = .ok (.aload_n 0, 1) := by decide +kernel
theorem dX8_cheapest_11 : decode cX8_cheapest 11 = .ok (.getfield 80, 3) := by decide +kernel
theorem dX8_cheapest_14 : decode cX8_cheapest 14 = .ok (.iload_n 1, 1) := by decide +kernel
theorem dX8_cheapest_15 : decode cX8_cheapest 15 = .ok (.iconst 0, 1) := by decide +kernel
theorem dX8_cheapest_16 : decode cX8_cheapest 16 = .ok (.iastore, 1) := by decide +kernel
theorem dX8_cheapest_17 : decode cX8_cheapest 17 = .ok (.iconst 0, 1) := by decide +kernel
theorem dX8_cheapest_18 : decode cX8_cheapest 18 = .ok (.istore 4, 2) := by decide +kernel
theorem dX8_cheapest_20 : decode cX8_cheapest 20 = .ok (.iload 4, 2) := by decide +kernel
theorem dX8_cheapest_22 : decode cX8_cheapest 22 = .ok (.aload_n 0, 1) := by decide +kernel
theorem dX8_cheapest_23 : decode cX8_cheapest 23 = .ok (.getfield 27, 3) := by decide +kernel
theorem dX8_cheapest_26 : decode cX8_cheapest 26 = .ok (.getfield 268, 3) := by decide +kernel
theorem dX8_cheapest_29 : decode cX8_cheapest 29 = .ok (.if_icmp .ge 105, 3) := by decide +kernel
theorem dX8_cheapest_32 : decode cX8_cheapest 32 = .ok (.iconst 0, 1) := by decide +kernel
theorem dX8_cheapest_33 : decode cX8_cheapest 33 = .ok (.istore 5, 2) := by decide +kernel
theorem dX8_cheapest_35 : decode cX8_cheapest 35 = .ok (.iload 5, 2) := by decide +kernel
theorem dX8_cheapest_37 : decode cX8_cheapest 37 = .ok (.aload_n 0, 1) := by decide +kernel
theorem dX8_cheapest_38 : decode cX8_cheapest 38 = .ok (.getfield 27, 3) := by decide +kernel
theorem dX8_cheapest_41 : decode cX8_cheapest 41 = .ok (.getfield 280, 3) := by decide +kernel
theorem dX8_cheapest_44 : decode cX8_cheapest 44 = .ok (.if_icmp .ge 84, 3) := by decide +kernel
theorem dX8_cheapest_47 : decode cX8_cheapest 47 = .ok (.aload_n 0, 1) := by decide +kernel
theorem dX8_cheapest_48 : decode cX8_cheapest 48 = .ok (.getfield 83, 3) := by decide +kernel
theorem dX8_cheapest_51 : decode cX8_cheapest 51 = .ok (.iload 5, 2) := by decide +kernel
theorem dX8_cheapest_53 : decode cX8_cheapest 53 = .ok (.iaload, 1) := by decide +kernel
theorem dX8_cheapest_54 : decode cX8_cheapest 54 = .ok (.iconst (-1), 1) := by decide +kernel
theorem dX8_cheapest_55 : decode cX8_cheapest 55 = .ok (.if_icmp .eq 67, 3) := by decide +kernel
theorem dX8_cheapest_58 : decode cX8_cheapest 58 = .ok (.aload_n 0, 1) := by decide +kernel
theorem dX8_cheapest_59 : decode cX8_cheapest 59 = .ok (.aload_n 0, 1) := by decide +kernel
theorem dX8_cheapest_60 : decode cX8_cheapest 60 = .ok (.getfield 27, 3) := by decide +kernel
theorem dX8_cheapest_63 : decode cX8_cheapest 63 = .ok (.getfield 108, 3) := by decide +kernel
theorem dX8_cheapest_66 : decode cX8_cheapest 66 = .ok (.iload 5, 2) := by decide +kernel
theorem dX8_cheapest_68 : decode cX8_cheapest 68 = .ok (.iaload, 1) := by decide +kernel
theorem dX8_cheapest_69 : decode cX8_cheapest 69 = .ok (.aload_n 0, 1) := by decide +kernel
theorem dX8_cheapest_70 : decode cX8_cheapest 70 = .ok (.getfield 27, 3) := by decide +kernel
theorem dX8_cheapest_73 : decode cX8_cheapest 73 = .ok (.getfield 111, 3) := by decide +kernel
theorem dX8_cheapest_76 : decode cX8_cheapest 76 = .ok (.iload 5, 2) := by decide +kernel
theorem dX8_cheapest_78 : decode cX8_cheapest 78 = .ok (.iaload, 1) := by decide +kernel
theorem dX8_cheapest_79 : decode cX8_cheapest 79 = .ok (.aload_n 0, 1) := by decide +kernel
theorem dX8_cheapest_80 : decode cX8_cheapest 80 = .ok (.getfield 83, 3) := by decide +kernel
theorem dX8_cheapest_83 : decode cX8_cheapest 83 = .ok (.iload 5, 2) := by decide +kernel
theorem dX8_cheapest_85 : decode cX8_cheapest 85 = .ok (.iaload, 1) := by decide +kernel
theorem dX8_cheapest_86 : decode cX8_cheapest 86 = .ok (.iload_n 3, 1) := by decide +kernel
theorem dX8_cheapest_87 : decode cX8_cheapest 87 = .ok (.invokevirtual 297, 3) := by decide +kernel
theorem dX8_cheapest_90 : decode cX8_cheapest 90 = .ok (.aload_n 0, 1) := by decide +kernel
theorem dX8_cheapest_91 : decode cX8_cheapest 91 = .ok (.aload_n 0, 1) := by decide +kernel
theorem dX8_cheapest_92 : decode cX8_cheapest 92 = .ok (.getfield 27, 3) := by decide +kernel
theorem dX8_cheapest_95 : decode cX8_cheapest 95 = .ok (.getfield 111, 3) := by decide +kernel
theorem dX8_cheapest_98 : decode cX8_cheapest 98 = .ok (.iload 5, 2) := by decide +kernel
theorem dX8_cheapest_100 : decode cX8_cheapest 100 = .ok (.iaload, 1) := by decide +kernel
theorem dX8_cheapest_101 : decode cX8_cheapest 101 = .ok (.aload_n 0, 1) := by decide +kernel
theorem dX8_cheapest_102 : decode cX8_cheapest 102 = .ok (.getfield 27, 3) := by decide +kernel
theorem dX8_cheapest_105 : decode cX8_cheapest 105 = .ok (.getfield 108, 3) := by decide +kernel
theorem dX8_cheapest_108 : decode cX8_cheapest 108 = .ok (.iload 5, 2) := by decide +kernel
theorem dX8_cheapest_110 : decode cX8_cheapest 110 = .ok (.iaload, 1) := by decide +kernel
theorem dX8_cheapest_111 : decode cX8_cheapest 111 = .ok (.aload_n 0, 1) := by decide +kernel
theorem dX8_cheapest_112 : decode cX8_cheapest 112 = .ok (.getfield 83, 3) := by decide +kernel
theorem dX8_cheapest_115 : decode cX8_cheapest 115 = .ok (.iload 5, 2) := by decide +kernel
theorem dX8_cheapest_117 : decode cX8_cheapest 117 = .ok (.iaload, 1) := by decide +kernel
theorem dX8_cheapest_118 : decode cX8_cheapest 118 = .ok (.iload_n 3, 1) := by decide +kernel
theorem dX8_cheapest_119 : decode cX8_cheapest 119 = .ok (.invokevirtual 297, 3) := by decide +kernel
theorem dX8_cheapest_122 : decode cX8_cheapest 122 = .ok (.iinc 5 1, 3) := by decide +kernel
theorem dX8_cheapest_125 : decode cX8_cheapest 125 = .ok (.goto (-90), 3) := by decide +kernel
theorem dX8_cheapest_128 : decode cX8_cheapest 128 = .ok (.iinc 4 1, 3) := by decide +kernel
theorem dX8_cheapest_131 : decode cX8_cheapest 131 = .ok (.goto (-111), 3) := by decide +kernel
theorem dX8_cheapest_134 : decode cX8_cheapest 134 = .ok (.aload_n 0, 1) := by decide +kernel
theorem dX8_cheapest_135 : decode cX8_cheapest 135 = .ok (.getfield 80, 3) := by decide +kernel
theorem dX8_cheapest_138 : decode cX8_cheapest 138 = .ok (.iload_n 2, 1) := by decide +kernel
theorem dX8_cheapest_139 : decode cX8_cheapest 139 = .ok (.iaload, 1) := by decide +kernel
theorem dX8_cheapest_140 : decode cX8_cheapest 140 = .ok (.ldc_w 290, 3) := by decide +kernel
theorem dX8_cheapest_143 : decode cX8_cheapest 143 = .ok (.if_icmp .ge 12, 3) := by decide +kernel
theorem dX8_cheapest_146 : decode cX8_cheapest 146 = .ok (.aload_n 0, 1) := by decide +kernel
theorem dX8_cheapest_147 : decode cX8_cheapest 147 = .ok (.getfield 80, 3) := by decide +kernel
theorem dX8_cheapest_150 : decode cX8_cheapest 150 = .ok (.iload_n 2, 1) := by decide +kernel
theorem dX8_cheapest_151 : decode cX8_cheapest 151 = .ok (.iaload, 1) := by decide +kernel
theorem dX8_cheapest_152 : decode cX8_cheapest 152 = .ok (.goto 4, 3) := by decide +kernel
theorem dX8_cheapest_155 : decode cX8_cheapest 155 = .ok (.iconst (-1), 1) := by decide +kernel
theorem dX8_cheapest_156 : decode cX8_cheapest 156 = .ok (.ireturn, 1) := by decide +kernel
theorem dX8_passPrice_0 : decode cX8_passPrice 0 = .ok (.iload 4, 2) := by decide +kernel
theorem dX8_passPrice_2 : decode cX8_passPrice 2 = .ok (.ifCond .eq 14, 3) := by decide +kernel
theorem dX8_passPrice_5 : decode cX8_passPrice 5 = .ok (.aload_n 0, 1) := by decide +kernel
theorem dX8_passPrice_6 : decode cX8_passPrice 6 = .ok (.getfield 80, 3) := by decide +kernel
theorem dX8_passPrice_9 : decode cX8_passPrice 9 = .ok (.iload_n 1, 1) := by decide +kernel
theorem dX8_passPrice_10 : decode cX8_passPrice 10 = .ok (.iaload, 1) := by decide +kernel
theorem dX8_passPrice_11 : decode cX8_passPrice 11 = .ok (.iload_n 3, 1) := by decide +kernel
theorem dX8_passPrice_12 : decode cX8_passPrice 12 = .ok (.iadd, 1) := by decide +kernel
theorem dX8_passPrice_13 : decode cX8_passPrice 13 = .ok (.goto 13, 3) := by decide +kernel
theorem dX8_passPrice_16 : decode cX8_passPrice 16 = .ok (.aload_n 0, 1) := by decide +kernel
theorem dX8_passPrice_17 : decode cX8_passPrice 17 = .ok (.getfield 80, 3) := by decide +kernel
theorem dX8_passPrice_20 : decode cX8_passPrice 20 = .ok (.iload_n 1, 1) := by decide +kernel
theorem dX8_passPrice_21 : decode cX8_passPrice 21 = .ok (.iaload, 1) := by decide +kernel
theorem dX8_passPrice_22 : decode cX8_passPrice 22 = .ok (.iload_n 3, 1) := by decide +kernel
theorem dX8_passPrice_23 : decode cX8_passPrice 23 = .ok (.invokestatic 260, 3) := by decide +kernel
theorem dX8_passPrice_26 : decode cX8_passPrice 26 = .ok (.istore 5, 2) := by decide +kernel
theorem dX8_passPrice_28 : decode cX8_passPrice 28 = .ok (.aload_n 0, 1) := by decide +kernel
theorem dX8_passPrice_29 : decode cX8_passPrice 29 = .ok (.getfield 80, 3) := by decide +kernel
theorem dX8_passPrice_32 : decode cX8_passPrice 32 = .ok (.iload_n 2, 1) := by decide +kernel
theorem dX8_passPrice_33 : decode cX8_passPrice 33 = .ok (.aload_n 0, 1) := by decide +kernel
theorem dX8_passPrice_34 : decode cX8_passPrice 34 = .ok (.getfield 80, 3) := by decide +kernel
theorem dX8_passPrice_37 : decode cX8_passPrice 37 = .ok (.iload_n 2, 1) := by decide +kernel
theorem dX8_passPrice_38 : decode cX8_passPrice 38 = .ok (.iaload, 1) := by decide +kernel
theorem dX8_passPrice_39 : decode cX8_passPrice 39 = .ok (.iload 5, 2) := by decide +kernel
theorem dX8_passPrice_41 : decode cX8_passPrice 41 = .ok (.invokestatic 301, 3) := by decide +kernel
theorem dX8_passPrice_44 : decode cX8_passPrice 44 = .ok (.iastore, 1) := by decide +kernel
theorem dX8_passPrice_45 : decode cX8_passPrice 45 = .ok (.return_, 1) := by decide +kernel
theorem dX8_more_0 : decode cX8_more 0 = .ok (.aload_n 0, 1) := by decide +kernel
theorem dX8_more_1 : decode cX8_more 1 = .ok (.iload_n 1, 1) := by decide +kernel
theorem dX8_more_2 : decode cX8_more 2 = .ok (.iload_n 2, 1) := by decide +kernel
theorem dX8_more_3 : decode cX8_more 3 = .ok (.iload_n 3, 1) := by decide +kernel
theorem dX8_more_4 : decode cX8_more 4 = .ok (.invokevirtual 228, 3) := by decide +kernel
theorem dX8_more_7 : decode cX8_more 7 = .ok (.ifCond .eq 16, 3) := by decide +kernel
theorem dX8_more_10 : decode cX8_more 10 = .ok (.iload 4, 2) := by decide +kernel
theorem dX8_more_12 : decode cX8_more 12 = .ok (.iconst 1, 1) := by decide +kernel
theorem dX8_more_13 : decode cX8_more 13 = .ok (.if_icmp .lt 10, 3) := by decide +kernel
theorem dX8_more_16 : decode cX8_more 16 = .ok (.iload 4, 2) := by decide +kernel
theorem dX8_more_18 : decode cX8_more 18 = .ok (.bipush 9, 2) := by decide +kernel
theorem dX8_more_20 : decode cX8_more 20 = .ok (.if_icmp .le 6, 3) := by decide +kernel
theorem dX8_more_23 : decode cX8_more 23 = .ok (.bipush (-2), 2) := by decide +kernel
theorem dX8_more_25 : decode cX8_more 25 = .ok (.ireturn, 1) := by decide +kernel
theorem dX8_more_26 : decode cX8_more 26 = .ok (.aload_n 0, 1) := by decide +kernel
theorem dX8_more_27 : decode cX8_more 27 = .ok (.iload_n 1, 1) := by decide +kernel
theorem dX8_more_28 : decode cX8_more 28 = .ok (.iload_n 2, 1) := by decide +kernel
theorem dX8_more_29 : decode cX8_more 29 = .ok (.iload_n 3, 1) := by decide +kernel
theorem dX8_more_30 : decode cX8_more 30 = .ok (.invokevirtual 254, 3) := by decide +kernel
theorem dX8_more_33 : decode cX8_more 33 = .ok (.ifCond .eq 5, 3) := by decide +kernel
theorem dX8_more_36 : decode cX8_more 36 = .ok (.iconst (-1), 1) := by decide +kernel
theorem dX8_more_37 : decode cX8_more 37 = .ok (.ireturn, 1) := by decide +kernel
theorem dX8_more_38 : decode cX8_more 38 = .ok (.aload_n 0, 1) := by decide +kernel
theorem dX8_more_39 : decode cX8_more 39 = .ok (.getfield 27, 3) := by decide +kernel
theorem dX8_more_42 : decode cX8_more 42 = .ok (.aload_n 0, 1) := by decide +kernel
theorem dX8_more_43 : decode cX8_more 43 = .ok (.getfield 27, 3) := by decide +kernel
theorem dX8_more_46 : decode cX8_more 46 = .ok (.getfield 277, 3) := by decide +kernel
theorem dX8_more_49 : decode cX8_more 49 = .ok (.iload_n 1, 1) := by decide +kernel
theorem dX8_more_50 : decode cX8_more 50 = .ok (.iaload, 1) := by decide +kernel
theorem dX8_more_51 : decode cX8_more 51 = .ok (.iload_n 3, 1) := by decide +kernel
theorem dX8_more_52 : decode cX8_more 52 = .ok (.iconst (-1), 1) := by decide +kernel
theorem dX8_more_53 : decode cX8_more 53 = .ok (.invokevirtual 271, 3) := by decide +kernel
theorem dX8_more_56 : decode cX8_more 56 = .ok (.istore 5, 2) := by decide +kernel
theorem dX8_more_58 : decode cX8_more 58 = .ok (.iconst 0, 1) := by decide +kernel
theorem dX8_more_59 : decode cX8_more 59 = .ok (.istore 6, 2) := by decide +kernel
theorem dX8_more_61 : decode cX8_more 61 = .ok (.iload 6, 2) := by decide +kernel
theorem dX8_more_63 : decode cX8_more 63 = .ok (.aload_n 0, 1) := by decide +kernel
theorem dX8_more_64 : decode cX8_more 64 = .ok (.getfield 27, 3) := by decide +kernel
theorem dX8_more_67 : decode cX8_more 67 = .ok (.getfield 280, 3) := by decide +kernel
theorem dX8_more_70 : decode cX8_more 70 = .ok (.if_icmp .ge 81, 3) := by decide +kernel
theorem dX8_more_73 : decode cX8_more 73 = .ok (.aload_n 0, 1) := by decide +kernel
theorem dX8_more_74 : decode cX8_more 74 = .ok (.getfield 27, 3) := by decide +kernel
theorem dX8_more_77 : decode cX8_more 77 = .ok (.iload 6, 2) := by decide +kernel
theorem dX8_more_79 : decode cX8_more 79 = .ok (.iload_n 3, 1) := by decide +kernel
theorem dX8_more_80 : decode cX8_more 80 = .ok (.aload_n 0, 1) := by decide +kernel
theorem dX8_more_81 : decode cX8_more 81 = .ok (.getfield 27, 3) := by decide +kernel
theorem dX8_more_84 : decode cX8_more 84 = .ok (.getfield 277, 3) := by decide +kernel
theorem dX8_more_87 : decode cX8_more 87 = .ok (.iload_n 1, 1) := by decide +kernel
theorem dX8_more_88 : decode cX8_more 88 = .ok (.iaload, 1) := by decide +kernel
theorem dX8_more_89 : decode cX8_more 89 = .ok (.invokevirtual 185, 3) := by decide +kernel
theorem dX8_more_92 : decode cX8_more 92 = .ok (.istore 7, 2) := by decide +kernel
theorem dX8_more_94 : decode cX8_more 94 = .ok (.iload 7, 2) := by decide +kernel
theorem dX8_more_96 : decode cX8_more 96 = .ok (.iconst (-1), 1) := by decide +kernel
theorem dX8_more_97 : decode cX8_more 97 = .ok (.if_icmp .eq 48, 3) := by decide +kernel
theorem dX8_more_100 : decode cX8_more 100 = .ok (.iload 7, 2) := by decide +kernel
theorem dX8_more_102 : decode cX8_more 102 = .ok (.iload 4, 2) := by decide +kernel
theorem dX8_more_104 : decode cX8_more 104 = .ok (.if_icmp .gt 41, 3) := by decide +kernel
theorem dX8_more_107 : decode cX8_more 107 = .ok (.aload_n 0, 1) := by decide +kernel
theorem dX8_more_108 : decode cX8_more 108 = .ok (.getfield 27, 3) := by decide +kernel
theorem dX8_more_111 : decode cX8_more 111 = .ok (.aload_n 0, 1) := by decide +kernel
theorem dX8_more_112 : decode cX8_more 112 = .ok (.getfield 27, 3) := by decide +kernel
theorem dX8_more_115 : decode cX8_more 115 = .ok (.getfield 265, 3) := by decide +kernel
theorem dX8_more_118 : decode cX8_more 118 = .ok (.iload_n 1, 1) := by decide +kernel
theorem dX8_more_119 : decode cX8_more 119 = .ok (.iaload, 1) := by decide +kernel
theorem dX8_more_120 : decode cX8_more 120 = .ok (.iload 5, 2) := by decide +kernel
theorem dX8_more_122 : decode cX8_more 122 = .ok (.iconst 1, 1) := by decide +kernel
theorem dX8_more_123 : decode cX8_more 123 = .ok (.iload 6, 2) := by decide +kernel
theorem dX8_more_125 : decode cX8_more 125 = .ok (.ishl, 1) := by decide +kernel
theorem dX8_more_126 : decode cX8_more 126 = .ok (.ior, 1) := by decide +kernel
theorem dX8_more_127 : decode cX8_more 127 = .ok (.invokevirtual 274, 3) := by decide +kernel
theorem dX8_more_130 : decode cX8_more 130 = .ok (.istore 8, 2) := by decide +kernel
theorem dX8_more_132 : decode cX8_more 132 = .ok (.iload 8, 2) := by decide +kernel
theorem dX8_more_134 : decode cX8_more 134 = .ok (.iload_n 2, 1) := by decide +kernel
theorem dX8_more_135 : decode cX8_more 135 = .ok (.ishr, 1) := by decide +kernel
theorem dX8_more_136 : decode cX8_more 136 = .ok (.iconst 1, 1) := by decide +kernel
theorem dX8_more_137 : decode cX8_more 137 = .ok (.iand, 1) := by decide +kernel
theorem dX8_more_138 : decode cX8_more 138 = .ok (.iconst 1, 1) := by decide +kernel
theorem dX8_more_139 : decode cX8_more 139 = .ok (.if_icmp .ne 6, 3) := by decide +kernel
theorem dX8_more_142 : decode cX8_more 142 = .ok (.iload 6, 2) := by decide +kernel
theorem dX8_more_144 : decode cX8_more 144 = .ok (.ireturn, 1) := by decide +kernel
theorem dX8_more_145 : decode cX8_more 145 = .ok (.iinc 6 1, 3) := by decide +kernel
theorem dX8_more_148 : decode cX8_more 148 = .ok (.goto (-87), 3) := by decide +kernel
theorem dX8_more_151 : decode cX8_more 151 = .ok (.iconst (-1), 1) := by decide +kernel
theorem dX8_more_152 : decode cX8_more 152 = .ok (.ireturn, 1) := by decide +kernel
theorem dX8_searchComing_0 : decode cX8_searchComing 0 = .ok (.aload_n 0, 1) := by decide +kernel
theorem dX8_searchComing_1 : decode cX8_searchComing 1 = .ok (.getfield 65, 3) := by decide +kernel
theorem dX8_searchComing_4 : decode cX8_searchComing 4 = .ok (.aload_n 0, 1) := by decide +kernel
theorem dX8_searchComing_5 : decode cX8_searchComing 5 = .ok (.getfield 27, 3) := by decide +kernel
theorem dX8_searchComing_8 : decode cX8_searchComing 8 = .ok (.iload_n 1, 1) := by decide +kernel
theorem dX8_searchComing_9 : decode cX8_searchComing 9 = .ok (.iload_n 2, 1) := by decide +kernel
theorem dX8_searchComing_10 : decode cX8_searchComing 10 = .ok (.iload_n 3, 1) := by decide +kernel
theorem dX8_searchComing_11 : decode cX8_searchComing 11 = .ok (.iload 4, 2) := by decide +kernel
theorem dX8_searchComing_13 : decode cX8_searchComing 13 = .ok (.invokevirtual 304, 3) := by decide +kernel
theorem dX8_searchComing_16 : decode cX8_searchComing 16 = .ok (.aload_n 0, 1) := by decide +kernel
theorem dX8_searchComing_17 : decode cX8_searchComing 17 = .ok (.getfield 58, 3) := by decide +kernel
theorem dX8_searchComing_20 : decode cX8_searchComing 20 = .ok (.aload_n 0, 1) := by decide +kernel
theorem dX8_searchComing_21 : decode cX8_searchComing 21 = .ok (.getfield 27, 3) := by decide +kernel
theorem dX8_searchComing_24 : decode cX8_searchComing 24 = .ok (.aload_n 0, 1) := by decide +kernel
theorem dX8_searchComing_25 : decode cX8_searchComing 25 = .ok (.getfield 65, 3) := by decide +kernel
theorem dX8_searchComing_28 : decode cX8_searchComing 28 = .ok (.invokevirtual 308, 3) := by decide +kernel
theorem dX8_searchComing_31 : decode cX8_searchComing 31 = .ok (.return_, 1) := by decide +kernel
theorem dX8_fewest_0 : decode cX8_fewest 0 = .ok (.aload_n 0, 1) := by decide +kernel
theorem dX8_fewest_1 : decode cX8_fewest 1 = .ok (.iload_n 1, 1) := by decide +kernel
theorem dX8_fewest_2 : decode cX8_fewest 2 = .ok (.iload_n 2, 1) := by decide +kernel
theorem dX8_fewest_3 : decode cX8_fewest 3 = .ok (.iload_n 3, 1) := by decide +kernel
theorem dX8_fewest_4 : decode cX8_fewest 4 = .ok (.invokevirtual 228, 3) := by decide +kernel
theorem dX8_fewest_7 : decode cX8_fewest 7 = .ok (.ifCond .ne 6, 3) := by decide +kernel
theorem dX8_fewest_10 : decode cX8_fewest 10 = .ok (.bipush (-2), 2) := by decide +kernel
theorem dX8_fewest_12 : decode cX8_fewest 12 = .ok (.ireturn, 1) := by decide +kernel
theorem dX8_fewest_13 : decode cX8_fewest 13 = .ok (.aload_n 0, 1) := by decide +kernel
theorem dX8_fewest_14 : decode cX8_fewest 14 = .ok (.iload_n 1, 1) := by decide +kernel
theorem dX8_fewest_15 : decode cX8_fewest 15 = .ok (.iload_n 1, 1) := by decide +kernel
theorem dX8_fewest_16 : decode cX8_fewest 16 = .ok (.iconst 1, 1) := by decide +kernel
theorem dX8_fewest_17 : decode cX8_fewest 17 = .ok (.iadd, 1) := by decide +kernel
theorem dX8_fewest_18 : decode cX8_fewest 18 = .ok (.iload_n 2, 1) := by decide +kernel
theorem dX8_fewest_19 : decode cX8_fewest 19 = .ok (.iload_n 3, 1) := by decide +kernel
theorem dX8_fewest_20 : decode cX8_fewest 20 = .ok (.invokevirtual 312, 3) := by decide +kernel
theorem dX8_fewest_23 : decode cX8_fewest 23 = .ok (.aload_n 0, 1) := by decide +kernel
theorem dX8_fewest_24 : decode cX8_fewest 24 = .ok (.getfield 58, 3) := by decide +kernel
theorem dX8_fewest_27 : decode cX8_fewest 27 = .ok (.getfield 316, 3) := by decide +kernel
theorem dX8_fewest_30 : decode cX8_fewest 30 = .ok (.ireturn, 1) := by decide +kernel
theorem dX8_whom_0 : decode cX8_whom 0 = .ok (.aload_n 0, 1) := by decide +kernel
theorem dX8_whom_1 : decode cX8_whom 1 = .ok (.iload_n 1, 1) := by decide +kernel
theorem dX8_whom_2 : decode cX8_whom 2 = .ok (.iload_n 2, 1) := by decide +kernel
theorem dX8_whom_3 : decode cX8_whom 3 = .ok (.iload_n 3, 1) := by decide +kernel
theorem dX8_whom_4 : decode cX8_whom 4 = .ok (.invokevirtual 228, 3) := by decide +kernel
theorem dX8_whom_7 : decode cX8_whom 7 = .ok (.ifCond .eq 15, 3) := by decide +kernel
theorem dX8_whom_10 : decode cX8_whom 10 = .ok (.aload_n 0, 1) := by decide +kernel
theorem dX8_whom_11 : decode cX8_whom 11 = .ok (.getfield 27, 3) := by decide +kernel
theorem dX8_whom_14 : decode cX8_whom 14 = .ok (.iload 4, 2) := by decide +kernel
theorem dX8_whom_16 : decode cX8_whom 16 = .ok (.invokevirtual 118, 3) := by decide +kernel
theorem dX8_whom_19 : decode cX8_whom 19 = .ok (.ifCond .ne 6, 3) := by decide +kernel
theorem dX8_whom_22 : decode cX8_whom 22 = .ok (.bipush (-2), 2) := by decide +kernel
theorem dX8_whom_24 : decode cX8_whom 24 = .ok (.ireturn, 1) := by decide +kernel
theorem dX8_whom_25 : decode cX8_whom 25 = .ok (.aload_n 0, 1) := by decide +kernel
theorem dX8_whom_26 : decode cX8_whom 26 = .ok (.iload_n 1, 1) := by decide +kernel
theorem dX8_whom_27 : decode cX8_whom 27 = .ok (.iload_n 1, 1) := by decide +kernel
theorem dX8_whom_28 : decode cX8_whom 28 = .ok (.iconst 1, 1) := by decide +kernel
theorem dX8_whom_29 : decode cX8_whom 29 = .ok (.iadd, 1) := by decide +kernel
theorem dX8_whom_30 : decode cX8_whom 30 = .ok (.iload_n 2, 1) := by decide +kernel
theorem dX8_whom_31 : decode cX8_whom 31 = .ok (.iload_n 3, 1) := by decide +kernel
theorem dX8_whom_32 : decode cX8_whom 32 = .ok (.invokevirtual 312, 3) := by decide +kernel
theorem dX8_whom_35 : decode cX8_whom 35 = .ok (.aload_n 0, 1) := by decide +kernel
theorem dX8_whom_36 : decode cX8_whom 36 = .ok (.getfield 58, 3) := by decide +kernel
theorem dX8_whom_39 : decode cX8_whom 39 = .ok (.getfield 319, 3) := by decide +kernel
theorem dX8_whom_42 : decode cX8_whom 42 = .ok (.iload 4, 2) := by decide +kernel
theorem dX8_whom_44 : decode cX8_whom 44 = .ok (.iaload, 1) := by decide +kernel
theorem dX8_whom_45 : decode cX8_whom 45 = .ok (.ireturn, 1) := by decide +kernel
theorem dX8_all_0 : decode cX8_all 0 = .ok (.aload_n 0, 1) := by decide +kernel
theorem dX8_all_1 : decode cX8_all 1 = .ok (.getfield 27, 3) := by decide +kernel
theorem dX8_all_4 : decode cX8_all 4 = .ok (.iload_n 1, 1) := by decide +kernel
theorem dX8_all_5 : decode cX8_all 5 = .ok (.invokevirtual 222, 3) := by decide +kernel
theorem dX8_all_8 : decode cX8_all 8 = .ok (.ifCond .eq 14, 3) := by decide +kernel
theorem dX8_all_11 : decode cX8_all 11 = .ok (.aload_n 0, 1) := by decide +kernel
theorem dX8_all_12 : decode cX8_all 12 = .ok (.getfield 27, 3) := by decide +kernel
theorem dX8_all_15 : decode cX8_all 15 = .ok (.iload_n 2, 1) := by decide +kernel
theorem dX8_all_16 : decode cX8_all 16 = .ok (.invokevirtual 164, 3) := by decide +kernel
theorem dX8_all_19 : decode cX8_all 19 = .ok (.ifCond .ne 6, 3) := by decide +kernel
theorem dX8_all_22 : decode cX8_all 22 = .ok (.bipush (-2), 2) := by decide +kernel
theorem dX8_all_24 : decode cX8_all 24 = .ok (.ireturn, 1) := by decide +kernel
theorem dX8_all_25 : decode cX8_all 25 = .ok (.aload_n 0, 1) := by decide +kernel
theorem dX8_all_26 : decode cX8_all 26 = .ok (.iconst 0, 1) := by decide +kernel
theorem dX8_all_27 : decode cX8_all 27 = .ok (.aload_n 0, 1) := by decide +kernel
theorem dX8_all_28 : decode cX8_all 28 = .ok (.getfield 27, 3) := by decide +kernel
theorem dX8_all_31 : decode cX8_all 31 = .ok (.getfield 283, 3) := by decide +kernel
theorem dX8_all_34 : decode cX8_all 34 = .ok (.iload_n 1, 1) := by decide +kernel
theorem dX8_all_35 : decode cX8_all 35 = .ok (.iload_n 2, 1) := by decide +kernel
theorem dX8_all_36 : decode cX8_all 36 = .ok (.invokevirtual 312, 3) := by decide +kernel
theorem dX8_all_39 : decode cX8_all 39 = .ok (.aload_n 0, 1) := by decide +kernel
theorem dX8_all_40 : decode cX8_all 40 = .ok (.getfield 58, 3) := by decide +kernel
theorem dX8_all_43 : decode cX8_all 43 = .ok (.getfield 316, 3) := by decide +kernel
theorem dX8_all_46 : decode cX8_all 46 = .ok (.ireturn, 1) := by decide +kernel
theorem dX8_courtings_0 : decode cX8_courtings 0 = .ok (.aload_n 0, 1) := by decide +kernel
theorem dX8_courtings_1 : decode cX8_courtings 1 = .ok (.iload_n 1, 1) := by decide +kernel
theorem dX8_courtings_2 : decode cX8_courtings 2 = .ok (.iload_n 2, 1) := by decide +kernel
theorem dX8_courtings_3 : decode cX8_courtings 3 = .ok (.iload_n 3, 1) := by decide +kernel
theorem dX8_courtings_4 : decode cX8_courtings 4 = .ok (.invokevirtual 228, 3) := by decide +kernel
theorem dX8_courtings_7 : decode cX8_courtings 7 = .ok (.ifCond .ne 6, 3) := by decide +kernel
theorem dX8_courtings_10 : decode cX8_courtings 10 = .ok (.bipush (-2), 2) := by decide +kernel
theorem dX8_courtings_12 : decode cX8_courtings 12 = .ok (.ireturn, 1) := by decide +kernel
theorem dX8_courtings_13 : decode cX8_courtings 13 = .ok (.aload_n 0, 1) := by decide +kernel
theorem dX8_courtings_14 : decode cX8_courtings 14 = .ok (.iload_n 1, 1) := by decide +kernel
theorem dX8_courtings_15 : decode cX8_courtings 15 = .ok (.iload_n 1, 1) := by decide +kernel
theorem dX8_courtings_16 : decode cX8_courtings 16 = .ok (.iconst 1, 1) := by decide +kernel
theorem dX8_courtings_17 : decode cX8_courtings 17 = .ok (.iadd, 1) := by decide +kernel
theorem dX8_courtings_18 : decode cX8_courtings 18 = .ok (.iload_n 2, 1) := by decide +kernel
theorem dX8_courtings_19 : decode cX8_courtings 19 = .ok (.iload_n 3, 1) := by decide +kernel
theorem dX8_courtings_20 : decode cX8_courtings 20 = .ok (.invokevirtual 312, 3) := by decide +kernel
theorem dX8_courtings_23 : decode cX8_courtings 23 = .ok (.aload_n 0, 1) := by decide +kernel
theorem dX8_courtings_24 : decode cX8_courtings 24 = .ok (.getfield 58, 3) := by decide +kernel
theorem dX8_courtings_27 : decode cX8_courtings 27 = .ok (.getfield 322, 3) := by decide +kernel
theorem dX8_courtings_30 : decode cX8_courtings 30 = .ok (.ireturn, 1) := by decide +kernel
theorem dX8_busy_0 : decode cX8_busy 0 = .ok (.aload_n 0, 1) := by decide +kernel
theorem dX8_busy_1 : decode cX8_busy 1 = .ok (.iload_n 1, 1) := by decide +kernel
theorem dX8_busy_2 : decode cX8_busy 2 = .ok (.iload_n 2, 1) := by decide +kernel
theorem dX8_busy_3 : decode cX8_busy 3 = .ok (.iload_n 3, 1) := by decide +kernel
theorem dX8_busy_4 : decode cX8_busy 4 = .ok (.invokevirtual 228, 3) := by decide +kernel
theorem dX8_busy_7 : decode cX8_busy 7 = .ok (.ifCond .ne 6, 3) := by decide +kernel
theorem dX8_busy_10 : decode cX8_busy 10 = .ok (.bipush (-2), 2) := by decide +kernel
theorem dX8_busy_12 : decode cX8_busy 12 = .ok (.ireturn, 1) := by decide +kernel
theorem dX8_busy_13 : decode cX8_busy 13 = .ok (.aload_n 0, 1) := by decide +kernel
theorem dX8_busy_14 : decode cX8_busy 14 = .ok (.iload_n 1, 1) := by decide +kernel
theorem dX8_busy_15 : decode cX8_busy 15 = .ok (.iload_n 1, 1) := by decide +kernel
theorem dX8_busy_16 : decode cX8_busy 16 = .ok (.iconst 1, 1) := by decide +kernel
theorem dX8_busy_17 : decode cX8_busy 17 = .ok (.iadd, 1) := by decide +kernel
theorem dX8_busy_18 : decode cX8_busy 18 = .ok (.iload_n 2, 1) := by decide +kernel
theorem dX8_busy_19 : decode cX8_busy 19 = .ok (.iload_n 3, 1) := by decide +kernel
theorem dX8_busy_20 : decode cX8_busy 20 = .ok (.invokevirtual 312, 3) := by decide +kernel
theorem dX8_busy_23 : decode cX8_busy 23 = .ok (.aload_n 0, 1) := by decide +kernel
theorem dX8_busy_24 : decode cX8_busy 24 = .ok (.getfield 58, 3) := by decide +kernel
theorem dX8_busy_27 : decode cX8_busy 27 = .ok (.getfield 323, 3) := by decide +kernel
theorem dX8_busy_30 : decode cX8_busy 30 = .ok (.ireturn, 1) := by decide +kernel
theorem dX8_slotAt_0 : decode cX8_slotAt 0 = .ok (.iload_n 1, 1) := by decide +kernel
theorem dX8_slotAt_1 : decode cX8_slotAt 1 = .ok (.ifCond .lt 17, 3) := by decide +kernel
theorem dX8_slotAt_4 : decode cX8_slotAt 4 = .ok (.iload_n 1, 1) := by decide +kernel
theorem dX8_slotAt_5 : decode cX8_slotAt 5 = .ok (.iconst 4, 1) := by decide +kernel
theorem dX8_slotAt_6 : decode cX8_slotAt 6 = .ok (.if_icmp .ge 12, 3) := by decide +kernel
theorem dX8_slotAt_9 : decode cX8_slotAt 9 = .ok (.aload_n 0, 1) := by decide +kernel
theorem dX8_slotAt_10 : decode cX8_slotAt 10 = .ok (.getfield 44, 3) := by decide +kernel
theorem dX8_slotAt_13 : decode cX8_slotAt 13 = .ok (.iload_n 1, 1) := by decide +kernel
theorem dX8_slotAt_14 : decode cX8_slotAt 14 = .ok (.aaload, 1) := by decide +kernel
theorem dX8_slotAt_15 : decode cX8_slotAt 15 = .ok (.goto 4, 3) := by decide +kernel
theorem dX8_slotAt_18 : decode cX8_slotAt 18 = .ok (.aconst_null, 1) := by decide +kernel
theorem dX8_slotAt_19 : decode cX8_slotAt 19 = .ok (.areturn, 1) := by decide +kernel
theorem dX8_refusalOf_0 : decode cX8_refusalOf 0 = .ok (.aload_n 1, 1) := by decide +kernel
theorem dX8_refusalOf_1 : decode cX8_refusalOf 1 = .ok (.ifnull 13, 3) := by decide +kernel
theorem dX8_refusalOf_4 : decode cX8_refusalOf 4 = .ok (.aload_n 0, 1) := by decide +kernel
theorem dX8_refusalOf_5 : decode cX8_refusalOf 5 = .ok (.getfield 27, 3) := by decide +kernel
theorem dX8_refusalOf_8 : decode cX8_refusalOf 8 = .ok (.invokevirtual 157, 3) := by decide +kernel
theorem dX8_refusalOf_11 : decode cX8_refusalOf 11 = .ok (.ifCond .ne 6, 3) := by decide +kernel
theorem dX8_refusalOf_14 : decode cX8_refusalOf 14 = .ok (.bipush (-2), 2) := by decide +kernel
theorem dX8_refusalOf_16 : decode cX8_refusalOf 16 = .ok (.ireturn, 1) := by decide +kernel
theorem dX8_refusalOf_17 : decode cX8_refusalOf 17 = .ok (.aload_n 1, 1) := by decide +kernel
theorem dX8_refusalOf_18 : decode cX8_refusalOf 18 = .ok (.getfield 326, 3) := by decide +kernel
theorem dX8_refusalOf_21 : decode cX8_refusalOf 21 = .ok (.iconst (-1), 1) := by decide +kernel
theorem dX8_refusalOf_22 : decode cX8_refusalOf 22 = .ok (.if_icmp .ne 6, 3) := by decide +kernel
theorem dX8_refusalOf_25 : decode cX8_refusalOf 25 = .ok (.bipush (-6), 2) := by decide +kernel
theorem dX8_refusalOf_27 : decode cX8_refusalOf 27 = .ok (.ireturn, 1) := by decide +kernel
theorem dX8_refusalOf_28 : decode cX8_refusalOf 28 = .ok (.aload_n 1, 1) := by decide +kernel
theorem dX8_refusalOf_29 : decode cX8_refusalOf 29 = .ok (.aload_n 0, 1) := by decide +kernel
theorem dX8_refusalOf_30 : decode cX8_refusalOf 30 = .ok (.getfield 27, 3) := by decide +kernel
theorem dX8_refusalOf_33 : decode cX8_refusalOf 33 = .ok (.invokevirtual 329, 3) := by decide +kernel
theorem dX8_refusalOf_36 : decode cX8_refusalOf 36 = .ok (.ifCond .eq 7, 3) := by decide +kernel
theorem dX8_refusalOf_39 : decode cX8_refusalOf 39 = .ok (.iconst 0, 1) := by decide +kernel
theorem dX8_refusalOf_40 : decode cX8_refusalOf 40 = .ok (.goto 5, 3) := by decide +kernel
theorem dX8_refusalOf_43 : decode cX8_refusalOf 43 = .ok (.bipush (-2), 2) := by decide +kernel
theorem dX8_refusalOf_45 : decode cX8_refusalOf 45 = .ok (.ireturn, 1) := by decide +kernel
theorem dX8_searchAgreeing_0 : decode cX8_searchAgreeing 0 = .ok (.aload_n 0, 1) := by decide +kernel
theorem dX8_searchAgreeing_1 : decode cX8_searchAgreeing 1 = .ok (.iload_n 1, 1) := by decide +kernel
theorem dX8_searchAgreeing_2 : decode cX8_searchAgreeing 2 = .ok (.invokevirtual 333, 3) := by decide +kernel
theorem dX8_searchAgreeing_5 : decode cX8_searchAgreeing 5 = .ok (.astore_n 2, 1) := by decide +kernel
theorem dX8_searchAgreeing_6 : decode cX8_searchAgreeing 6 = .ok (.aload_n 0, 1) := by decide +kernel
theorem dX8_searchAgreeing_7 : decode cX8_searchAgreeing 7 = .ok (.aload_n 2, 1) := by decide +kernel
theorem dX8_searchAgreeing_8 : decode cX8_searchAgreeing 8 = .ok (.invokevirtual 337, 3) := by decide +kernel
theorem dX8_searchAgreeing_11 : decode cX8_searchAgreeing 11 = .ok (.istore_n 3, 1) := by decide +kernel
theorem dX8_searchAgreeing_12 : decode cX8_searchAgreeing 12 = .ok (.iload_n 3, 1) := by decide +kernel
theorem dX8_searchAgreeing_13 : decode cX8_searchAgreeing 13 = .ok (.ifCond .ne 34, 3) := by decide +kernel
theorem dX8_searchAgreeing_16 : decode cX8_searchAgreeing 16 = .ok (.aload_n 2, 1) := by decide +kernel
theorem dX8_searchAgreeing_17 : decode cX8_searchAgreeing 17 = .ok (.ifnull 30, 3) := by decide +kernel
theorem dX8_searchAgreeing_20 : decode cX8_searchAgreeing 20 = .ok (.aload_n 0, 1) := by decide +kernel
theorem dX8_searchAgreeing_21 : decode cX8_searchAgreeing 21 = .ok (.getfield 72, 3) := by decide +kernel
theorem dX8_searchAgreeing_24 : decode cX8_searchAgreeing 24 = .ok (.aload_n 0, 1) := by decide +kernel
theorem dX8_searchAgreeing_25 : decode cX8_searchAgreeing 25 = .ok (.getfield 27, 3) := by decide +kernel
theorem dX8_searchAgreeing_28 : decode cX8_searchAgreeing 28 = .ok (.aload_n 2, 1) := by decide +kernel
theorem dX8_searchAgreeing_29 : decode cX8_searchAgreeing 29 = .ok (.invokevirtual 341, 3) := by decide +kernel
theorem dX8_searchAgreeing_32 : decode cX8_searchAgreeing 32 = .ok (.aload_n 0, 1) := by decide +kernel
theorem dX8_searchAgreeing_33 : decode cX8_searchAgreeing 33 = .ok (.getfield 58, 3) := by decide +kernel
theorem dX8_searchAgreeing_36 : decode cX8_searchAgreeing 36 = .ok (.aload_n 0, 1) := by decide +kernel
theorem dX8_searchAgreeing_37 : decode cX8_searchAgreeing 37 = .ok (.getfield 27, 3) := by decide +kernel
theorem dX8_searchAgreeing_40 : decode cX8_searchAgreeing 40 = .ok (.aload_n 0, 1) := by decide +kernel
theorem dX8_searchAgreeing_41 : decode cX8_searchAgreeing 41 = .ok (.getfield 72, 3) := by decide +kernel
theorem dX8_searchAgreeing_44 : decode cX8_searchAgreeing 44 = .ok (.invokevirtual 308, 3) := by decide +kernel
theorem dX8_searchAgreeing_47 : decode cX8_searchAgreeing 47 = .ok (.iload_n 3, 1) := by decide +kernel
theorem dX8_searchAgreeing_48 : decode cX8_searchAgreeing 48 = .ok (.ireturn, 1) := by decide +kernel
theorem dX8_agree_0 : decode cX8_agree 0 = .ok (.aload_n 0, 1) := by decide +kernel
theorem dX8_agree_1 : decode cX8_agree 1 = .ok (.iload_n 1, 1) := by decide +kernel
theorem dX8_agree_2 : decode cX8_agree 2 = .ok (.invokevirtual 345, 3) := by decide +kernel
theorem dX8_agree_5 : decode cX8_agree 5 = .ok (.istore_n 2, 1) := by decide +kernel
theorem dX8_agree_6 : decode cX8_agree 6 = .ok (.iload_n 2, 1) := by decide +kernel
theorem dX8_agree_7 : decode cX8_agree 7 = .ok (.ifCond .eq 7, 3) := by decide +kernel
theorem dX8_agree_10 : decode cX8_agree 10 = .ok (.iload_n 2, 1) := by decide +kernel
theorem dX8_agree_11 : decode cX8_agree 11 = .ok (.goto 10, 3) := by decide +kernel
theorem dX8_agree_14 : decode cX8_agree 14 = .ok (.aload_n 0, 1) := by decide +kernel
theorem dX8_agree_15 : decode cX8_agree 15 = .ok (.getfield 58, 3) := by decide +kernel
theorem dX8_agree_18 : decode cX8_agree 18 = .ok (.getfield 322, 3) := by decide +kernel
theorem dX8_agree_21 : decode cX8_agree 21 = .ok (.ireturn, 1) := by decide +kernel
theorem dX8_sure_0 : decode cX8_sure 0 = .ok (.aload_n 0, 1) := by decide +kernel
theorem dX8_sure_1 : decode cX8_sure 1 = .ok (.getfield 27, 3) := by decide +kernel
theorem dX8_sure_4 : decode cX8_sure 4 = .ok (.iload_n 2, 1) := by decide +kernel
theorem dX8_sure_5 : decode cX8_sure 5 = .ok (.invokevirtual 118, 3) := by decide +kernel
theorem dX8_sure_8 : decode cX8_sure 8 = .ok (.ifCond .ne 6, 3) := by decide +kernel
theorem dX8_sure_11 : decode cX8_sure 11 = .ok (.bipush (-2), 2) := by decide +kernel
theorem dX8_sure_13 : decode cX8_sure 13 = .ok (.ireturn, 1) := by decide +kernel
theorem dX8_sure_14 : decode cX8_sure 14 = .ok (.aload_n 0, 1) := by decide +kernel
theorem dX8_sure_15 : decode cX8_sure 15 = .ok (.iload_n 1, 1) := by decide +kernel
theorem dX8_sure_16 : decode cX8_sure 16 = .ok (.invokevirtual 345, 3) := by decide +kernel
theorem dX8_sure_19 : decode cX8_sure 19 = .ok (.istore_n 3, 1) := by decide +kernel
theorem dX8_sure_20 : decode cX8_sure 20 = .ok (.iload_n 3, 1) := by decide +kernel
theorem dX8_sure_21 : decode cX8_sure 21 = .ok (.ifCond .eq 7, 3) := by decide +kernel
theorem dX8_sure_24 : decode cX8_sure 24 = .ok (.iload_n 3, 1) := by decide +kernel
theorem dX8_sure_25 : decode cX8_sure 25 = .ok (.goto 11, 3) := by decide +kernel
theorem dX8_sure_28 : decode cX8_sure 28 = .ok (.aload_n 0, 1) := by decide +kernel
theorem dX8_sure_29 : decode cX8_sure 29 = .ok (.getfield 58, 3) := by decide +kernel
theorem dX8_sure_32 : decode cX8_sure 32 = .ok (.iload_n 2, 1) := by decide +kernel
theorem dX8_sure_33 : decode cX8_sure 33 = .ok (.invokevirtual 348, 3) := by decide +kernel
theorem dX8_sure_36 : decode cX8_sure 36 = .ok (.ireturn, 1) := by decide +kernel
theorem dX8_kindly_0 : decode cX8_kindly 0 = .ok (.aload_n 0, 1) := by decide +kernel
theorem dX8_kindly_1 : decode cX8_kindly 1 = .ok (.iload_n 1, 1) := by decide +kernel
theorem dX8_kindly_2 : decode cX8_kindly 2 = .ok (.invokevirtual 345, 3) := by decide +kernel
theorem dX8_kindly_5 : decode cX8_kindly 5 = .ok (.istore_n 2, 1) := by decide +kernel
theorem dX8_kindly_6 : decode cX8_kindly 6 = .ok (.iload_n 2, 1) := by decide +kernel
theorem dX8_kindly_7 : decode cX8_kindly 7 = .ok (.ifCond .eq 7, 3) := by decide +kernel
theorem dX8_kindly_10 : decode cX8_kindly 10 = .ok (.iload_n 2, 1) := by decide +kernel
theorem dX8_kindly_11 : decode cX8_kindly 11 = .ok (.goto 10, 3) := by decide +kernel
theorem dX8_kindly_14 : decode cX8_kindly 14 = .ok (.aload_n 0, 1) := by decide +kernel
theorem dX8_kindly_15 : decode cX8_kindly 15 = .ok (.getfield 58, 3) := by decide +kernel
theorem dX8_kindly_18 : decode cX8_kindly 18 = .ok (.getfield 316, 3) := by decide +kernel
theorem dX8_kindly_21 : decode cX8_kindly 21 = .ok (.ireturn, 1) := by decide +kernel
theorem dX8_odd_0 : decode cX8_odd 0 = .ok (.aload_n 0, 1) := by decide +kernel
theorem dX8_odd_1 : decode cX8_odd 1 = .ok (.iload_n 1, 1) := by decide +kernel
theorem dX8_odd_2 : decode cX8_odd 2 = .ok (.invokevirtual 333, 3) := by decide +kernel
theorem dX8_odd_5 : decode cX8_odd 5 = .ok (.astore_n 2, 1) := by decide +kernel
theorem dX8_odd_6 : decode cX8_odd 6 = .ok (.aload_n 0, 1) := by decide +kernel
theorem dX8_odd_7 : decode cX8_odd 7 = .ok (.aload_n 2, 1) := by decide +kernel
theorem dX8_odd_8 : decode cX8_odd 8 = .ok (.invokevirtual 337, 3) := by decide +kernel
theorem dX8_odd_11 : decode cX8_odd 11 = .ok (.istore_n 3, 1) := by decide +kernel
theorem dX8_odd_12 : decode cX8_odd 12 = .ok (.iload_n 3, 1) := by decide +kernel
theorem dX8_odd_13 : decode cX8_odd 13 = .ok (.ifCond .ne 7, 3) := by decide +kernel
theorem dX8_odd_16 : decode cX8_odd 16 = .ok (.aload_n 2, 1) := by decide +kernel
theorem dX8_odd_17 : decode cX8_odd 17 = .ok (.ifnonnull 5, 3) := by decide +kernel
theorem dX8_odd_20 : decode cX8_odd 20 = .ok (.iload_n 3, 1) := by decide +kernel
theorem dX8_odd_21 : decode cX8_odd 21 = .ok (.ireturn, 1) := by decide +kernel
theorem dX8_odd_22 : decode cX8_odd 22 = .ok (.iconst 0, 1) := by decide +kernel
theorem dX8_odd_23 : decode cX8_odd 23 = .ok (.istore 4, 2) := by decide +kernel
theorem dX8_odd_25 : decode cX8_odd 25 = .ok (.iload 4, 2) := by decide +kernel
theorem dX8_odd_27 : decode cX8_odd 27 = .ok (.aload_n 2, 1) := by decide +kernel
theorem dX8_odd_28 : decode cX8_odd 28 = .ok (.invokevirtual 351, 3) := by decide +kernel
theorem dX8_odd_31 : decode cX8_odd 31 = .ok (.if_icmp .ge 42, 3) := by decide +kernel
theorem dX8_odd_34 : decode cX8_odd 34 = .ok (.aload_n 0, 1) := by decide +kernel
theorem dX8_odd_35 : decode cX8_odd 35 = .ok (.getfield 27, 3) := by decide +kernel
theorem dX8_odd_38 : decode cX8_odd 38 = .ok (.aload_n 2, 1) := by decide +kernel
theorem dX8_odd_39 : decode cX8_odd 39 = .ok (.iload 4, 2) := by decide +kernel
theorem dX8_odd_41 : decode cX8_odd 41 = .ok (.invokevirtual 355, 3) := by decide +kernel
theorem dX8_odd_44 : decode cX8_odd 44 = .ok (.aload_n 2, 1) := by decide +kernel
theorem dX8_odd_45 : decode cX8_odd 45 = .ok (.iload 4, 2) := by decide +kernel
theorem dX8_odd_47 : decode cX8_odd 47 = .ok (.invokevirtual 358, 3) := by decide +kernel
theorem dX8_odd_50 : decode cX8_odd 50 = .ok (.invokevirtual 178, 3) := by decide +kernel
theorem dX8_odd_53 : decode cX8_odd 53 = .ok (.i2l, 1) := by decide +kernel
theorem dX8_odd_54 : decode cX8_odd 54 = .ok (.aload_n 2, 1) := by decide +kernel
theorem dX8_odd_55 : decode cX8_odd 55 = .ok (.iload 4, 2) := by decide +kernel
theorem dX8_odd_57 : decode cX8_odd 57 = .ok (.invokevirtual 361, 3) := by decide +kernel
theorem dX8_odd_60 : decode cX8_odd 60 = .ok (.lcmp, 1) := by decide +kernel
theorem dX8_odd_61 : decode cX8_odd 61 = .ok (.ifCond .eq 6, 3) := by decide +kernel
theorem dX8_odd_64 : decode cX8_odd 64 = .ok (.iload 4, 2) := by decide +kernel
theorem dX8_odd_66 : decode cX8_odd 66 = .ok (.ireturn, 1) := by decide +kernel
theorem dX8_odd_67 : decode cX8_odd 67 = .ok (.iinc 4 1, 3) := by decide +kernel
theorem dX8_odd_70 : decode cX8_odd 70 = .ok (.goto (-45), 3) := by decide +kernel
theorem dX8_odd_73 : decode cX8_odd 73 = .ok (.iconst (-1), 1) := by decide +kernel
theorem dX8_odd_74 : decode cX8_odd 74 = .ok (.ireturn, 1) := by decide +kernel
theorem dX8_hopes_0 : decode cX8_hopes 0 = .ok (.aload_n 0, 1) := by decide +kernel
theorem dX8_hopes_1 : decode cX8_hopes 1 = .ok (.getfield 27, 3) := by decide +kernel
theorem dX8_hopes_4 : decode cX8_hopes 4 = .ok (.iload_n 1, 1) := by decide +kernel
theorem dX8_hopes_5 : decode cX8_hopes 5 = .ok (.invokevirtual 118, 3) := by decide +kernel
theorem dX8_hopes_8 : decode cX8_hopes 8 = .ok (.ifCond .eq 21, 3) := by decide +kernel
theorem dX8_hopes_11 : decode cX8_hopes 11 = .ok (.aload_n 0, 1) := by decide +kernel
theorem dX8_hopes_12 : decode cX8_hopes 12 = .ok (.getfield 27, 3) := by decide +kernel
theorem dX8_hopes_15 : decode cX8_hopes 15 = .ok (.aload_n 0, 1) := by decide +kernel
theorem dX8_hopes_16 : decode cX8_hopes 16 = .ok (.getfield 27, 3) := by decide +kernel
theorem dX8_hopes_19 : decode cX8_hopes 19 = .ok (.getfield 125, 3) := by decide +kernel
theorem dX8_hopes_22 : decode cX8_hopes 22 = .ok (.iload_n 1, 1) := by decide +kernel
theorem dX8_hopes_23 : decode cX8_hopes 23 = .ok (.invokevirtual 365, 3) := by decide +kernel
theorem dX8_hopes_26 : decode cX8_hopes 26 = .ok (.goto 5, 3) := by decide +kernel
theorem dX8_hopes_29 : decode cX8_hopes 29 = .ok (.bipush (-2), 2) := by decide +kernel
theorem dX8_hopes_31 : decode cX8_hopes 31 = .ok (.ireturn, 1) := by decide +kernel
theorem dX8_peace_0 : decode cX8_peace 0 = .ok (.aload_n 0, 1) := by decide +kernel
theorem dX8_peace_1 : decode cX8_peace 1 = .ok (.getfield 27, 3) := by decide +kernel
theorem dX8_peace_4 : decode cX8_peace 4 = .ok (.invokevirtual 157, 3) := by decide +kernel
theorem dX8_peace_7 : decode cX8_peace 7 = .ok (.ifCond .ne 6, 3) := by decide +kernel
theorem dX8_peace_10 : decode cX8_peace 10 = .ok (.bipush (-2), 2) := by decide +kernel
theorem dX8_peace_12 : decode cX8_peace 12 = .ok (.ireturn, 1) := by decide +kernel
theorem dX8_peace_13 : decode cX8_peace 13 = .ok (.aload_n 0, 1) := by decide +kernel
theorem dX8_peace_14 : decode cX8_peace 14 = .ok (.getfield 27, 3) := by decide +kernel
theorem dX8_peace_17 : decode cX8_peace 17 = .ok (.aload_n 0, 1) := by decide +kernel
theorem dX8_peace_18 : decode cX8_peace 18 = .ok (.getfield 27, 3) := by decide +kernel
theorem dX8_peace_21 : decode cX8_peace 21 = .ok (.getfield 125, 3) := by decide +kernel
theorem dX8_peace_24 : decode cX8_peace 24 = .ok (.invokevirtual 368, 3) := by decide +kernel
theorem dX8_peace_27 : decode cX8_peace 27 = .ok (.iconst (-1), 1) := by decide +kernel
theorem dX8_peace_28 : decode cX8_peace 28 = .ok (.if_icmp .ne 7, 3) := by decide +kernel
theorem dX8_peace_31 : decode cX8_peace 31 = .ok (.iconst 1, 1) := by decide +kernel
theorem dX8_peace_32 : decode cX8_peace 32 = .ok (.goto 4, 3) := by decide +kernel
theorem dX8_peace_35 : decode cX8_peace 35 = .ok (.iconst 0, 1) := by decide +kernel
theorem dX8_peace_36 : decode cX8_peace 36 = .ok (.ireturn, 1) := by decide +kernel
theorem dX8_peaces_0 : decode cX8_peaces 0 = .ok (.aload_n 0, 1) := by decide +kernel
theorem dX8_peaces_1 : decode cX8_peaces 1 = .ok (.getfield 27, 3) := by decide +kernel
theorem dX8_peaces_4 : decode cX8_peaces 4 = .ok (.invokevirtual 157, 3) := by decide +kernel
theorem dX8_peaces_7 : decode cX8_peaces 7 = .ok (.ifCond .eq 13, 3) := by decide +kernel
theorem dX8_peaces_10 : decode cX8_peaces 10 = .ok (.iload_n 1, 1) := by decide +kernel
theorem dX8_peaces_11 : decode cX8_peaces 11 = .ok (.ifCond .lt 9, 3) := by decide +kernel
theorem dX8_peaces_14 : decode cX8_peaces 14 = .ok (.iload_n 1, 1) := by decide +kernel
theorem dX8_peaces_15 : decode cX8_peaces 15 = .ok (.bipush 40, 2) := by decide +kernel
theorem dX8_peaces_17 : decode cX8_peaces 17 = .ok (.if_icmp .le 6, 3) := by decide +kernel
theorem dX8_peaces_20 : decode cX8_peaces 20 = .ok (.bipush (-2), 2) := by decide +kernel
theorem dX8_peaces_22 : decode cX8_peaces 22 = .ok (.ireturn, 1) := by decide +kernel
theorem dX8_peaces_23 : decode cX8_peaces 23 = .ok (.aload_n 0, 1) := by decide +kernel
theorem dX8_peaces_24 : decode cX8_peaces 24 = .ok (.iload_n 1, 1) := by decide +kernel
theorem dX8_peaces_25 : decode cX8_peaces 25 = .ok (.invokevirtual 372, 3) := by decide +kernel
theorem dX8_peaces_28 : decode cX8_peaces 28 = .ok (.ireturn, 1) := by decide +kernel
theorem dX8_then_0 : decode cX8_then 0 = .ok (.aload_n 0, 1) := by decide +kernel
theorem dX8_then_1 : decode cX8_then 1 = .ok (.getfield 27, 3) := by decide +kernel
theorem dX8_then_4 : decode cX8_then 4 = .ok (.iload_n 1, 1) := by decide +kernel
theorem dX8_then_5 : decode cX8_then 5 = .ok (.invokevirtual 118, 3) := by decide +kernel
theorem dX8_then_8 : decode cX8_then 8 = .ok (.ifCond .eq 13, 3) := by decide +kernel
theorem dX8_then_11 : decode cX8_then 11 = .ok (.iload_n 2, 1) := by decide +kernel
theorem dX8_then_12 : decode cX8_then 12 = .ok (.ifCond .lt 9, 3) := by decide +kernel
theorem dX8_then_15 : decode cX8_then 15 = .ok (.iload_n 2, 1) := by decide +kernel
theorem dX8_then_16 : decode cX8_then 16 = .ok (.bipush 40, 2) := by decide +kernel
theorem dX8_then_18 : decode cX8_then 18 = .ok (.if_icmp .le 6, 3) := by decide +kernel
theorem dX8_then_21 : decode cX8_then 21 = .ok (.bipush (-2), 2) := by decide +kernel
theorem dX8_then_23 : decode cX8_then 23 = .ok (.ireturn, 1) := by decide +kernel
theorem dX8_then_24 : decode cX8_then 24 = .ok (.aload_n 0, 1) := by decide +kernel
theorem dX8_then_25 : decode cX8_then 25 = .ok (.iload_n 2, 1) := by decide +kernel
theorem dX8_then_26 : decode cX8_then 26 = .ok (.invokevirtual 372, 3) := by decide +kernel
theorem dX8_then_29 : decode cX8_then 29 = .ok (.pop, 1) := by decide +kernel
theorem dX8_then_30 : decode cX8_then 30 = .ok (.aload_n 0, 1) := by decide +kernel
theorem dX8_then_31 : decode cX8_then 31 = .ok (.getfield 76, 3) := by decide +kernel
theorem dX8_then_34 : decode cX8_then 34 = .ok (.iload_n 1, 1) := by decide +kernel
theorem dX8_then_35 : decode cX8_then 35 = .ok (.iaload, 1) := by decide +kernel
theorem dX8_then_36 : decode cX8_then 36 = .ok (.ireturn, 1) := by decide +kernel
theorem dX8_calmInThought_0 : decode cX8_calmInThought 0 = .ok (.aload_n 0, 1) := by decide +kernel
theorem dX8_calmInThought_1 : decode cX8_calmInThought 1 = .ok (.getfield 27, 3) := by decide +kernel
theorem dX8_calmInThought_4 : decode cX8_calmInThought 4 = .ok (.getfield 125, 3) := by decide +kernel
theorem dX8_calmInThought_7 : decode cX8_calmInThought 7 = .ok (.aload_n 0, 1) := by decide +kernel
theorem dX8_calmInThought_8 : decode cX8_calmInThought 8 = .ok (.getfield 76, 3) := by decide +kernel
theorem dX8_calmInThought_11 : decode cX8_calmInThought 11 = .ok (.invokestatic 375, 3) := by decide +kernel
theorem dX8_calmInThought_14 : decode cX8_calmInThought 14 = .ok (.iconst 0, 1) := by decide +kernel
theorem dX8_calmInThought_15 : decode cX8_calmInThought 15 = .ok (.istore_n 2, 1) := by decide +kernel
theorem dX8_calmInThought_16 : decode cX8_calmInThought 16 = .ok (.iload_n 2, 1) := by decide +kernel
theorem dX8_calmInThought_17 : decode cX8_calmInThought 17 = .ok (.iload_n 1, 1) := by decide +kernel
theorem dX8_calmInThought_18 : decode cX8_calmInThought 18 = .ok (.if_icmp .gt 51, 3) := by decide +kernel
theorem dX8_calmInThought_21 : decode cX8_calmInThought 21 = .ok (.aload_n 0, 1) := by decide +kernel
theorem dX8_calmInThought_22 : decode cX8_calmInThought 22 = .ok (.getfield 27, 3) := by decide +kernel
theorem dX8_calmInThought_25 : decode cX8_calmInThought 25 = .ok (.aload_n 0, 1) := by decide +kernel
theorem dX8_calmInThought_26 : decode cX8_calmInThought 26 = .ok (.getfield 76, 3) := by decide +kernel
theorem dX8_calmInThought_29 : decode cX8_calmInThought 29 = .ok (.invokevirtual 368, 3) := by decide +kernel
theorem dX8_calmInThought_32 : decode cX8_calmInThought 32 = .ok (.istore_n 3, 1) := by decide +kernel
theorem dX8_calmInThought_33 : decode cX8_calmInThought 33 = .ok (.iload_n 3, 1) := by decide +kernel
theorem dX8_calmInThought_34 : decode cX8_calmInThought 34 = .ok (.iconst (-1), 1) := by decide +kernel
theorem dX8_calmInThought_35 : decode cX8_calmInThought 35 = .ok (.if_icmp .ne 5, 3) := by decide +kernel
theorem dX8_calmInThought_38 : decode cX8_calmInThought 38 = .ok (.iload_n 2, 1) := by decide +kernel
theorem dX8_calmInThought_39 : decode cX8_calmInThought 39 = .ok (.ireturn, 1) := by decide +kernel
theorem dX8_calmInThought_40 : decode cX8_calmInThought 40 = .ok (.iload_n 2, 1) := by decide +kernel
theorem dX8_calmInThought_41 : decode cX8_calmInThought 41 = .ok (.iload_n 1, 1) := by decide +kernel
theorem dX8_calmInThought_42 : decode cX8_calmInThought 42 = .ok (.if_icmp .ge 21, 3) := by decide +kernel
theorem dX8_calmInThought_45 : decode cX8_calmInThought 45 = .ok (.aload_n 0, 1) := by decide +kernel
theorem dX8_calmInThought_46 : decode cX8_calmInThought 46 = .ok (.getfield 76, 3) := by decide +kernel
theorem dX8_calmInThought_49 : decode cX8_calmInThought 49 = .ok (.iload_n 3, 1) := by decide +kernel
theorem dX8_calmInThought_50 : decode cX8_calmInThought 50 = .ok (.aload_n 0, 1) := by decide +kernel
theorem dX8_calmInThought_51 : decode cX8_calmInThought 51 = .ok (.getfield 27, 3) := by decide +kernel
theorem dX8_calmInThought_54 : decode cX8_calmInThought 54 = .ok (.aload_n 0, 1) := by decide +kernel
theorem dX8_calmInThought_55 : decode cX8_calmInThought 55 = .ok (.getfield 76, 3) := by decide +kernel
theorem dX8_calmInThought_58 : decode cX8_calmInThought 58 = .ok (.iload_n 3, 1) := by decide +kernel
theorem dX8_calmInThought_59 : decode cX8_calmInThought 59 = .ok (.invokevirtual 365, 3) := by decide +kernel
theorem dX8_calmInThought_62 : decode cX8_calmInThought 62 = .ok (.iastore, 1) := by decide +kernel
theorem dX8_calmInThought_63 : decode cX8_calmInThought 63 = .ok (.iinc 2 1, 3) := by decide +kernel
theorem dX8_calmInThought_66 : decode cX8_calmInThought 66 = .ok (.goto (-50), 3) := by decide +kernel
theorem dX8_calmInThought_69 : decode cX8_calmInThought 69 = .ok (.iconst (-1), 1) := by decide +kernel
theorem dX8_calmInThought_70 : decode cX8_calmInThought 70 = .ok (.ireturn, 1) := by decide +kernel
theorem dX8_walk_0 : decode cX8_walk 0 = .ok (.aload_n 0, 1) := by decide +kernel
theorem dX8_walk_1 : decode cX8_walk 1 = .ok (.iload_n 2, 1) := by decide +kernel
theorem dX8_walk_2 : decode cX8_walk 2 = .ok (.iload_n 3, 1) := by decide +kernel
theorem dX8_walk_3 : decode cX8_walk 3 = .ok (.iload 4, 2) := by decide +kernel
theorem dX8_walk_5 : decode cX8_walk 5 = .ok (.invokevirtual 228, 3) := by decide +kernel
theorem dX8_walk_8 : decode cX8_walk 8 = .ok (.ifCond .eq 14, 3) := by decide +kernel
theorem dX8_walk_11 : decode cX8_walk 11 = .ok (.iload_n 1, 1) := by decide +kernel
theorem dX8_walk_12 : decode cX8_walk 12 = .ok (.ifCond .lt 10, 3) := by decide +kernel
theorem dX8_walk_15 : decode cX8_walk 15 = .ok (.iload_n 1, 1) := by decide +kernel
theorem dX8_walk_16 : decode cX8_walk 16 = .ok (.ldc_w 379, 3) := by decide +kernel
theorem dX8_walk_19 : decode cX8_walk 19 = .ok (.if_icmp .le 6, 3) := by decide +kernel
theorem dX8_walk_22 : decode cX8_walk 22 = .ok (.bipush (-2), 2) := by decide +kernel
theorem dX8_walk_24 : decode cX8_walk 24 = .ok (.ireturn, 1) := by decide +kernel
theorem dX8_walk_25 : decode cX8_walk 25 = .ok (.aload_n 0, 1) := by decide +kernel
theorem dX8_walk_26 : decode cX8_walk 26 = .ok (.getfield 51, 3) := by decide +kernel
theorem dX8_walk_29 : decode cX8_walk 29 = .ok (.aload_n 0, 1) := by decide +kernel
theorem dX8_walk_30 : decode cX8_walk 30 = .ok (.getfield 27, 3) := by decide +kernel
theorem dX8_walk_33 : decode cX8_walk 33 = .ok (.iload_n 2, 1) := by decide +kernel
theorem dX8_walk_34 : decode cX8_walk 34 = .ok (.iload_n 3, 1) := by decide +kernel
theorem dX8_walk_35 : decode cX8_walk 35 = .ok (.iload 4, 2) := by decide +kernel
theorem dX8_walk_37 : decode cX8_walk 37 = .ok (.invokevirtual 231, 3) := by decide +kernel
theorem dX8_walk_40 : decode cX8_walk 40 = .ok (.aload_n 0, 1) := by decide +kernel
theorem dX8_walk_41 : decode cX8_walk 41 = .ok (.iload_n 1, 1) := by decide +kernel
theorem dX8_walk_42 : decode cX8_walk 42 = .ok (.i2l, 1) := by decide +kernel
theorem dX8_walk_43 : decode cX8_walk 43 = .ok (.iload 4, 2) := by decide +kernel
theorem dX8_walk_45 : decode cX8_walk 45 = .ok (.invokevirtual 380, 3) := by decide +kernel
theorem dX8_walk_48 : decode cX8_walk 48 = .ok (.ireturn, 1) := by decide +kernel
theorem dX8_walks_0 : decode cX8_walks 0 = .ok (.aload_n 0, 1) := by decide +kernel
theorem dX8_walks_1 : decode cX8_walks 1 = .ok (.iload_n 3, 1) := by decide +kernel
theorem dX8_walks_2 : decode cX8_walks 2 = .ok (.iload 4, 2) := by decide +kernel
theorem dX8_walks_4 : decode cX8_walks 4 = .ok (.iload 5, 2) := by decide +kernel
theorem dX8_walks_6 : decode cX8_walks 6 = .ok (.invokevirtual 228, 3) := by decide +kernel
theorem dX8_walks_9 : decode cX8_walks 9 = .ok (.ifCond .eq 25, 3) := by decide +kernel
theorem dX8_walks_12 : decode cX8_walks 12 = .ok (.iload_n 1, 1) := by decide +kernel
theorem dX8_walks_13 : decode cX8_walks 13 = .ok (.ifCond .lt 21, 3) := by decide +kernel
theorem dX8_walks_16 : decode cX8_walks 16 = .ok (.iload_n 1, 1) := by decide +kernel
theorem dX8_walks_17 : decode cX8_walks 17 = .ok (.ldc_w 379, 3) := by decide +kernel
theorem dX8_walks_20 : decode cX8_walks 20 = .ok (.if_icmp .gt 14, 3) := by decide +kernel
theorem dX8_walks_23 : decode cX8_walks 23 = .ok (.iload_n 2, 1) := by decide +kernel
theorem dX8_walks_24 : decode cX8_walks 24 = .ok (.iconst 1, 1) := by decide +kernel
theorem dX8_walks_25 : decode cX8_walks 25 = .ok (.if_icmp .lt 9, 3) := by decide +kernel
theorem dX8_walks_28 : decode cX8_walks 28 = .ok (.iload_n 2, 1) := by decide +kernel
theorem dX8_walks_29 : decode cX8_walks 29 = .ok (.bipush 20, 2) := by decide +kernel
theorem dX8_walks_31 : decode cX8_walks 31 = .ok (.if_icmp .le 6, 3) := by decide +kernel
theorem dX8_walks_34 : decode cX8_walks 34 = .ok (.bipush (-2), 2) := by decide +kernel
theorem dX8_walks_36 : decode cX8_walks 36 = .ok (.ireturn, 1) := by decide +kernel
theorem dX8_walks_37 : decode cX8_walks 37 = .ok (.aload_n 0, 1) := by decide +kernel
theorem dX8_walks_38 : decode cX8_walks 38 = .ok (.getfield 51, 3) := by decide +kernel
theorem dX8_walks_41 : decode cX8_walks 41 = .ok (.aload_n 0, 1) := by decide +kernel
theorem dX8_walks_42 : decode cX8_walks 42 = .ok (.getfield 27, 3) := by decide +kernel
theorem dX8_walks_45 : decode cX8_walks 45 = .ok (.iload_n 3, 1) := by decide +kernel
theorem dX8_walks_46 : decode cX8_walks 46 = .ok (.iload 4, 2) := by decide +kernel
theorem dX8_walks_48 : decode cX8_walks 48 = .ok (.iload 5, 2) := by decide +kernel
theorem dX8_walks_50 : decode cX8_walks 50 = .ok (.invokevirtual 231, 3) := by decide +kernel
theorem dX8_walks_53 : decode cX8_walks 53 = .ok (.aload_n 0, 1) := by decide +kernel
theorem dX8_walks_54 : decode cX8_walks 54 = .ok (.getfield 51, 3) := by decide +kernel
theorem dX8_walks_57 : decode cX8_walks 57 = .ok (.getfield 241, 3) := by decide +kernel
theorem dX8_walks_60 : decode cX8_walks 60 = .ok (.iconst (-1), 1) := by decide +kernel
theorem dX8_walks_61 : decode cX8_walks 61 = .ok (.if_icmp .ne 5, 3) := by decide +kernel
theorem dX8_walks_64 : decode cX8_walks 64 = .ok (.iconst (-1), 1) := by decide +kernel
theorem dX8_walks_65 : decode cX8_walks 65 = .ok (.ireturn, 1) := by decide +kernel
theorem dX8_walks_66 : decode cX8_walks 66 = .ok (.iconst 0, 1) := by decide +kernel
theorem dX8_walks_67 : decode cX8_walks 67 = .ok (.istore 6, 2) := by decide +kernel
theorem dX8_walks_69 : decode cX8_walks 69 = .ok (.iconst 0, 1) := by decide +kernel
theorem dX8_walks_70 : decode cX8_walks 70 = .ok (.istore 7, 2) := by decide +kernel
theorem dX8_walks_72 : decode cX8_walks 72 = .ok (.iload 7, 2) := by decide +kernel
theorem dX8_walks_74 : decode cX8_walks 74 = .ok (.iload_n 2, 1) := by decide +kernel
theorem dX8_walks_75 : decode cX8_walks 75 = .ok (.if_icmp .ge 29, 3) := by decide +kernel
theorem dX8_walks_78 : decode cX8_walks 78 = .ok (.aload_n 0, 1) := by decide +kernel
theorem dX8_walks_79 : decode cX8_walks 79 = .ok (.iload_n 1, 1) := by decide +kernel
theorem dX8_walks_80 : decode cX8_walks 80 = .ok (.i2l, 1) := by decide +kernel
theorem dX8_walks_81 : decode cX8_walks 81 = .ok (.iload 7, 2) := by decide +kernel
theorem dX8_walks_83 : decode cX8_walks 83 = .ok (.i2l, 1) := by decide +kernel
theorem dX8_walks_84 : decode cX8_walks 84 = .ok (.ladd, 1) := by decide +kernel
theorem dX8_walks_85 : decode cX8_walks 85 = .ok (.iload 5, 2) := by decide +kernel
theorem dX8_walks_87 : decode cX8_walks 87 = .ok (.invokevirtual 380, 3) := by decide +kernel
theorem dX8_walks_90 : decode cX8_walks 90 = .ok (.iload 4, 2) := by decide +kernel
theorem dX8_walks_92 : decode cX8_walks 92 = .ok (.if_icmp .ne 6, 3) := by decide +kernel
theorem dX8_walks_95 : decode cX8_walks 95 = .ok (.iinc 6 1, 3) := by decide +kernel
theorem dX8_walks_98 : decode cX8_walks 98 = .ok (.iinc 7 1, 3) := by decide +kernel
theorem dX8_walks_101 : decode cX8_walks 101 = .ok (.goto (-29), 3) := by decide +kernel
theorem dX8_walks_104 : decode cX8_walks 104 = .ok (.iload 6, 2) := by decide +kernel
theorem dX8_walks_106 : decode cX8_walks 106 = .ok (.ireturn, 1) := by decide +kernel
theorem dX8_endOfWalk_0 : decode cX8_endOfWalk 0 = .ok (.aload_n 0, 1) := by decide +kernel
theorem dX8_endOfWalk_1 : decode cX8_endOfWalk 1 = .ok (.getfield 51, 3) := by decide +kernel
theorem dX8_endOfWalk_4 : decode cX8_endOfWalk 4 = .ok (.getfield 241, 3) := by decide +kernel
theorem dX8_endOfWalk_7 : decode cX8_endOfWalk 7 = .ok (.iconst (-1), 1) := by decide +kernel
theorem dX8_endOfWalk_8 : decode cX8_endOfWalk 8 = .ok (.if_icmp .ne 5, 3) := by decide +kernel
theorem dX8_endOfWalk_11 : decode cX8_endOfWalk 11 = .ok (.iconst (-1), 1) := by decide +kernel
theorem dX8_endOfWalk_12 : decode cX8_endOfWalk 12 = .ok (.ireturn, 1) := by decide +kernel
theorem dX8_endOfWalk_13 : decode cX8_endOfWalk 13 = .ok (.lload_n 1, 1) := by decide +kernel
theorem dX8_endOfWalk_14 : decode cX8_endOfWalk 14 = .ok (.lstore 4, 2) := by decide +kernel
theorem dX8_endOfWalk_16 : decode cX8_endOfWalk 16 = .ok (.iconst 1, 1) := by decide +kernel
theorem dX8_endOfWalk_17 : decode cX8_endOfWalk 17 = .ok (.istore 6, 2) := by decide +kernel
theorem dX8_endOfWalk_19 : decode cX8_endOfWalk 19 = .ok (.iload 6, 2) := by decide +kernel
theorem dX8_endOfWalk_21 : decode cX8_endOfWalk 21 = .ok (.aload_n 0, 1) := by decide +kernel
theorem dX8_endOfWalk_22 : decode cX8_endOfWalk 22 = .ok (.getfield 51, 3) := by decide +kernel
theorem dX8_endOfWalk_25 : decode cX8_endOfWalk 25 = .ok (.getfield 241, 3) := by decide +kernel
theorem dX8_endOfWalk_28 : decode cX8_endOfWalk 28 = .ok (.if_icmp .ge 156, 3) := by decide +kernel
theorem dX8_endOfWalk_31 : decode cX8_endOfWalk 31 = .ok (.aload_n 0, 1) := by decide +kernel
theorem dX8_endOfWalk_32 : decode cX8_endOfWalk 32 = .ok (.getfield 51, 3) := by decide +kernel
theorem dX8_endOfWalk_35 : decode cX8_endOfWalk 35 = .ok (.getfield 248, 3) := by decide +kernel
theorem dX8_endOfWalk_38 : decode cX8_endOfWalk 38 = .ok (.iload 6, 2) := by decide +kernel
theorem dX8_endOfWalk_40 : decode cX8_endOfWalk 40 = .ok (.iconst 1, 1) := by decide +kernel
theorem dX8_endOfWalk_41 : decode cX8_endOfWalk 41 = .ok (.isub, 1) := by decide +kernel
theorem dX8_endOfWalk_42 : decode cX8_endOfWalk 42 = .ok (.iaload, 1) := by decide +kernel
theorem dX8_endOfWalk_43 : decode cX8_endOfWalk 43 = .ok (.istore 7, 2) := by decide +kernel
theorem dX8_endOfWalk_45 : decode cX8_endOfWalk 45 = .ok (.aload_n 0, 1) := by decide +kernel
theorem dX8_endOfWalk_46 : decode cX8_endOfWalk 46 = .ok (.getfield 51, 3) := by decide +kernel
theorem dX8_endOfWalk_49 : decode cX8_endOfWalk 49 = .ok (.getfield 248, 3) := by decide +kernel
theorem dX8_endOfWalk_52 : decode cX8_endOfWalk 52 = .ok (.iload 6, 2) := by decide +kernel
theorem dX8_endOfWalk_54 : decode cX8_endOfWalk 54 = .ok (.iaload, 1) := by decide +kernel
theorem dX8_endOfWalk_55 : decode cX8_endOfWalk 55 = .ok (.istore 8, 2) := by decide +kernel
theorem dX8_endOfWalk_57 : decode cX8_endOfWalk 57 = .ok (.aload_n 0, 1) := by decide +kernel
theorem dX8_endOfWalk_58 : decode cX8_endOfWalk 58 = .ok (.getfield 27, 3) := by decide +kernel
theorem dX8_endOfWalk_61 : decode cX8_endOfWalk 61 = .ok (.iload 7, 2) := by decide +kernel
theorem dX8_endOfWalk_63 : decode cX8_endOfWalk 63 = .ok (.iload 8, 2) := by decide +kernel
theorem dX8_endOfWalk_65 : decode cX8_endOfWalk 65 = .ok (.invokevirtual 384, 3) := by decide +kernel
theorem dX8_endOfWalk_68 : decode cX8_endOfWalk 68 = .ok (.istore 9, 2) := by decide +kernel
theorem dX8_endOfWalk_70 : decode cX8_endOfWalk 70 = .ok (.iconst 0, 1) := by decide +kernel
theorem dX8_endOfWalk_71 : decode cX8_endOfWalk 71 = .ok (.istore 10, 2) := by decide +kernel
theorem dX8_endOfWalk_73 : decode cX8_endOfWalk 73 = .ok (.iload 10, 2) := by decide +kernel
theorem dX8_endOfWalk_75 : decode cX8_endOfWalk 75 = .ok (.aload_n 0, 1) := by decide +kernel
theorem dX8_endOfWalk_76 : decode cX8_endOfWalk 76 = .ok (.getfield 27, 3) := by decide +kernel
theorem dX8_endOfWalk_79 : decode cX8_endOfWalk 79 = .ok (.getfield 161, 3) := by decide +kernel
theorem dX8_endOfWalk_82 : decode cX8_endOfWalk 82 = .ok (.if_icmp .ge 96, 3) := by decide +kernel
theorem dX8_endOfWalk_85 : decode cX8_endOfWalk 85 = .ok (.aload_n 0, 1) := by decide +kernel
theorem dX8_endOfWalk_86 : decode cX8_endOfWalk 86 = .ok (.getfield 27, 3) := by decide +kernel
theorem dX8_endOfWalk_89 : decode cX8_endOfWalk 89 = .ok (.iload 10, 2) := by decide +kernel
theorem dX8_endOfWalk_91 : decode cX8_endOfWalk 91 = .ok (.iload 9, 2) := by decide +kernel
theorem dX8_endOfWalk_93 : decode cX8_endOfWalk 93 = .ok (.iload_n 3, 1) := by decide +kernel
theorem dX8_endOfWalk_94 : decode cX8_endOfWalk 94 = .ok (.invokevirtual 174, 3) := by decide +kernel
theorem dX8_endOfWalk_97 : decode cX8_endOfWalk 97 = .ok (.ifCond .eq 75, 3) := by decide +kernel
theorem dX8_endOfWalk_100 : decode cX8_endOfWalk 100 = .ok (.ldc2_w 387, 3) := by decide +kernel
theorem dX8_endOfWalk_103 : decode cX8_endOfWalk 103 = .ok (.lload 4, 2) := by decide +kernel
theorem dX8_endOfWalk_105 : decode cX8_endOfWalk 105 = .ok (.lmul, 1) := by decide +kernel
theorem dX8_endOfWalk_106 : decode cX8_endOfWalk 106 = .ok (.ldc2_w 389, 3) := by decide +kernel
theorem dX8_endOfWalk_109 : decode cX8_endOfWalk 109 = .ok (.ladd, 1) := by decide +kernel
theorem dX8_endOfWalk_110 : decode cX8_endOfWalk 110 = .ok (.ldc2_w 391, 3) := by decide +kernel
theorem dX8_endOfWalk_113 : decode cX8_endOfWalk 113 = .ok (.lrem, 1) := by decide +kernel
theorem dX8_endOfWalk_114 : decode cX8_endOfWalk 114 = .ok (.lstore 4, 2) := by decide +kernel
theorem dX8_endOfWalk_116 : decode cX8_endOfWalk 116 = .ok (.lload 4, 2) := by decide +kernel
theorem dX8_endOfWalk_118 : decode cX8_endOfWalk 118 = .ok (.ldc2_w 393, 3) := by decide +kernel
theorem dX8_endOfWalk_121 : decode cX8_endOfWalk 121 = .ok (.ldiv, 1) := by decide +kernel
theorem dX8_endOfWalk_122 : decode cX8_endOfWalk 122 = .ok (.ldc2_w 395, 3) := by decide +kernel
theorem dX8_endOfWalk_125 : decode cX8_endOfWalk 125 = .ok (.lrem, 1) := by decide +kernel
theorem dX8_endOfWalk_126 : decode cX8_endOfWalk 126 = .ok (.aload_n 0, 1) := by decide +kernel
theorem dX8_endOfWalk_127 : decode cX8_endOfWalk 127 = .ok (.getfield 27, 3) := by decide +kernel
theorem dX8_endOfWalk_130 : decode cX8_endOfWalk 130 = .ok (.iload 10, 2) := by decide +kernel
theorem dX8_endOfWalk_132 : decode cX8_endOfWalk 132 = .ok (.iload_n 3, 1) := by decide +kernel
theorem dX8_endOfWalk_133 : decode cX8_endOfWalk 133 = .ok (.invokevirtual 210, 3) := by decide +kernel
theorem dX8_endOfWalk_136 : decode cX8_endOfWalk 136 = .ok (.i2l, 1) := by decide +kernel
theorem dX8_endOfWalk_137 : decode cX8_endOfWalk 137 = .ok (.lcmp, 1) := by decide +kernel
theorem dX8_endOfWalk_138 : decode cX8_endOfWalk 138 = .ok (.ifCond .ge 34, 3) := by decide +kernel
theorem dX8_endOfWalk_141 : decode cX8_endOfWalk 141 = .ok (.aload_n 0, 1) := by decide +kernel
theorem dX8_endOfWalk_142 : decode cX8_endOfWalk 142 = .ok (.getfield 27, 3) := by decide +kernel
theorem dX8_endOfWalk_145 : decode cX8_endOfWalk 145 = .ok (.getfield 257, 3) := by decide +kernel
theorem dX8_endOfWalk_148 : decode cX8_endOfWalk 148 = .ok (.iload 8, 2) := by decide +kernel
theorem dX8_endOfWalk_150 : decode cX8_endOfWalk 150 = .ok (.iaload, 1) := by decide +kernel
theorem dX8_endOfWalk_151 : decode cX8_endOfWalk 151 = .ok (.aload_n 0, 1) := by decide +kernel
theorem dX8_endOfWalk_152 : decode cX8_endOfWalk 152 = .ok (.getfield 27, 3) := by decide +kernel
theorem dX8_endOfWalk_155 : decode cX8_endOfWalk 155 = .ok (.getfield 257, 3) := by decide +kernel
theorem dX8_endOfWalk_158 : decode cX8_endOfWalk 158 = .ok (.iload 7, 2) := by decide +kernel
theorem dX8_endOfWalk_160 : decode cX8_endOfWalk 160 = .ok (.iaload, 1) := by decide +kernel
theorem dX8_endOfWalk_161 : decode cX8_endOfWalk 161 = .ok (.if_icmp .ge 8, 3) := by decide +kernel
theorem dX8_endOfWalk_164 : decode cX8_endOfWalk 164 = .ok (.iload 8, 2) := by decide +kernel
theorem dX8_endOfWalk_166 : decode cX8_endOfWalk 166 = .ok (.goto 5, 3) := by decide +kernel
theorem dX8_endOfWalk_169 : decode cX8_endOfWalk 169 = .ok (.iload 7, 2) := by decide +kernel
theorem dX8_endOfWalk_171 : decode cX8_endOfWalk 171 = .ok (.ireturn, 1) := by decide +kernel
theorem dX8_endOfWalk_172 : decode cX8_endOfWalk 172 = .ok (.iinc 10 1, 3) := by decide +kernel
theorem dX8_endOfWalk_175 : decode cX8_endOfWalk 175 = .ok (.goto (-102), 3) := by decide +kernel
theorem dX8_endOfWalk_178 : decode cX8_endOfWalk 178 = .ok (.iinc 6 1, 3) := by decide +kernel
theorem dX8_endOfWalk_181 : decode cX8_endOfWalk 181 = .ok (.goto (-162), 3) := by decide +kernel
theorem dX8_endOfWalk_184 : decode cX8_endOfWalk 184 = .ok (.aload_n 0, 1) := by decide +kernel
theorem dX8_endOfWalk_185 : decode cX8_endOfWalk 185 = .ok (.getfield 51, 3) := by decide +kernel
theorem dX8_endOfWalk_188 : decode cX8_endOfWalk 188 = .ok (.getfield 248, 3) := by decide +kernel
theorem dX8_endOfWalk_191 : decode cX8_endOfWalk 191 = .ok (.aload_n 0, 1) := by decide +kernel
theorem dX8_endOfWalk_192 : decode cX8_endOfWalk 192 = .ok (.getfield 51, 3) := by decide +kernel
theorem dX8_endOfWalk_195 : decode cX8_endOfWalk 195 = .ok (.getfield 241, 3) := by decide +kernel
theorem dX8_endOfWalk_198 : decode cX8_endOfWalk 198 = .ok (.iconst 1, 1) := by decide +kernel
theorem dX8_endOfWalk_199 : decode cX8_endOfWalk 199 = .ok (.isub, 1) := by decide +kernel
theorem dX8_endOfWalk_200 : decode cX8_endOfWalk 200 = .ok (.iaload, 1) := by decide +kernel
theorem dX8_endOfWalk_201 : decode cX8_endOfWalk 201 = .ok (.ireturn, 1) := by decide +kernel
theorem dX8_count_0 : decode cX8_count 0 = .ok (.iload_n 1, 1) := by decide +kernel
theorem dX8_count_1 : decode cX8_count 1 = .ok (.tableswitch 126 0 9 #[55, 63, 71, 79, 87, 95, 103, 111, 116, 121], 55) := by decide +kernel
theorem dX8_count_56 : decode cX8_count 56 = .ok (.aload_n 0, 1) := by decide +kernel
theorem dX8_count_57 : decode cX8_count 57 = .ok (.getfield 27, 3) := by decide +kernel
theorem dX8_count_60 : decode cX8_count 60 = .ok (.getfield 268, 3) := by decide +kernel
theorem dX8_count_63 : decode cX8_count 63 = .ok (.ireturn, 1) := by decide +kernel
theorem dX8_count_64 : decode cX8_count 64 = .ok (.aload_n 0, 1) := by decide +kernel
theorem dX8_count_65 : decode cX8_count 65 = .ok (.getfield 27, 3) := by decide +kernel
theorem dX8_count_68 : decode cX8_count 68 = .ok (.getfield 182, 3) := by decide +kernel
theorem dX8_count_71 : decode cX8_count 71 = .ok (.ireturn, 1) := by decide +kernel
theorem dX8_count_72 : decode cX8_count 72 = .ok (.aload_n 0, 1) := by decide +kernel
theorem dX8_count_73 : decode cX8_count 73 = .ok (.getfield 27, 3) := by decide +kernel
theorem dX8_count_76 : decode cX8_count 76 = .ok (.getfield 280, 3) := by decide +kernel
theorem dX8_count_79 : decode cX8_count 79 = .ok (.ireturn, 1) := by decide +kernel
theorem dX8_count_80 : decode cX8_count 80 = .ok (.aload_n 0, 1) := by decide +kernel
theorem dX8_count_81 : decode cX8_count 81 = .ok (.getfield 27, 3) := by decide +kernel
theorem dX8_count_84 : decode cX8_count 84 = .ok (.getfield 203, 3) := by decide +kernel
theorem dX8_count_87 : decode cX8_count 87 = .ok (.ireturn, 1) := by decide +kernel
theorem dX8_count_88 : decode cX8_count 88 = .ok (.aload_n 0, 1) := by decide +kernel
theorem dX8_count_89 : decode cX8_count 89 = .ok (.getfield 27, 3) := by decide +kernel
theorem dX8_count_92 : decode cX8_count 92 = .ok (.getfield 161, 3) := by decide +kernel
theorem dX8_count_95 : decode cX8_count 95 = .ok (.ireturn, 1) := by decide +kernel
theorem dX8_count_96 : decode cX8_count 96 = .ok (.aload_n 0, 1) := by decide +kernel
theorem dX8_count_97 : decode cX8_count 97 = .ok (.getfield 27, 3) := by decide +kernel
theorem dX8_count_100 : decode cX8_count 100 = .ok (.getfield 283, 3) := by decide +kernel
theorem dX8_count_103 : decode cX8_count 103 = .ok (.ireturn, 1) := by decide +kernel
theorem dX8_count_104 : decode cX8_count 104 = .ok (.aload_n 0, 1) := by decide +kernel
theorem dX8_count_105 : decode cX8_count 105 = .ok (.getfield 27, 3) := by decide +kernel
theorem dX8_count_108 : decode cX8_count 108 = .ok (.getfield 95, 3) := by decide +kernel
theorem dX8_count_111 : decode cX8_count 111 = .ok (.ireturn, 1) := by decide +kernel
theorem dX8_count_112 : decode cX8_count 112 = .ok (.aload_n 0, 1) := by decide +kernel
theorem dX8_count_113 : decode cX8_count 113 = .ok (.getfield 13, 3) := by decide +kernel
theorem dX8_count_116 : decode cX8_count 116 = .ok (.ireturn, 1) := by decide +kernel
theorem dX8_count_117 : decode cX8_count 117 = .ok (.aload_n 0, 1) := by decide +kernel
theorem dX8_count_118 : decode cX8_count 118 = .ok (.invokevirtual 397, 3) := by decide +kernel
theorem dX8_count_121 : decode cX8_count 121 = .ok (.ireturn, 1) := by decide +kernel
theorem dX8_count_122 : decode cX8_count 122 = .ok (.aload_n 0, 1) := by decide +kernel
theorem dX8_count_123 : decode cX8_count 123 = .ok (.invokevirtual 400, 3) := by decide +kernel
theorem dX8_count_126 : decode cX8_count 126 = .ok (.ireturn, 1) := by decide +kernel
theorem dX8_count_127 : decode cX8_count 127 = .ok (.iconst (-1), 1) := by decide +kernel
theorem dX8_count_128 : decode cX8_count 128 = .ok (.ireturn, 1) := by decide +kernel
theorem dX8_courtersAsBits_0 : decode cX8_courtersAsBits 0 = .ok (.iconst 0, 1) := by decide +kernel
theorem dX8_courtersAsBits_1 : decode cX8_courtersAsBits 1 = .ok (.istore_n 1, 1) := by decide +kernel
theorem dX8_courtersAsBits_2 : decode cX8_courtersAsBits 2 = .ok (.iconst 0, 1) := by decide +kernel
theorem dX8_courtersAsBits_3 : decode cX8_courtersAsBits 3 = .ok (.istore_n 2, 1) := by decide +kernel
theorem dX8_courtersAsBits_4 : decode cX8_courtersAsBits 4 = .ok (.iload_n 2, 1) := by decide +kernel
theorem dX8_courtersAsBits_5 : decode cX8_courtersAsBits 5 = .ok (.aload_n 0, 1) := by decide +kernel
theorem dX8_courtersAsBits_6 : decode cX8_courtersAsBits 6 = .ok (.getfield 27, 3) := by decide +kernel
theorem dX8_courtersAsBits_9 : decode cX8_courtersAsBits 9 = .ok (.getfield 161, 3) := by decide +kernel
theorem dX8_courtersAsBits_12 : decode cX8_courtersAsBits 12 = .ok (.if_icmp .ge 28, 3) := by decide +kernel
theorem dX8_courtersAsBits_15 : decode cX8_courtersAsBits 15 = .ok (.aload_n 0, 1) := by decide +kernel
theorem dX8_courtersAsBits_16 : decode cX8_courtersAsBits 16 = .ok (.getfield 27, 3) := by decide +kernel
theorem dX8_courtersAsBits_19 : decode cX8_courtersAsBits 19 = .ok (.getfield 125, 3) := by decide +kernel
theorem dX8_courtersAsBits_22 : decode cX8_courtersAsBits 22 = .ok (.iload_n 2, 1) := by decide +kernel
theorem dX8_courtersAsBits_23 : decode cX8_courtersAsBits 23 = .ok (.iaload, 1) := by decide +kernel
theorem dX8_courtersAsBits_24 : decode cX8_courtersAsBits 24 = .ok (.iconst (-1), 1) := by decide +kernel
theorem dX8_courtersAsBits_25 : decode cX8_courtersAsBits 25 = .ok (.if_icmp .eq 9, 3) := by decide +kernel
theorem dX8_courtersAsBits_28 : decode cX8_courtersAsBits 28 = .ok (.iload_n 1, 1) := by decide +kernel
theorem dX8_courtersAsBits_29 : decode cX8_courtersAsBits 29 = .ok (.iconst 1, 1) := by decide +kernel
theorem dX8_courtersAsBits_30 : decode cX8_courtersAsBits 30 = .ok (.iload_n 2, 1) := by decide +kernel
theorem dX8_courtersAsBits_31 : decode cX8_courtersAsBits 31 = .ok (.ishl, 1) := by decide +kernel
theorem dX8_courtersAsBits_32 : decode cX8_courtersAsBits 32 = .ok (.ior, 1) := by decide +kernel
theorem dX8_courtersAsBits_33 : decode cX8_courtersAsBits 33 = .ok (.istore_n 1, 1) := by decide +kernel
theorem dX8_courtersAsBits_34 : decode cX8_courtersAsBits 34 = .ok (.iinc 2 1, 3) := by decide +kernel
theorem dX8_courtersAsBits_37 : decode cX8_courtersAsBits 37 = .ok (.goto (-33), 3) := by decide +kernel
theorem dX8_courtersAsBits_40 : decode cX8_courtersAsBits 40 = .ok (.iload_n 1, 1) := by decide +kernel
theorem dX8_courtersAsBits_41 : decode cX8_courtersAsBits 41 = .ok (.ireturn, 1) := by decide +kernel
theorem dX8_slotsWithRows_0 : decode cX8_slotsWithRows 0 = .ok (.iconst 0, 1) := by decide +kernel
theorem dX8_slotsWithRows_1 : decode cX8_slotsWithRows 1 = .ok (.istore_n 1, 1) := by decide +kernel
theorem dX8_slotsWithRows_2 : decode cX8_slotsWithRows 2 = .ok (.iconst 0, 1) := by decide +kernel
theorem dX8_slotsWithRows_3 : decode cX8_slotsWithRows 3 = .ok (.istore_n 2, 1) := by decide +kernel
theorem dX8_slotsWithRows_4 : decode cX8_slotsWithRows 4 = .ok (.iload_n 2, 1) := by decide +kernel
theorem dX8_slotsWithRows_5 : decode cX8_slotsWithRows 5 = .ok (.iconst 4, 1) := by decide +kernel
theorem dX8_slotsWithRows_6 : decode cX8_slotsWithRows 6 = .ok (.if_icmp .ge 30, 3) := by decide +kernel
theorem dX8_slotsWithRows_9 : decode cX8_slotsWithRows 9 = .ok (.aload_n 0, 1) := by decide +kernel
theorem dX8_slotsWithRows_10 : decode cX8_slotsWithRows 10 = .ok (.iload_n 2, 1) := by decide +kernel
theorem dX8_slotsWithRows_11 : decode cX8_slotsWithRows 11 = .ok (.invokevirtual 333, 3) := by decide +kernel
theorem dX8_slotsWithRows_14 : decode cX8_slotsWithRows 14 = .ok (.astore_n 3, 1) := by decide +kernel
theorem dX8_slotsWithRows_15 : decode cX8_slotsWithRows 15 = .ok (.aload_n 3, 1) := by decide +kernel
theorem dX8_slotsWithRows_16 : decode cX8_slotsWithRows 16 = .ok (.ifnull 14, 3) := by decide +kernel
theorem dX8_slotsWithRows_19 : decode cX8_slotsWithRows 19 = .ok (.aload_n 3, 1) := by decide +kernel
theorem dX8_slotsWithRows_20 : decode cX8_slotsWithRows 20 = .ok (.getfield 326, 3) := by decide +kernel
theorem dX8_slotsWithRows_23 : decode cX8_slotsWithRows 23 = .ok (.iconst (-1), 1) := by decide +kernel
theorem dX8_slotsWithRows_24 : decode cX8_slotsWithRows 24 = .ok (.if_icmp .eq 6, 3) := by decide +kernel
theorem dX8_slotsWithRows_27 : decode cX8_slotsWithRows 27 = .ok (.iinc 1 1, 3) := by decide +kernel
theorem dX8_slotsWithRows_30 : decode cX8_slotsWithRows 30 = .ok (.iinc 2 1, 3) := by decide +kernel
theorem dX8_slotsWithRows_33 : decode cX8_slotsWithRows 33 = .ok (.goto (-29), 3) := by decide +kernel
theorem dX8_slotsWithRows_36 : decode cX8_slotsWithRows 36 = .ok (.iload_n 1, 1) := by decide +kernel
theorem dX8_slotsWithRows_37 : decode cX8_slotsWithRows 37 = .ok (.ireturn, 1) := by decide +kernel
theorem dX8_image_0 : decode cX8_image 0 = .ok (.iload_n 1, 1) := by decide +kernel
theorem dX8_image_1 : decode cX8_image 1 = .ok (.ifCond .lt 17, 3) := by decide +kernel
theorem dX8_image_4 : decode cX8_image 4 = .ok (.iload_n 1, 1) := by decide +kernel
theorem dX8_image_5 : decode cX8_image 5 = .ok (.iconst 3, 1) := by decide +kernel
theorem dX8_image_6 : decode cX8_image 6 = .ok (.if_icmp .ge 12, 3) := by decide +kernel
theorem dX8_image_9 : decode cX8_image 9 = .ok (.aload_n 0, 1) := by decide +kernel
theorem dX8_image_10 : decode cX8_image 10 = .ok (.getfield 34, 3) := by decide +kernel
theorem dX8_image_13 : decode cX8_image 13 = .ok (.iload_n 1, 1) := by decide +kernel
theorem dX8_image_14 : decode cX8_image 14 = .ok (.aaload, 1) := by decide +kernel
theorem dX8_image_15 : decode cX8_image 15 = .ok (.ifnonnull 6, 3) := by decide +kernel
theorem dX8_image_18 : decode cX8_image 18 = .ok (.bipush (-2), 2) := by decide +kernel
theorem dX8_image_20 : decode cX8_image 20 = .ok (.ireturn, 1) := by decide +kernel
theorem dX8_image_21 : decode cX8_image 21 = .ok (.aload_n 0, 1) := by decide +kernel
theorem dX8_image_22 : decode cX8_image 22 = .ok (.getfield 34, 3) := by decide +kernel
theorem dX8_image_25 : decode cX8_image 25 = .ok (.iload_n 1, 1) := by decide +kernel
theorem dX8_image_26 : decode cX8_image 26 = .ok (.aaload, 1) := by decide +kernel
theorem dX8_image_27 : decode cX8_image 27 = .ok (.aload_n 0, 1) := by decide +kernel
theorem dX8_image_28 : decode cX8_image 28 = .ok (.getfield 27, 3) := by decide +kernel
theorem dX8_image_31 : decode cX8_image 31 = .ok (.invokevirtual 403, 3) := by decide +kernel
theorem dX8_image_34 : decode cX8_image 34 = .ok (.aload_n 0, 1) := by decide +kernel
theorem dX8_image_35 : decode cX8_image 35 = .ok (.getfield 38, 3) := by decide +kernel
theorem dX8_image_38 : decode cX8_image 38 = .ok (.iload_n 1, 1) := by decide +kernel
theorem dX8_image_39 : decode cX8_image 39 = .ok (.iconst 1, 1) := by decide +kernel
theorem dX8_image_40 : decode cX8_image 40 = .ok (.bastore, 1) := by decide +kernel
theorem dX8_image_41 : decode cX8_image 41 = .ok (.iconst 0, 1) := by decide +kernel
theorem dX8_image_42 : decode cX8_image 42 = .ok (.ireturn, 1) := by decide +kernel
theorem dX8_back_0 : decode cX8_back 0 = .ok (.iload_n 1, 1) := by decide +kernel
theorem dX8_back_1 : decode cX8_back 1 = .ok (.ifCond .lt 17, 3) := by decide +kernel
theorem dX8_back_4 : decode cX8_back 4 = .ok (.iload_n 1, 1) := by decide +kernel
theorem dX8_back_5 : decode cX8_back 5 = .ok (.iconst 3, 1) := by decide +kernel
theorem dX8_back_6 : decode cX8_back 6 = .ok (.if_icmp .ge 12, 3) := by decide +kernel
theorem dX8_back_9 : decode cX8_back 9 = .ok (.aload_n 0, 1) := by decide +kernel
theorem dX8_back_10 : decode cX8_back 10 = .ok (.getfield 34, 3) := by decide +kernel
theorem dX8_back_13 : decode cX8_back 13 = .ok (.iload_n 1, 1) := by decide +kernel
theorem dX8_back_14 : decode cX8_back 14 = .ok (.aaload, 1) := by decide +kernel
theorem dX8_back_15 : decode cX8_back 15 = .ok (.ifnonnull 6, 3) := by decide +kernel
theorem dX8_back_18 : decode cX8_back 18 = .ok (.bipush (-2), 2) := by decide +kernel
theorem dX8_back_20 : decode cX8_back 20 = .ok (.ireturn, 1) := by decide +kernel
theorem dX8_back_21 : decode cX8_back 21 = .ok (.aload_n 0, 1) := by decide +kernel
theorem dX8_back_22 : decode cX8_back 22 = .ok (.getfield 38, 3) := by decide +kernel
theorem dX8_back_25 : decode cX8_back 25 = .ok (.iload_n 1, 1) := by decide +kernel
theorem dX8_back_26 : decode cX8_back 26 = .ok (.baload, 1) := by decide +kernel
theorem dX8_back_27 : decode cX8_back 27 = .ok (.ifCond .ne 6, 3) := by decide +kernel
theorem dX8_back_30 : decode cX8_back 30 = .ok (.bipush (-6), 2) := by decide +kernel
theorem dX8_back_32 : decode cX8_back 32 = .ok (.ireturn, 1) := by decide +kernel
theorem dX8_back_33 : decode cX8_back 33 = .ok (.aload_n 0, 1) := by decide +kernel
theorem dX8_back_34 : decode cX8_back 34 = .ok (.getfield 27, 3) := by decide +kernel
theorem dX8_back_37 : decode cX8_back 37 = .ok (.aload_n 0, 1) := by decide +kernel
theorem dX8_back_38 : decode cX8_back 38 = .ok (.getfield 34, 3) := by decide +kernel
theorem dX8_back_41 : decode cX8_back 41 = .ok (.iload_n 1, 1) := by decide +kernel
theorem dX8_back_42 : decode cX8_back 42 = .ok (.aaload, 1) := by decide +kernel
theorem dX8_back_43 : decode cX8_back 43 = .ok (.invokevirtual 403, 3) := by decide +kernel
theorem dX8_back_46 : decode cX8_back 46 = .ok (.iconst 0, 1) := by decide +kernel
theorem dX8_back_47 : decode cX8_back 47 = .ok (.ireturn, 1) := by decide +kernel
theorem dX8_row_0 : decode cX8_row 0 = .ok (.aload_n 0, 1) := by decide +kernel
theorem dX8_row_1 : decode cX8_row 1 = .ok (.iload_n 1, 1) := by decide +kernel
theorem dX8_row_2 : decode cX8_row 2 = .ok (.invokevirtual 333, 3) := by decide +kernel
theorem dX8_row_5 : decode cX8_row 5 = .ok (.astore 4, 2) := by decide +kernel
theorem dX8_row_7 : decode cX8_row 7 = .ok (.aload 4, 2) := by decide +kernel
theorem dX8_row_9 : decode cX8_row 9 = .ok (.ifnull 18, 3) := by decide +kernel
theorem dX8_row_12 : decode cX8_row 12 = .ok (.iload_n 2, 1) := by decide +kernel
theorem dX8_row_13 : decode cX8_row 13 = .ok (.ifCond .lt 14, 3) := by decide +kernel
theorem dX8_row_16 : decode cX8_row 16 = .ok (.iload_n 2, 1) := by decide +kernel
theorem dX8_row_17 : decode cX8_row 17 = .ok (.iconst 4, 1) := by decide +kernel
theorem dX8_row_18 : decode cX8_row 18 = .ok (.if_icmp .ge 9, 3) := by decide +kernel
theorem dX8_row_21 : decode cX8_row 21 = .ok (.iload_n 3, 1) := by decide +kernel
theorem dX8_row_22 : decode cX8_row 22 = .ok (.bipush 60, 2) := by decide +kernel
theorem dX8_row_24 : decode cX8_row 24 = .ok (.if_icmp .le 6, 3) := by decide +kernel
theorem dX8_row_27 : decode cX8_row 27 = .ok (.bipush (-2), 2) := by decide +kernel
theorem dX8_row_29 : decode cX8_row 29 = .ok (.ireturn, 1) := by decide +kernel
theorem dX8_row_30 : decode cX8_row 30 = .ok (.iload_n 3, 1) := by decide +kernel
theorem dX8_row_31 : decode cX8_row 31 = .ok (.ifCond .ge 6, 3) := by decide +kernel
theorem dX8_row_34 : decode cX8_row 34 = .ok (.bipush (-3), 2) := by decide +kernel
theorem dX8_row_36 : decode cX8_row 36 = .ok (.ireturn, 1) := by decide +kernel
theorem dX8_row_37 : decode cX8_row 37 = .ok (.aload 4, 2) := by decide +kernel
theorem dX8_row_39 : decode cX8_row 39 = .ok (.iload_n 2, 1) := by decide +kernel
theorem dX8_row_40 : decode cX8_row 40 = .ok (.putfield 407, 3) := by decide +kernel
theorem dX8_row_43 : decode cX8_row 43 = .ok (.aload 4, 2) := by decide +kernel
theorem dX8_row_45 : decode cX8_row 45 = .ok (.iload_n 3, 1) := by decide +kernel
theorem dX8_row_46 : decode cX8_row 46 = .ok (.putfield 326, 3) := by decide +kernel
theorem dX8_row_49 : decode cX8_row 49 = .ok (.aload 4, 2) := by decide +kernel
theorem dX8_row_51 : decode cX8_row 51 = .ok (.getfield 410, 3) := by decide +kernel
theorem dX8_row_54 : decode cX8_row 54 = .ok (.lconst 0, 1) := by decide +kernel
theorem dX8_row_55 : decode cX8_row 55 = .ok (.invokestatic 414, 3) := by decide +kernel
theorem dX8_row_58 : decode cX8_row 58 = .ok (.iconst 0, 1) := by decide +kernel
theorem dX8_row_59 : decode cX8_row 59 = .ok (.ireturn, 1) := by decide +kernel
theorem dX8_write_0 : decode cX8_write 0 = .ok (.aload_n 0, 1) := by decide +kernel
theorem dX8_write_1 : decode cX8_write 1 = .ok (.iload_n 1, 1) := by decide +kernel
theorem dX8_write_2 : decode cX8_write 2 = .ok (.invokevirtual 333, 3) := by decide +kernel
theorem dX8_write_5 : decode cX8_write 5 = .ok (.astore 5, 2) := by decide +kernel
theorem dX8_write_7 : decode cX8_write 7 = .ok (.aload 5, 2) := by decide +kernel
theorem dX8_write_9 : decode cX8_write 9 = .ok (.ifnonnull 6, 3) := by decide +kernel
theorem dX8_write_12 : decode cX8_write 12 = .ok (.bipush (-2), 2) := by decide +kernel
theorem dX8_write_14 : decode cX8_write 14 = .ok (.ireturn, 1) := by decide +kernel
theorem dX8_write_15 : decode cX8_write 15 = .ok (.aload 5, 2) := by decide +kernel
theorem dX8_write_17 : decode cX8_write 17 = .ok (.getfield 326, 3) := by decide +kernel
theorem dX8_write_20 : decode cX8_write 20 = .ok (.iconst (-1), 1) := by decide +kernel
theorem dX8_write_21 : decode cX8_write 21 = .ok (.if_icmp .ne 6, 3) := by decide +kernel
theorem dX8_write_24 : decode cX8_write 24 = .ok (.bipush (-6), 2) := by decide +kernel
theorem dX8_write_26 : decode cX8_write 26 = .ok (.ireturn, 1) := by decide +kernel
theorem dX8_write_27 : decode cX8_write 27 = .ok (.iload_n 2, 1) := by decide +kernel
theorem dX8_write_28 : decode cX8_write 28 = .ok (.ifCond .lt 12, 3) := by decide +kernel
theorem dX8_write_31 : decode cX8_write 31 = .ok (.iload_n 2, 1) := by decide +kernel
theorem dX8_write_32 : decode cX8_write 32 = .ok (.aload 5, 2) := by decide +kernel
theorem dX8_write_34 : decode cX8_write 34 = .ok (.getfield 326, 3) := by decide +kernel
theorem dX8_write_37 : decode cX8_write 37 = .ok (.if_icmp .lt 6, 3) := by decide +kernel
theorem dX8_write_40 : decode cX8_write 40 = .ok (.bipush (-7), 2) := by decide +kernel
theorem dX8_write_42 : decode cX8_write 42 = .ok (.ireturn, 1) := by decide +kernel
theorem dX8_write_43 : decode cX8_write 43 = .ok (.aload 5, 2) := by decide +kernel
theorem dX8_write_45 : decode cX8_write 45 = .ok (.getfield 410, 3) := by decide +kernel
theorem dX8_write_48 : decode cX8_write 48 = .ok (.iload_n 2, 1) := by decide +kernel
theorem dX8_write_49 : decode cX8_write 49 = .ok (.lload_n 3, 1) := by decide +kernel
theorem dX8_write_50 : decode cX8_write 50 = .ok (.aload 5, 2) := by decide +kernel
theorem dX8_write_52 : decode cX8_write 52 = .ok (.getfield 407, 3) := by decide +kernel
theorem dX8_write_55 : decode cX8_write 55 = .ok (.invokestatic 417, 3) := by decide +kernel
theorem dX8_write_58 : decode cX8_write 58 = .ok (.lastore, 1) := by decide +kernel
theorem dX8_write_59 : decode cX8_write 59 = .ok (.iconst 0, 1) := by decide +kernel
theorem dX8_write_60 : decode cX8_write 60 = .ok (.ireturn, 1) := by decide +kernel
theorem dX8_cutToWidth_0 : decode cX8_cutToWidth 0 = .ok (.iload_n 2, 1) := by decide +kernel
theorem dX8_cutToWidth_1 : decode cX8_cutToWidth 1 = .ok (.tableswitch 41 0 2 #[27, 32, 37], 27) := by decide +kernel
theorem dX8_cutToWidth_28 : decode cX8_cutToWidth 28 = .ok (.lload_n 0, 1) := by decide +kernel
theorem dX8_cutToWidth_29 : decode cX8_cutToWidth 29 = .ok (.l2i, 1) := by decide +kernel
theorem dX8_cutToWidth_30 : decode cX8_cutToWidth 30 = .ok (.i2b, 1) := by decide +kernel
theorem dX8_cutToWidth_31 : decode cX8_cutToWidth 31 = .ok (.i2l, 1) := by decide +kernel
theorem dX8_cutToWidth_32 : decode cX8_cutToWidth 32 = .ok (.lreturn, 1) := by decide +kernel
theorem dX8_cutToWidth_33 : decode cX8_cutToWidth 33 = .ok (.lload_n 0, 1) := by decide +kernel
theorem dX8_cutToWidth_34 : decode cX8_cutToWidth 34 = .ok (.l2i, 1) := by decide +kernel
theorem dX8_cutToWidth_35 : decode cX8_cutToWidth 35 = .ok (.i2s, 1) := by decide +kernel
theorem dX8_cutToWidth_36 : decode cX8_cutToWidth 36 = .ok (.i2l, 1) := by decide +kernel
theorem dX8_cutToWidth_37 : decode cX8_cutToWidth 37 = .ok (.lreturn, 1) := by decide +kernel
theorem dX8_cutToWidth_38 : decode cX8_cutToWidth 38 = .ok (.lload_n 0, 1) := by decide +kernel
theorem dX8_cutToWidth_39 : decode cX8_cutToWidth 39 = .ok (.l2i, 1) := by decide +kernel
theorem dX8_cutToWidth_40 : decode cX8_cutToWidth 40 = .ok (.i2l, 1) := by decide +kernel
theorem dX8_cutToWidth_41 : decode cX8_cutToWidth 41 = .ok (.lreturn, 1) := by decide +kernel
theorem dX8_cutToWidth_42 : decode cX8_cutToWidth 42 = .ok (.lload_n 0, 1) := by decide +kernel
theorem dX8_cutToWidth_43 : decode cX8_cutToWidth 43 = .ok (.lreturn, 1) := by decide +kernel
theorem dX8_paste_0 : decode cX8_paste 0 = .ok (.aload_n 0, 1) := by decide +kernel
theorem dX8_paste_1 : decode cX8_paste 1 = .ok (.iload_n 1, 1) := by decide +kernel
theorem dX8_paste_2 : decode cX8_paste 2 = .ok (.invokevirtual 333, 3) := by decide +kernel
theorem dX8_paste_5 : decode cX8_paste 5 = .ok (.astore 6, 2) := by decide +kernel
theorem dX8_paste_7 : decode cX8_paste 7 = .ok (.aload_n 0, 1) := by decide +kernel
theorem dX8_paste_8 : decode cX8_paste 8 = .ok (.iload_n 3, 1) := by decide +kernel
theorem dX8_paste_9 : decode cX8_paste 9 = .ok (.invokevirtual 333, 3) := by decide +kernel
theorem dX8_paste_12 : decode cX8_paste 12 = .ok (.astore 7, 2) := by decide +kernel
theorem dX8_paste_14 : decode cX8_paste 14 = .ok (.aload 6, 2) := by decide +kernel
theorem dX8_paste_16 : decode cX8_paste 16 = .ok (.ifnull 8, 3) := by decide +kernel
theorem dX8_paste_19 : decode cX8_paste 19 = .ok (.aload 7, 2) := by decide +kernel
theorem dX8_paste_21 : decode cX8_paste 21 = .ok (.ifnonnull 6, 3) := by decide +kernel
theorem dX8_paste_24 : decode cX8_paste 24 = .ok (.bipush (-2), 2) := by decide +kernel
theorem dX8_paste_26 : decode cX8_paste 26 = .ok (.ireturn, 1) := by decide +kernel
theorem dX8_paste_27 : decode cX8_paste 27 = .ok (.aload 6, 2) := by decide +kernel
theorem dX8_paste_29 : decode cX8_paste 29 = .ok (.getfield 326, 3) := by decide +kernel
theorem dX8_paste_32 : decode cX8_paste 32 = .ok (.iconst (-1), 1) := by decide +kernel
theorem dX8_paste_33 : decode cX8_paste 33 = .ok (.if_icmp .eq 12, 3) := by decide +kernel
theorem dX8_paste_36 : decode cX8_paste 36 = .ok (.aload 7, 2) := by decide +kernel
theorem dX8_paste_38 : decode cX8_paste 38 = .ok (.getfield 326, 3) := by decide +kernel
theorem dX8_paste_41 : decode cX8_paste 41 = .ok (.iconst (-1), 1) := by decide +kernel
theorem dX8_paste_42 : decode cX8_paste 42 = .ok (.if_icmp .ne 6, 3) := by decide +kernel
theorem dX8_paste_45 : decode cX8_paste 45 = .ok (.bipush (-6), 2) := by decide +kernel
theorem dX8_paste_47 : decode cX8_paste 47 = .ok (.ireturn, 1) := by decide +kernel
theorem dX8_paste_48 : decode cX8_paste 48 = .ok (.aload 6, 2) := by decide +kernel
theorem dX8_paste_50 : decode cX8_paste 50 = .ok (.getfield 407, 3) := by decide +kernel
theorem dX8_paste_53 : decode cX8_paste 53 = .ok (.aload 7, 2) := by decide +kernel
theorem dX8_paste_55 : decode cX8_paste 55 = .ok (.getfield 407, 3) := by decide +kernel
theorem dX8_paste_58 : decode cX8_paste 58 = .ok (.if_icmp .eq 6, 3) := by decide +kernel
theorem dX8_paste_61 : decode cX8_paste 61 = .ok (.bipush (-8), 2) := by decide +kernel
theorem dX8_paste_63 : decode cX8_paste 63 = .ok (.ireturn, 1) := by decide +kernel
theorem dX8_paste_64 : decode cX8_paste 64 = .ok (.aload 6, 2) := by decide +kernel
theorem dX8_paste_66 : decode cX8_paste 66 = .ok (.iload_n 2, 1) := by decide +kernel
theorem dX8_paste_67 : decode cX8_paste 67 = .ok (.iload 5, 2) := by decide +kernel
theorem dX8_paste_69 : decode cX8_paste 69 = .ok (.invokevirtual 420, 3) := by decide +kernel
theorem dX8_paste_72 : decode cX8_paste 72 = .ok (.ifCond .eq 15, 3) := by decide +kernel
theorem dX8_paste_75 : decode cX8_paste 75 = .ok (.aload 7, 2) := by decide +kernel
theorem dX8_paste_77 : decode cX8_paste 77 = .ok (.iload 4, 2) := by decide +kernel
theorem dX8_paste_79 : decode cX8_paste 79 = .ok (.iload 5, 2) := by decide +kernel
theorem dX8_paste_81 : decode cX8_paste 81 = .ok (.invokevirtual 420, 3) := by decide +kernel
theorem dX8_paste_84 : decode cX8_paste 84 = .ok (.ifCond .ne 6, 3) := by decide +kernel
theorem dX8_paste_87 : decode cX8_paste 87 = .ok (.bipush (-7), 2) := by decide +kernel
theorem dX8_paste_89 : decode cX8_paste 89 = .ok (.ireturn, 1) := by decide +kernel
theorem dX8_paste_90 : decode cX8_paste 90 = .ok (.aload 6, 2) := by decide +kernel
theorem dX8_paste_92 : decode cX8_paste 92 = .ok (.getfield 410, 3) := by decide +kernel
theorem dX8_paste_95 : decode cX8_paste 95 = .ok (.iload_n 2, 1) := by decide +kernel
theorem dX8_paste_96 : decode cX8_paste 96 = .ok (.aload 7, 2) := by decide +kernel
theorem dX8_paste_98 : decode cX8_paste 98 = .ok (.getfield 410, 3) := by decide +kernel
theorem dX8_paste_101 : decode cX8_paste 101 = .ok (.iload 4, 2) := by decide +kernel
theorem dX8_paste_103 : decode cX8_paste 103 = .ok (.iload 5, 2) := by decide +kernel
theorem dX8_paste_105 : decode cX8_paste 105 = .ok (.invokestatic 423, 3) := by decide +kernel
theorem dX8_paste_108 : decode cX8_paste 108 = .ok (.iconst 0, 1) := by decide +kernel
theorem dX8_paste_109 : decode cX8_paste 109 = .ok (.ireturn, 1) := by decide +kernel
theorem dX8_copyRow_0 : decode cX8_copyRow 0 = .ok (.aload_n 0, 1) := by decide +kernel
theorem dX8_copyRow_1 : decode cX8_copyRow 1 = .ok (.iconst 0, 1) := by decide +kernel
theorem dX8_copyRow_2 : decode cX8_copyRow 2 = .ok (.aload_n 1, 1) := by decide +kernel
theorem dX8_copyRow_3 : decode cX8_copyRow 3 = .ok (.iconst 0, 1) := by decide +kernel
theorem dX8_copyRow_4 : decode cX8_copyRow 4 = .ok (.aload_n 0, 1) := by decide +kernel
theorem dX8_copyRow_5 : decode cX8_copyRow 5 = .ok (.arraylength, 1) := by decide +kernel
theorem dX8_copyRow_6 : decode cX8_copyRow 6 = .ok (.aload_n 1, 1) := by decide +kernel
theorem dX8_copyRow_7 : decode cX8_copyRow 7 = .ok (.arraylength, 1) := by decide +kernel
theorem dX8_copyRow_8 : decode cX8_copyRow 8 = .ok (.invokestatic 301, 3) := by decide +kernel
theorem dX8_copyRow_11 : decode cX8_copyRow 11 = .ok (.invokestatic 423, 3) := by decide +kernel
theorem dX8_copyRow_14 : decode cX8_copyRow 14 = .ok (.return_, 1) := by decide +kernel
theorem dX8_roundedUp_0 : decode cX8_roundedUp 0 = .ok (.iload_n 1, 1) := by decide +kernel
theorem dX8_roundedUp_1 : decode cX8_roundedUp 1 = .ok (.ifCond .le 13, 3) := by decide +kernel
theorem dX8_roundedUp_4 : decode cX8_roundedUp 4 = .ok (.iload_n 0, 1) := by decide +kernel
theorem dX8_roundedUp_5 : decode cX8_roundedUp 5 = .ok (.iload_n 1, 1) := by decide +kernel
theorem dX8_roundedUp_6 : decode cX8_roundedUp 6 = .ok (.iadd, 1) := by decide +kernel
theorem dX8_roundedUp_7 : decode cX8_roundedUp 7 = .ok (.iconst 1, 1) := by decide +kernel
theorem dX8_roundedUp_8 : decode cX8_roundedUp 8 = .ok (.isub, 1) := by decide +kernel
theorem dX8_roundedUp_9 : decode cX8_roundedUp 9 = .ok (.iload_n 1, 1) := by decide +kernel
theorem dX8_roundedUp_10 : decode cX8_roundedUp 10 = .ok (.idiv, 1) := by decide +kernel
theorem dX8_roundedUp_11 : decode cX8_roundedUp 11 = .ok (.goto 4, 3) := by decide +kernel
theorem dX8_roundedUp_14 : decode cX8_roundedUp 14 = .ok (.iconst 0, 1) := by decide +kernel
theorem dX8_roundedUp_15 : decode cX8_roundedUp 15 = .ok (.ireturn, 1) := by decide +kernel
theorem dX8_lacking_0 : decode cX8_lacking 0 = .ok (.iload_n 0, 1) := by decide +kernel
theorem dX8_lacking_1 : decode cX8_lacking 1 = .ok (.iload_n 2, 1) := by decide +kernel
theorem dX8_lacking_2 : decode cX8_lacking 2 = .ok (.iload_n 1, 1) := by decide +kernel
theorem dX8_lacking_3 : decode cX8_lacking 3 = .ok (.iconst 1, 1) := by decide +kernel
theorem dX8_lacking_4 : decode cX8_lacking 4 = .ok (.iadd, 1) := by decide +kernel
theorem dX8_lacking_5 : decode cX8_lacking 5 = .ok (.imul, 1) := by decide +kernel
theorem dX8_lacking_6 : decode cX8_lacking 6 = .ok (.if_icmp .gt 5, 3) := by decide +kernel
theorem dX8_lacking_9 : decode cX8_lacking 9 = .ok (.iconst 0, 1) := by decide +kernel
theorem dX8_lacking_10 : decode cX8_lacking 10 = .ok (.ireturn, 1) := by decide +kernel
theorem dX8_lacking_11 : decode cX8_lacking 11 = .ok (.iload_n 2, 1) := by decide +kernel
theorem dX8_lacking_12 : decode cX8_lacking 12 = .ok (.ifCond .ne 7, 3) := by decide +kernel
theorem dX8_lacking_15 : decode cX8_lacking 15 = .ok (.iconst (-1), 1) := by decide +kernel
theorem dX8_lacking_16 : decode cX8_lacking 16 = .ok (.goto 12, 3) := by decide +kernel
theorem dX8_lacking_19 : decode cX8_lacking 19 = .ok (.iload_n 0, 1) := by decide +kernel
theorem dX8_lacking_20 : decode cX8_lacking 20 = .ok (.iload_n 2, 1) := by decide +kernel
theorem dX8_lacking_21 : decode cX8_lacking 21 = .ok (.invokestatic 429, 3) := by decide +kernel
theorem dX8_lacking_24 : decode cX8_lacking 24 = .ok (.iconst 1, 1) := by decide +kernel
theorem dX8_lacking_25 : decode cX8_lacking 25 = .ok (.isub, 1) := by decide +kernel
theorem dX8_lacking_26 : decode cX8_lacking 26 = .ok (.iload_n 1, 1) := by decide +kernel
theorem dX8_lacking_27 : decode cX8_lacking 27 = .ok (.isub, 1) := by decide +kernel
theorem dX8_lacking_28 : decode cX8_lacking 28 = .ok (.ireturn, 1) := by decide +kernel
theorem dX9_init_0 : decode cX9_init 0 = .ok (.aload_n 0, 1) := by decide +kernel
theorem dX9_init_1 : decode cX9_init 1 = .ok (.invokespecial 3, 3) := by decide +kernel
theorem dX9_init_4 : decode cX9_init 4 = .ok (.aload_n 0, 1) := by decide +kernel
theorem dX9_init_5 : decode cX9_init 5 = .ok (.bipush 109, 2) := by decide +kernel
theorem dX9_init_7 : decode cX9_init 7 = .ok (.newarray .int, 2) := by decide +kernel
theorem dX9_init_9 : decode cX9_init 9 = .ok (.putfield 9, 3) := by decide +kernel
theorem dX9_init_12 : decode cX9_init 12 = .ok (.aload_n 0, 1) := by decide +kernel
theorem dX9_init_13 : decode cX9_init 13 = .ok (.sipush 327, 3) := by decide +kernel
theorem dX9_init_16 : decode cX9_init 16 = .ok (.newarray .int, 2) := by decide +kernel
theorem dX9_init_18 : decode cX9_init 18 = .ok (.putfield 13, 3) := by decide +kernel
theorem dX9_init_21 : decode cX9_init 21 = .ok (.aload_n 0, 1) := by decide +kernel
theorem dX9_init_22 : decode cX9_init 22 = .ok (.iconst 3, 1) := by decide +kernel
theorem dX9_init_23 : decode cX9_init 23 = .ok (.newarray .boolean, 2) := by decide +kernel
theorem dX9_init_25 : decode cX9_init 25 = .ok (.putfield 16, 3) := by decide +kernel
theorem dX9_init_28 : decode cX9_init 28 = .ok (.aload_n 0, 1) := by decide +kernel
theorem dX9_init_29 : decode cX9_init 29 = .ok (.sipush 1400, 3) := by decide +kernel
theorem dX9_init_32 : decode cX9_init 32 = .ok (.newarray .byte, 2) := by decide +kernel
theorem dX9_init_34 : decode cX9_init 34 = .ok (.putfield 20, 3) := by decide +kernel
theorem dX9_init_37 : decode cX9_init 37 = .ok (.aload_n 0, 1) := by decide +kernel
theorem dX9_init_38 : decode cX9_init 38 = .ok (.iconst 5, 1) := by decide +kernel
theorem dX9_init_39 : decode cX9_init 39 = .ok (.newarray .int, 2) := by decide +kernel
theorem dX9_init_41 : decode cX9_init 41 = .ok (.putfield 24, 3) := by decide +kernel
theorem dX9_init_44 : decode cX9_init 44 = .ok (.aload_n 0, 1) := by decide +kernel
theorem dX9_init_45 : decode cX9_init 45 = .ok (.iconst (-1), 1) := by decide +kernel
theorem dX9_init_46 : decode cX9_init 46 = .ok (.putfield 27, 3) := by decide +kernel
theorem dX9_init_49 : decode cX9_init 49 = .ok (.aload_n 0, 1) := by decide +kernel
theorem dX9_init_50 : decode cX9_init 50 = .ok (.bipush 109, 2) := by decide +kernel
theorem dX9_init_52 : decode cX9_init 52 = .ok (.newarray .int, 2) := by decide +kernel
theorem dX9_init_54 : decode cX9_init 54 = .ok (.putfield 31, 3) := by decide +kernel
theorem dX9_init_57 : decode cX9_init 57 = .ok (.aload_n 0, 1) := by decide +kernel
theorem dX9_init_58 : decode cX9_init 58 = .ok (.iconst (-1), 1) := by decide +kernel
theorem dX9_init_59 : decode cX9_init 59 = .ok (.putfield 34, 3) := by decide +kernel
theorem dX9_init_62 : decode cX9_init 62 = .ok (.aload_n 0, 1) := by decide +kernel
theorem dX9_init_63 : decode cX9_init 63 = .ok (.bipush 8, 2) := by decide +kernel
theorem dX9_init_65 : decode cX9_init 65 = .ok (.newarray .int, 2) := by decide +kernel
theorem dX9_init_67 : decode cX9_init 67 = .ok (.putfield 37, 3) := by decide +kernel
theorem dX9_init_70 : decode cX9_init 70 = .ok (.aload_n 0, 1) := by decide +kernel
theorem dX9_init_71 : decode cX9_init 71 = .ok (.bipush 8, 2) := by decide +kernel
theorem dX9_init_73 : decode cX9_init 73 = .ok (.newarray .int, 2) := by decide +kernel
theorem dX9_init_75 : decode cX9_init 75 = .ok (.putfield 40, 3) := by decide +kernel
theorem dX9_init_78 : decode cX9_init 78 = .ok (.aload_n 0, 1) := by decide +kernel
theorem dX9_init_79 : decode cX9_init 79 = .ok (.bipush 8, 2) := by decide +kernel
theorem dX9_init_81 : decode cX9_init 81 = .ok (.newarray .long, 2) := by decide +kernel
theorem dX9_init_83 : decode cX9_init 83 = .ok (.putfield 43, 3) := by decide +kernel
theorem dX9_init_86 : decode cX9_init 86 = .ok (.aload_n 0, 1) := by decide +kernel
theorem dX9_init_87 : decode cX9_init 87 = .ok (.bipush 8, 2) := by decide +kernel
theorem dX9_init_89 : decode cX9_init 89 = .ok (.newarray .int, 2) := by decide +kernel
theorem dX9_init_91 : decode cX9_init 91 = .ok (.putfield 47, 3) := by decide +kernel
theorem dX9_init_94 : decode cX9_init 94 = .ok (.aload_n 0, 1) := by decide +kernel
theorem dX9_init_95 : decode cX9_init 95 = .ok (.bipush 8, 2) := by decide +kernel
theorem dX9_init_97 : decode cX9_init 97 = .ok (.newarray .int, 2) := by decide +kernel
theorem dX9_init_99 : decode cX9_init 99 = .ok (.putfield 50, 3) := by decide +kernel
theorem dX9_init_102 : decode cX9_init 102 = .ok (.aload_n 0, 1) := by decide +kernel
theorem dX9_init_103 : decode cX9_init 103 = .ok (.bipush 7, 2) := by decide +kernel
theorem dX9_init_105 : decode cX9_init 105 = .ok (.newarray .int, 2) := by decide +kernel
theorem dX9_init_107 : decode cX9_init 107 = .ok (.putfield 53, 3) := by decide +kernel
theorem dX9_init_110 : decode cX9_init 110 = .ok (.aload_n 0, 1) := by decide +kernel
theorem dX9_init_111 : decode cX9_init 111 = .ok (.bipush 7, 2) := by decide +kernel
theorem dX9_init_113 : decode cX9_init 113 = .ok (.newarray .int, 2) := by decide +kernel
theorem dX9_init_115 : decode cX9_init 115 = .ok (.putfield 56, 3) := by decide +kernel
theorem dX9_init_118 : decode cX9_init 118 = .ok (.aload_n 0, 1) := by decide +kernel
theorem dX9_init_119 : decode cX9_init 119 = .ok (.bipush 7, 2) := by decide +kernel
theorem dX9_init_121 : decode cX9_init 121 = .ok (.newarray .int, 2) := by decide +kernel
theorem dX9_init_123 : decode cX9_init 123 = .ok (.putfield 59, 3) := by decide +kernel
theorem dX9_init_126 : decode cX9_init 126 = .ok (.aload_n 0, 1) := by decide +kernel
theorem dX9_init_127 : decode cX9_init 127 = .ok (.bipush 8, 2) := by decide +kernel
theorem dX9_init_129 : decode cX9_init 129 = .ok (.newarray .int, 2) := by decide +kernel
theorem dX9_init_131 : decode cX9_init 131 = .ok (.putfield 62, 3) := by decide +kernel
theorem dX9_init_134 : decode cX9_init 134 = .ok (.aload_n 0, 1) := by decide +kernel
theorem dX9_init_135 : decode cX9_init 135 = .ok (.iconst 4, 1) := by decide +kernel
theorem dX9_init_136 : decode cX9_init 136 = .ok (.newarray .int, 2) := by decide +kernel
theorem dX9_init_138 : decode cX9_init 138 = .ok (.dup, 1) := by decide +kernel
theorem dX9_init_139 : decode cX9_init 139 = .ok (.iconst 0, 1) := by decide +kernel
theorem dX9_init_140 : decode cX9_init 140 = .ok (.iconst (-1), 1) := by decide +kernel
theorem dX9_init_141 : decode cX9_init 141 = .ok (.iastore, 1) := by decide +kernel
theorem dX9_init_142 : decode cX9_init 142 = .ok (.dup, 1) := by decide +kernel
theorem dX9_init_143 : decode cX9_init 143 = .ok (.iconst 1, 1) := by decide +kernel
theorem dX9_init_144 : decode cX9_init 144 = .ok (.iconst (-1), 1) := by decide +kernel
theorem dX9_init_145 : decode cX9_init 145 = .ok (.iastore, 1) := by decide +kernel
theorem dX9_init_146 : decode cX9_init 146 = .ok (.dup, 1) := by decide +kernel
theorem dX9_init_147 : decode cX9_init 147 = .ok (.iconst 2, 1) := by decide +kernel
theorem dX9_init_148 : decode cX9_init 148 = .ok (.iconst (-1), 1) := by decide +kernel
theorem dX9_init_149 : decode cX9_init 149 = .ok (.iastore, 1) := by decide +kernel
theorem dX9_init_150 : decode cX9_init 150 = .ok (.dup, 1) := by decide +kernel
theorem dX9_init_151 : decode cX9_init 151 = .ok (.iconst 3, 1) := by decide +kernel
theorem dX9_init_152 : decode cX9_init 152 = .ok (.iconst (-1), 1) := by decide +kernel
theorem dX9_init_153 : decode cX9_init 153 = .ok (.iastore, 1) := by decide +kernel
theorem dX9_init_154 : decode cX9_init 154 = .ok (.putfield 65, 3) := by decide +kernel
theorem dX9_init_157 : decode cX9_init 157 = .ok (.aload_n 0, 1) := by decide +kernel
theorem dX9_init_158 : decode cX9_init 158 = .ok (.iconst 4, 1) := by decide +kernel
theorem dX9_init_159 : decode cX9_init 159 = .ok (.newarray .int, 2) := by decide +kernel
theorem dX9_init_161 : decode cX9_init 161 = .ok (.putfield 68, 3) := by decide +kernel
theorem dX9_init_164 : decode cX9_init 164 = .ok (.aload_n 0, 1) := by decide +kernel
theorem dX9_init_165 : decode cX9_init 165 = .ok (.sipush 240, 3) := by decide +kernel
theorem dX9_init_168 : decode cX9_init 168 = .ok (.newarray .long, 2) := by decide +kernel
theorem dX9_init_170 : decode cX9_init 170 = .ok (.putfield 71, 3) := by decide +kernel
theorem dX9_init_173 : decode cX9_init 173 = .ok (.aload_n 0, 1) := by decide +kernel
theorem dX9_init_174 : decode cX9_init 174 = .ok (.bipush 60, 2) := by decide +kernel
theorem dX9_init_176 : decode cX9_init 176 = .ok (.newarray .long, 2) := by decide +kernel
theorem dX9_init_178 : decode cX9_init 178 = .ok (.putfield 74, 3) := by decide +kernel
theorem dX9_init_181 : decode cX9_init 181 = .ok (.return_, 1) := by decide +kernel
theorem dX9_in_0 : decode cX9_in 0 = .ok (.lload_n 0, 1) := by decide +kernel
theorem dX9_in_1 : decode cX9_in 1 = .ok (.lload_n 2, 1) := by decide +kernel
theorem dX9_in_2 : decode cX9_in 2 = .ok (.lcmp, 1) := by decide +kernel
theorem dX9_in_3 : decode cX9_in 3 = .ok (.ifCond .lt 14, 3) := by decide +kernel
theorem dX9_in_6 : decode cX9_in 6 = .ok (.lload_n 0, 1) := by decide +kernel
theorem dX9_in_7 : decode cX9_in 7 = .ok (.lload 4, 2) := by decide +kernel
theorem dX9_in_9 : decode cX9_in 9 = .ok (.lcmp, 1) := by decide +kernel
theorem dX9_in_10 : decode cX9_in 10 = .ok (.ifCond .gt 7, 3) := by decide +kernel
theorem dX9_in_13 : decode cX9_in 13 = .ok (.iconst 1, 1) := by decide +kernel
theorem dX9_in_14 : decode cX9_in 14 = .ok (.goto 4, 3) := by decide +kernel
theorem dX9_in_17 : decode cX9_in 17 = .ok (.iconst 0, 1) := by decide +kernel
theorem dX9_in_18 : decode cX9_in 18 = .ok (.ireturn, 1) := by decide +kernel
theorem dX9_image_0 : decode cX9_image 0 = .ok (.iload_n 1, 1) := by decide +kernel
theorem dX9_image_1 : decode cX9_image 1 = .ok (.i2l, 1) := by decide +kernel
theorem dX9_image_2 : decode cX9_image 2 = .ok (.lconst 0, 1) := by decide +kernel
theorem dX9_image_3 : decode cX9_image 3 = .ok (.ldc2_w 80, 3) := by decide +kernel
theorem dX9_image_6 : decode cX9_image 6 = .ok (.invokestatic 82, 3) := by decide +kernel
theorem dX9_image_9 : decode cX9_image 9 = .ok (.ifCond .ne 6, 3) := by decide +kernel
theorem dX9_image_12 : decode cX9_image 12 = .ok (.bipush (-2), 2) := by decide +kernel
theorem dX9_image_14 : decode cX9_image 14 = .ok (.ireturn, 1) := by decide +kernel
theorem dX9_image_15 : decode cX9_image 15 = .ok (.iconst 0, 1) := by decide +kernel
theorem dX9_image_16 : decode cX9_image 16 = .ok (.istore_n 2, 1) := by decide +kernel
theorem dX9_image_17 : decode cX9_image 17 = .ok (.iload_n 2, 1) := by decide +kernel
theorem dX9_image_18 : decode cX9_image 18 = .ok (.bipush 109, 2) := by decide +kernel
theorem dX9_image_20 : decode cX9_image 20 = .ok (.if_icmp .ge 26, 3) := by decide +kernel
theorem dX9_image_23 : decode cX9_image 23 = .ok (.aload_n 0, 1) := by decide +kernel
theorem dX9_image_24 : decode cX9_image 24 = .ok (.getfield 13, 3) := by decide +kernel
theorem dX9_image_27 : decode cX9_image 27 = .ok (.bipush 109, 2) := by decide +kernel
theorem dX9_image_29 : decode cX9_image 29 = .ok (.iload_n 1, 1) := by decide +kernel
theorem dX9_image_30 : decode cX9_image 30 = .ok (.imul, 1) := by decide +kernel
theorem dX9_image_31 : decode cX9_image 31 = .ok (.iload_n 2, 1) := by decide +kernel
theorem dX9_image_32 : decode cX9_image 32 = .ok (.iadd, 1) := by decide +kernel
theorem dX9_image_33 : decode cX9_image 33 = .ok (.aload_n 0, 1) := by decide +kernel
theorem dX9_image_34 : decode cX9_image 34 = .ok (.getfield 9, 3) := by decide +kernel
theorem dX9_image_37 : decode cX9_image 37 = .ok (.iload_n 2, 1) := by decide +kernel
theorem dX9_image_38 : decode cX9_image 38 = .ok (.iaload, 1) := by decide +kernel
theorem dX9_image_39 : decode cX9_image 39 = .ok (.iastore, 1) := by decide +kernel
theorem dX9_image_40 : decode cX9_image 40 = .ok (.iinc 2 1, 3) := by decide +kernel
theorem dX9_image_43 : decode cX9_image 43 = .ok (.goto (-26), 3) := by decide +kernel
theorem dX9_image_46 : decode cX9_image 46 = .ok (.aload_n 0, 1) := by decide +kernel
theorem dX9_image_47 : decode cX9_image 47 = .ok (.getfield 16, 3) := by decide +kernel
theorem dX9_image_50 : decode cX9_image 50 = .ok (.iload_n 1, 1) := by decide +kernel
theorem dX9_image_51 : decode cX9_image 51 = .ok (.iconst 1, 1) := by decide +kernel
theorem dX9_image_52 : decode cX9_image 52 = .ok (.bastore, 1) := by decide +kernel
theorem dX9_image_53 : decode cX9_image 53 = .ok (.iconst 0, 1) := by decide +kernel
theorem dX9_image_54 : decode cX9_image 54 = .ok (.ireturn, 1) := by decide +kernel
theorem dX9_back_0 : decode cX9_back 0 = .ok (.iload_n 1, 1) := by decide +kernel
theorem dX9_back_1 : decode cX9_back 1 = .ok (.i2l, 1) := by decide +kernel
theorem dX9_back_2 : decode cX9_back 2 = .ok (.lconst 0, 1) := by decide +kernel
theorem dX9_back_3 : decode cX9_back 3 = .ok (.ldc2_w 80, 3) := by decide +kernel
theorem dX9_back_6 : decode cX9_back 6 = .ok (.invokestatic 82, 3) := by decide +kernel
theorem dX9_back_9 : decode cX9_back 9 = .ok (.ifCond .ne 6, 3) := by decide +kernel
theorem dX9_back_12 : decode cX9_back 12 = .ok (.bipush (-2), 2) := by decide +kernel
theorem dX9_back_14 : decode cX9_back 14 = .ok (.ireturn, 1) := by decide +kernel
theorem dX9_back_15 : decode cX9_back 15 = .ok (.aload_n 0, 1) := by decide +kernel
theorem dX9_back_16 : decode cX9_back 16 = .ok (.getfield 16, 3) := by decide +kernel
theorem dX9_back_19 : decode cX9_back 19 = .ok (.iload_n 1, 1) := by decide +kernel
theorem dX9_back_20 : decode cX9_back 20 = .ok (.baload, 1) := by decide +kernel
theorem dX9_back_21 : decode cX9_back 21 = .ok (.ifCond .ne 6, 3) := by decide +kernel
theorem dX9_back_24 : decode cX9_back 24 = .ok (.bipush (-6), 2) := by decide +kernel
theorem dX9_back_26 : decode cX9_back 26 = .ok (.ireturn, 1) := by decide +kernel
theorem dX9_back_27 : decode cX9_back 27 = .ok (.iconst 0, 1) := by decide +kernel
theorem dX9_back_28 : decode cX9_back 28 = .ok (.istore_n 2, 1) := by decide +kernel
theorem dX9_back_29 : decode cX9_back 29 = .ok (.iload_n 2, 1) := by decide +kernel
theorem dX9_back_30 : decode cX9_back 30 = .ok (.bipush 109, 2) := by decide +kernel
theorem dX9_back_32 : decode cX9_back 32 = .ok (.if_icmp .ge 26, 3) := by decide +kernel
theorem dX9_back_35 : decode cX9_back 35 = .ok (.aload_n 0, 1) := by decide +kernel
theorem dX9_back_36 : decode cX9_back 36 = .ok (.getfield 9, 3) := by decide +kernel
theorem dX9_back_39 : decode cX9_back 39 = .ok (.iload_n 2, 1) := by decide +kernel
theorem dX9_back_40 : decode cX9_back 40 = .ok (.aload_n 0, 1) := by decide +kernel
theorem dX9_back_41 : decode cX9_back 41 = .ok (.getfield 13, 3) := by decide +kernel
theorem dX9_back_44 : decode cX9_back 44 = .ok (.bipush 109, 2) := by decide +kernel
theorem dX9_back_46 : decode cX9_back 46 = .ok (.iload_n 1, 1) := by decide +kernel
theorem dX9_back_47 : decode cX9_back 47 = .ok (.imul, 1) := by decide +kernel
theorem dX9_back_48 : decode cX9_back 48 = .ok (.iload_n 2, 1) := by decide +kernel
theorem dX9_back_49 : decode cX9_back 49 = .ok (.iadd, 1) := by decide +kernel
theorem dX9_back_50 : decode cX9_back 50 = .ok (.iaload, 1) := by decide +kernel
theorem dX9_back_51 : decode cX9_back 51 = .ok (.iastore, 1) := by decide +kernel
theorem dX9_back_52 : decode cX9_back 52 = .ok (.iinc 2 1, 3) := by decide +kernel
theorem dX9_back_55 : decode cX9_back 55 = .ok (.goto (-26), 3) := by decide +kernel
theorem dX9_back_58 : decode cX9_back 58 = .ok (.iconst 0, 1) := by decide +kernel
theorem dX9_back_59 : decode cX9_back 59 = .ok (.ireturn, 1) := by decide +kernel
theorem dX9_isMountain_0 : decode cX9_isMountain 0 = .ok (.aload_n 0, 1) := by decide +kernel
theorem dX9_isMountain_1 : decode cX9_isMountain 1 = .ok (.getfield 9, 3) := by decide +kernel
theorem dX9_isMountain_4 : decode cX9_isMountain 4 = .ok (.iconst 0, 1) := by decide +kernel
theorem dX9_isMountain_5 : decode cX9_isMountain 5 = .ok (.iaload, 1) := by decide +kernel
theorem dX9_isMountain_6 : decode cX9_isMountain 6 = .ok (.ifCond .le 7, 3) := by decide +kernel
theorem dX9_isMountain_9 : decode cX9_isMountain 9 = .ok (.iconst 1, 1) := by decide +kernel
theorem dX9_isMountain_10 : decode cX9_isMountain 10 = .ok (.goto 4, 3) := by decide +kernel
theorem dX9_isMountain_13 : decode cX9_isMountain 13 = .ok (.iconst 0, 1) := by decide +kernel
theorem dX9_isMountain_14 : decode cX9_isMountain 14 = .ok (.ireturn, 1) := by decide +kernel
theorem dX9_places_0 : decode cX9_places 0 = .ok (.aload_n 0, 1) := by decide +kernel
theorem dX9_places_1 : decode cX9_places 1 = .ok (.getfield 9, 3) := by decide +kernel
theorem dX9_places_4 : decode cX9_places 4 = .ok (.iconst 0, 1) := by decide +kernel
theorem dX9_places_5 : decode cX9_places 5 = .ok (.iaload, 1) := by decide +kernel
theorem dX9_places_6 : decode cX9_places 6 = .ok (.ireturn, 1) := by decide +kernel
theorem dX9_isPlace_0 : decode cX9_isPlace 0 = .ok (.iload_n 1, 1) := by decide +kernel
theorem dX9_isPlace_1 : decode cX9_isPlace 1 = .ok (.i2l, 1) := by decide +kernel
theorem dX9_isPlace_2 : decode cX9_isPlace 2 = .ok (.lconst 0, 1) := by decide +kernel
theorem dX9_isPlace_3 : decode cX9_isPlace 3 = .ok (.aload_n 0, 1) := by decide +kernel
theorem dX9_isPlace_4 : decode cX9_isPlace 4 = .ok (.invokevirtual 86, 3) := by decide +kernel
theorem dX9_isPlace_7 : decode cX9_isPlace 7 = .ok (.iconst 1, 1) := by decide +kernel
theorem dX9_isPlace_8 : decode cX9_isPlace 8 = .ok (.isub, 1) := by decide +kernel
theorem dX9_isPlace_9 : decode cX9_isPlace 9 = .ok (.i2l, 1) := by decide +kernel
theorem dX9_isPlace_10 : decode cX9_isPlace 10 = .ok (.invokestatic 82, 3) := by decide +kernel
theorem dX9_isPlace_13 : decode cX9_isPlace 13 = .ok (.ireturn, 1) := by decide +kernel
theorem dX9_isYear_0 : decode cX9_isYear 0 = .ok (.lload_n 1, 1) := by decide +kernel
theorem dX9_isYear_1 : decode cX9_isYear 1 = .ok (.lconst 0, 1) := by decide +kernel
theorem dX9_isYear_2 : decode cX9_isYear 2 = .ok (.aload_n 0, 1) := by decide +kernel
theorem dX9_isYear_3 : decode cX9_isYear 3 = .ok (.getfield 9, 3) := by decide +kernel
theorem dX9_isYear_6 : decode cX9_isYear 6 = .ok (.iconst 1, 1) := by decide +kernel
theorem dX9_isYear_7 : decode cX9_isYear 7 = .ok (.iaload, 1) := by decide +kernel
theorem dX9_isYear_8 : decode cX9_isYear 8 = .ok (.iconst 1, 1) := by decide +kernel
theorem dX9_isYear_9 : decode cX9_isYear 9 = .ok (.isub, 1) := by decide +kernel
theorem dX9_isYear_10 : decode cX9_isYear 10 = .ok (.i2l, 1) := by decide +kernel
theorem dX9_isYear_11 : decode cX9_isYear 11 = .ok (.invokestatic 82, 3) := by decide +kernel
theorem dX9_isYear_14 : decode cX9_isYear 14 = .ok (.ireturn, 1) := by decide +kernel
theorem dX9_isPath_0 : decode cX9_isPath 0 = .ok (.lload_n 1, 1) := by decide +kernel
theorem dX9_isPath_1 : decode cX9_isPath 1 = .ok (.lconst 0, 1) := by decide +kernel
theorem dX9_isPath_2 : decode cX9_isPath 2 = .ok (.aload_n 0, 1) := by decide +kernel
theorem dX9_isPath_3 : decode cX9_isPath 3 = .ok (.getfield 9, 3) := by decide +kernel
theorem dX9_isPath_6 : decode cX9_isPath 6 = .ok (.iconst 2, 1) := by decide +kernel
theorem dX9_isPath_7 : decode cX9_isPath 7 = .ok (.iaload, 1) := by decide +kernel
theorem dX9_isPath_8 : decode cX9_isPath 8 = .ok (.iconst 1, 1) := by decide +kernel
theorem dX9_isPath_9 : decode cX9_isPath 9 = .ok (.isub, 1) := by decide +kernel
theorem dX9_isPath_10 : decode cX9_isPath 10 = .ok (.i2l, 1) := by decide +kernel
theorem dX9_isPath_11 : decode cX9_isPath 11 = .ok (.invokestatic 82, 3) := by decide +kernel
theorem dX9_isPath_14 : decode cX9_isPath 14 = .ok (.ireturn, 1) := by decide +kernel
theorem dX9_isBride_0 : decode cX9_isBride 0 = .ok (.iload_n 1, 1) := by decide +kernel
theorem dX9_isBride_1 : decode cX9_isBride 1 = .ok (.i2l, 1) := by decide +kernel
theorem dX9_isBride_2 : decode cX9_isBride 2 = .ok (.lconst 0, 1) := by decide +kernel
theorem dX9_isBride_3 : decode cX9_isBride 3 = .ok (.aload_n 0, 1) := by decide +kernel
theorem dX9_isBride_4 : decode cX9_isBride 4 = .ok (.getfield 9, 3) := by decide +kernel
theorem dX9_isBride_7 : decode cX9_isBride 7 = .ok (.iconst 3, 1) := by decide +kernel
theorem dX9_isBride_8 : decode cX9_isBride 8 = .ok (.iaload, 1) := by decide +kernel
theorem dX9_isBride_9 : decode cX9_isBride 9 = .ok (.iconst 1, 1) := by decide +kernel
theorem dX9_isBride_10 : decode cX9_isBride 10 = .ok (.isub, 1) := by decide +kernel
theorem dX9_isBride_11 : decode cX9_isBride 11 = .ok (.i2l, 1) := by decide +kernel
theorem dX9_isBride_12 : decode cX9_isBride 12 = .ok (.invokestatic 82, 3) := by decide +kernel
theorem dX9_isBride_15 : decode cX9_isBride 15 = .ok (.ireturn, 1) := by decide +kernel
theorem dX9_isSuitor_0 : decode cX9_isSuitor 0 = .ok (.iload_n 1, 1) := by decide +kernel
theorem dX9_isSuitor_1 : decode cX9_isSuitor 1 = .ok (.i2l, 1) := by decide +kernel
theorem dX9_isSuitor_2 : decode cX9_isSuitor 2 = .ok (.lconst 0, 1) := by decide +kernel
theorem dX9_isSuitor_3 : decode cX9_isSuitor 3 = .ok (.aload_n 0, 1) := by decide +kernel
theorem dX9_isSuitor_4 : decode cX9_isSuitor 4 = .ok (.getfield 9, 3) := by decide +kernel
theorem dX9_isSuitor_7 : decode cX9_isSuitor 7 = .ok (.iconst 4, 1) := by decide +kernel
theorem dX9_isSuitor_8 : decode cX9_isSuitor 8 = .ok (.iaload, 1) := by decide +kernel
theorem dX9_isSuitor_9 : decode cX9_isSuitor 9 = .ok (.iconst 1, 1) := by decide +kernel
theorem dX9_isSuitor_10 : decode cX9_isSuitor 10 = .ok (.isub, 1) := by decide +kernel
theorem dX9_isSuitor_11 : decode cX9_isSuitor 11 = .ok (.i2l, 1) := by decide +kernel
theorem dX9_isSuitor_12 : decode cX9_isSuitor 12 = .ok (.invokestatic 82, 3) := by decide +kernel
theorem dX9_isSuitor_15 : decode cX9_isSuitor 15 = .ok (.ireturn, 1) := by decide +kernel
theorem dX9_isWalker_0 : decode cX9_isWalker 0 = .ok (.iload_n 1, 1) := by decide +kernel
theorem dX9_isWalker_1 : decode cX9_isWalker 1 = .ok (.i2l, 1) := by decide +kernel
theorem dX9_isWalker_2 : decode cX9_isWalker 2 = .ok (.lconst 0, 1) := by decide +kernel
theorem dX9_isWalker_3 : decode cX9_isWalker 3 = .ok (.aload_n 0, 1) := by decide +kernel
theorem dX9_isWalker_4 : decode cX9_isWalker 4 = .ok (.getfield 9, 3) := by decide +kernel
theorem dX9_isWalker_7 : decode cX9_isWalker 7 = .ok (.iconst 5, 1) := by decide +kernel
theorem dX9_isWalker_8 : decode cX9_isWalker 8 = .ok (.iaload, 1) := by decide +kernel
theorem dX9_isWalker_9 : decode cX9_isWalker 9 = .ok (.iconst 1, 1) := by decide +kernel
theorem dX9_isWalker_10 : decode cX9_isWalker 10 = .ok (.isub, 1) := by decide +kernel
theorem dX9_isWalker_11 : decode cX9_isWalker 11 = .ok (.i2l, 1) := by decide +kernel
theorem dX9_isWalker_12 : decode cX9_isWalker 12 = .ok (.invokestatic 82, 3) := by decide +kernel
theorem dX9_isWalker_15 : decode cX9_isWalker 15 = .ok (.ireturn, 1) := by decide +kernel
theorem dX9_endOf_0 : decode cX9_endOf 0 = .ok (.aload_n 0, 1) := by decide +kernel
theorem dX9_endOf_1 : decode cX9_endOf 1 = .ok (.getfield 9, 3) := by decide +kernel
theorem dX9_endOf_4 : decode cX9_endOf 4 = .ok (.bipush 45, 2) := by decide +kernel
theorem dX9_endOf_6 : decode cX9_endOf 6 = .ok (.iconst 2, 1) := by decide +kernel
theorem dX9_endOf_7 : decode cX9_endOf 7 = .ok (.iload_n 1, 1) := by decide +kernel
theorem dX9_endOf_8 : decode cX9_endOf 8 = .ok (.imul, 1) := by decide +kernel
theorem dX9_endOf_9 : decode cX9_endOf 9 = .ok (.iadd, 1) := by decide +kernel
theorem dX9_endOf_10 : decode cX9_endOf 10 = .ok (.iload_n 2, 1) := by decide +kernel
theorem dX9_endOf_11 : decode cX9_endOf 11 = .ok (.iadd, 1) := by decide +kernel
theorem dX9_endOf_12 : decode cX9_endOf 12 = .ok (.iaload, 1) := by decide +kernel
theorem dX9_endOf_13 : decode cX9_endOf 13 = .ok (.ireturn, 1) := by decide +kernel
theorem dX9_dropOf_0 : decode cX9_dropOf 0 = .ok (.aload_n 0, 1) := by decide +kernel
theorem dX9_dropOf_1 : decode cX9_dropOf 1 = .ok (.getfield 9, 3) := by decide +kernel
theorem dX9_dropOf_4 : decode cX9_dropOf 4 = .ok (.bipush 7, 2) := by decide +kernel
theorem dX9_dropOf_6 : decode cX9_dropOf 6 = .ok (.aload_n 0, 1) := by decide +kernel
theorem dX9_dropOf_7 : decode cX9_dropOf 7 = .ok (.iload_n 1, 1) := by decide +kernel
theorem dX9_dropOf_8 : decode cX9_dropOf 8 = .ok (.iconst 0, 1) := by decide +kernel
theorem dX9_dropOf_9 : decode cX9_dropOf 9 = .ok (.invokevirtual 90, 3) := by decide +kernel
theorem dX9_dropOf_12 : decode cX9_dropOf 12 = .ok (.iadd, 1) := by decide +kernel
theorem dX9_dropOf_13 : decode cX9_dropOf 13 = .ok (.iaload, 1) := by decide +kernel
theorem dX9_dropOf_14 : decode cX9_dropOf 14 = .ok (.aload_n 0, 1) := by decide +kernel
theorem dX9_dropOf_15 : decode cX9_dropOf 15 = .ok (.getfield 9, 3) := by decide +kernel
theorem dX9_dropOf_18 : decode cX9_dropOf 18 = .ok (.bipush 7, 2) := by decide +kernel
theorem dX9_dropOf_20 : decode cX9_dropOf 20 = .ok (.aload_n 0, 1) := by decide +kernel
theorem dX9_dropOf_21 : decode cX9_dropOf 21 = .ok (.iload_n 1, 1) := by decide +kernel
theorem dX9_dropOf_22 : decode cX9_dropOf 22 = .ok (.iconst 1, 1) := by decide +kernel
theorem dX9_dropOf_23 : decode cX9_dropOf 23 = .ok (.invokevirtual 90, 3) := by decide +kernel
theorem dX9_dropOf_26 : decode cX9_dropOf 26 = .ok (.iadd, 1) := by decide +kernel
theorem dX9_dropOf_27 : decode cX9_dropOf 27 = .ok (.iaload, 1) := by decide +kernel
theorem dX9_dropOf_28 : decode cX9_dropOf 28 = .ok (.isub, 1) := by decide +kernel
theorem dX9_dropOf_29 : decode cX9_dropOf 29 = .ok (.invokestatic 94, 3) := by decide +kernel
theorem dX9_dropOf_32 : decode cX9_dropOf 32 = .ok (.ireturn, 1) := by decide +kernel
theorem dX9_pathOf_0 : decode cX9_pathOf 0 = .ok (.aload_n 0, 1) := by decide +kernel
theorem dX9_pathOf_1 : decode cX9_pathOf 1 = .ok (.getfield 9, 3) := by decide +kernel
theorem dX9_pathOf_4 : decode cX9_pathOf 4 = .ok (.bipush 65, 2) := by decide +kernel
theorem dX9_pathOf_6 : decode cX9_pathOf 6 = .ok (.iconst 2, 1) := by decide +kernel
theorem dX9_pathOf_7 : decode cX9_pathOf 7 = .ok (.iload_n 1, 1) := by decide +kernel
theorem dX9_pathOf_8 : decode cX9_pathOf 8 = .ok (.imul, 1) := by decide +kernel
theorem dX9_pathOf_9 : decode cX9_pathOf 9 = .ok (.iadd, 1) := by decide +kernel
theorem dX9_pathOf_10 : decode cX9_pathOf 10 = .ok (.iaload, 1) := by decide +kernel
theorem dX9_pathOf_11 : decode cX9_pathOf 11 = .ok (.ireturn, 1) := by decide +kernel
theorem dX9_yearOf_0 : decode cX9_yearOf 0 = .ok (.aload_n 0, 1) := by decide +kernel
theorem dX9_yearOf_1 : decode cX9_yearOf 1 = .ok (.getfield 9, 3) := by decide +kernel
theorem dX9_yearOf_4 : decode cX9_yearOf 4 = .ok (.bipush 65, 2) := by decide +kernel
theorem dX9_yearOf_6 : decode cX9_yearOf 6 = .ok (.iconst 2, 1) := by decide +kernel
theorem dX9_yearOf_7 : decode cX9_yearOf 7 = .ok (.iload_n 1, 1) := by decide +kernel
theorem dX9_yearOf_8 : decode cX9_yearOf 8 = .ok (.imul, 1) := by decide +kernel
theorem dX9_yearOf_9 : decode cX9_yearOf 9 = .ok (.iadd, 1) := by decide +kernel
theorem dX9_yearOf_10 : decode cX9_yearOf 10 = .ok (.iconst 1, 1) := by decide +kernel
theorem dX9_yearOf_11 : decode cX9_yearOf 11 = .ok (.iadd, 1) := by decide +kernel
theorem dX9_yearOf_12 : decode cX9_yearOf 12 = .ok (.iaload, 1) := by decide +kernel
theorem dX9_yearOf_13 : decode cX9_yearOf 13 = .ok (.ireturn, 1) := by decide +kernel
theorem dX9_skillOf_0 : decode cX9_skillOf 0 = .ok (.aload_n 0, 1) := by decide +kernel
theorem dX9_skillOf_1 : decode cX9_skillOf 1 = .ok (.getfield 9, 3) := by decide +kernel
theorem dX9_skillOf_4 : decode cX9_skillOf 4 = .ok (.bipush 73, 2) := by decide +kernel
theorem dX9_skillOf_6 : decode cX9_skillOf 6 = .ok (.iconst 3, 1) := by decide +kernel
theorem dX9_skillOf_7 : decode cX9_skillOf 7 = .ok (.iload_n 1, 1) := by decide +kernel
theorem dX9_skillOf_8 : decode cX9_skillOf 8 = .ok (.imul, 1) := by decide +kernel
theorem dX9_skillOf_9 : decode cX9_skillOf 9 = .ok (.iadd, 1) := by decide +kernel
theorem dX9_skillOf_10 : decode cX9_skillOf 10 = .ok (.iaload, 1) := by decide +kernel
theorem dX9_skillOf_11 : decode cX9_skillOf 11 = .ok (.ireturn, 1) := by decide +kernel
theorem dX9_spiteOf_0 : decode cX9_spiteOf 0 = .ok (.aload_n 0, 1) := by decide +kernel
theorem dX9_spiteOf_1 : decode cX9_spiteOf 1 = .ok (.getfield 9, 3) := by decide +kernel
theorem dX9_spiteOf_4 : decode cX9_spiteOf 4 = .ok (.bipush 73, 2) := by decide +kernel
theorem dX9_spiteOf_6 : decode cX9_spiteOf 6 = .ok (.iconst 3, 1) := by decide +kernel
theorem dX9_spiteOf_7 : decode cX9_spiteOf 7 = .ok (.iload_n 1, 1) := by decide +kernel
theorem dX9_spiteOf_8 : decode cX9_spiteOf 8 = .ok (.imul, 1) := by decide +kernel
theorem dX9_spiteOf_9 : decode cX9_spiteOf 9 = .ok (.iadd, 1) := by decide +kernel
theorem dX9_spiteOf_10 : decode cX9_spiteOf 10 = .ok (.iconst 1, 1) := by decide +kernel
theorem dX9_spiteOf_11 : decode cX9_spiteOf 11 = .ok (.iadd, 1) := by decide +kernel
theorem dX9_spiteOf_12 : decode cX9_spiteOf 12 = .ok (.iaload, 1) := by decide +kernel
theorem dX9_spiteOf_13 : decode cX9_spiteOf 13 = .ok (.ireturn, 1) := by decide +kernel
theorem dX9_isFor_0 : decode cX9_isFor 0 = .ok (.aload_n 0, 1) := by decide +kernel
theorem dX9_isFor_1 : decode cX9_isFor 1 = .ok (.getfield 9, 3) := by decide +kernel
theorem dX9_isFor_4 : decode cX9_isFor 4 = .ok (.bipush 73, 2) := by decide +kernel
theorem dX9_isFor_6 : decode cX9_isFor 6 = .ok (.iconst 3, 1) := by decide +kernel
theorem dX9_isFor_7 : decode cX9_isFor 7 = .ok (.iload_n 1, 1) := by decide +kernel
theorem dX9_isFor_8 : decode cX9_isFor 8 = .ok (.imul, 1) := by decide +kernel
theorem dX9_isFor_9 : decode cX9_isFor 9 = .ok (.iadd, 1) := by decide +kernel
theorem dX9_isFor_10 : decode cX9_isFor 10 = .ok (.iconst 2, 1) := by decide +kernel
theorem dX9_isFor_11 : decode cX9_isFor 11 = .ok (.iadd, 1) := by decide +kernel
theorem dX9_isFor_12 : decode cX9_isFor 12 = .ok (.iaload, 1) := by decide +kernel
theorem dX9_isFor_13 : decode cX9_isFor 13 = .ok (.iload_n 2, 1) := by decide +kernel
theorem dX9_isFor_14 : decode cX9_isFor 14 = .ok (.ishr, 1) := by decide +kernel
theorem dX9_isFor_15 : decode cX9_isFor 15 = .ok (.iconst 1, 1) := by decide +kernel
theorem dX9_isFor_16 : decode cX9_isFor 16 = .ok (.iand, 1) := by decide +kernel
theorem dX9_isFor_17 : decode cX9_isFor 17 = .ok (.iconst 1, 1) := by decide +kernel
theorem dX9_isFor_18 : decode cX9_isFor 18 = .ok (.if_icmp .ne 7, 3) := by decide +kernel
theorem dX9_isFor_21 : decode cX9_isFor 21 = .ok (.iconst 1, 1) := by decide +kernel
theorem dX9_isFor_22 : decode cX9_isFor 22 = .ok (.goto 4, 3) := by decide +kernel
theorem dX9_isFor_25 : decode cX9_isFor 25 = .ok (.iconst 0, 1) := by decide +kernel
theorem dX9_isFor_26 : decode cX9_isFor 26 = .ok (.ireturn, 1) := by decide +kernel
theorem dX9_leapOf_0 : decode cX9_leapOf 0 = .ok (.aload_n 0, 1) := by decide +kernel
theorem dX9_leapOf_1 : decode cX9_leapOf 1 = .ok (.getfield 9, 3) := by decide +kernel
theorem dX9_leapOf_4 : decode cX9_leapOf 4 = .ok (.bipush 94, 2) := by decide +kernel
theorem dX9_leapOf_6 : decode cX9_leapOf 6 = .ok (.iconst 2, 1) := by decide +kernel
theorem dX9_leapOf_7 : decode cX9_leapOf 7 = .ok (.iload_n 1, 1) := by decide +kernel
theorem dX9_leapOf_8 : decode cX9_leapOf 8 = .ok (.imul, 1) := by decide +kernel
theorem dX9_leapOf_9 : decode cX9_leapOf 9 = .ok (.iadd, 1) := by decide +kernel
theorem dX9_leapOf_10 : decode cX9_leapOf 10 = .ok (.iaload, 1) := by decide +kernel
theorem dX9_leapOf_11 : decode cX9_leapOf 11 = .ok (.ireturn, 1) := by decide +kernel
theorem dX9_homeOf_0 : decode cX9_homeOf 0 = .ok (.aload_n 0, 1) := by decide +kernel
theorem dX9_homeOf_1 : decode cX9_homeOf 1 = .ok (.getfield 9, 3) := by decide +kernel
theorem dX9_homeOf_4 : decode cX9_homeOf 4 = .ok (.bipush 94, 2) := by decide +kernel
theorem dX9_homeOf_6 : decode cX9_homeOf 6 = .ok (.iconst 2, 1) := by decide +kernel
theorem dX9_homeOf_7 : decode cX9_homeOf 7 = .ok (.iload_n 1, 1) := by decide +kernel
theorem dX9_homeOf_8 : decode cX9_homeOf 8 = .ok (.imul, 1) := by decide +kernel
theorem dX9_homeOf_9 : decode cX9_homeOf 9 = .ok (.iadd, 1) := by decide +kernel
theorem dX9_homeOf_10 : decode cX9_homeOf 10 = .ok (.iconst 1, 1) := by decide +kernel
theorem dX9_homeOf_11 : decode cX9_homeOf 11 = .ok (.iadd, 1) := by decide +kernel
theorem dX9_homeOf_12 : decode cX9_homeOf 12 = .ok (.iaload, 1) := by decide +kernel
theorem dX9_homeOf_13 : decode cX9_homeOf 13 = .ok (.ireturn, 1) := by decide +kernel
theorem dX9_courts_0 : decode cX9_courts 0 = .ok (.aload_n 0, 1) := by decide +kernel
theorem dX9_courts_1 : decode cX9_courts 1 = .ok (.getfield 9, 3) := by decide +kernel
theorem dX9_courts_4 : decode cX9_courts 4 = .ok (.bipush 102, 2) := by decide +kernel
theorem dX9_courts_6 : decode cX9_courts 6 = .ok (.iload_n 1, 1) := by decide +kernel
theorem dX9_courts_7 : decode cX9_courts 7 = .ok (.iadd, 1) := by decide +kernel
theorem dX9_courts_8 : decode cX9_courts 8 = .ok (.iaload, 1) := by decide +kernel
theorem dX9_courts_9 : decode cX9_courts 9 = .ok (.ireturn, 1) := by decide +kernel
theorem dX9_feed_0 : decode cX9_feed 0 = .ok (.aload_n 0, 1) := by decide +kernel
theorem dX9_feed_1 : decode cX9_feed 1 = .ok (.getfield 100, 3) := by decide +kernel
theorem dX9_feed_4 : decode cX9_feed 4 = .ok (.bipush 20, 2) := by decide +kernel
theorem dX9_feed_6 : decode cX9_feed 6 = .ok (.iadd, 1) := by decide +kernel
theorem dX9_feed_7 : decode cX9_feed 7 = .ok (.sipush 1400, 3) := by decide +kernel
theorem dX9_feed_10 : decode cX9_feed 10 = .ok (.if_icmp .le 5, 3) := by decide +kernel
theorem dX9_feed_13 : decode cX9_feed 13 = .ok (.iconst (-1), 1) := by decide +kernel
theorem dX9_feed_14 : decode cX9_feed 14 = .ok (.ireturn, 1) := by decide +kernel
theorem dX9_feed_15 : decode cX9_feed 15 = .ok (.aload_n 0, 1) := by decide +kernel
theorem dX9_feed_16 : decode cX9_feed 16 = .ok (.getfield 24, 3) := by decide +kernel
theorem dX9_feed_19 : decode cX9_feed 19 = .ok (.iconst 0, 1) := by decide +kernel
theorem dX9_feed_20 : decode cX9_feed 20 = .ok (.iload_n 1, 1) := by decide +kernel
theorem dX9_feed_21 : decode cX9_feed 21 = .ok (.iastore, 1) := by decide +kernel
theorem dX9_feed_22 : decode cX9_feed 22 = .ok (.aload_n 0, 1) := by decide +kernel
theorem dX9_feed_23 : decode cX9_feed 23 = .ok (.getfield 24, 3) := by decide +kernel
theorem dX9_feed_26 : decode cX9_feed 26 = .ok (.iconst 1, 1) := by decide +kernel
theorem dX9_feed_27 : decode cX9_feed 27 = .ok (.iload_n 2, 1) := by decide +kernel
theorem dX9_feed_28 : decode cX9_feed 28 = .ok (.iastore, 1) := by decide +kernel
theorem dX9_feed_29 : decode cX9_feed 29 = .ok (.aload_n 0, 1) := by decide +kernel
theorem dX9_feed_30 : decode cX9_feed 30 = .ok (.getfield 24, 3) := by decide +kernel
theorem dX9_feed_33 : decode cX9_feed 33 = .ok (.iconst 2, 1) := by decide +kernel
theorem dX9_feed_34 : decode cX9_feed 34 = .ok (.iload_n 3, 1) := by decide +kernel
theorem dX9_feed_35 : decode cX9_feed 35 = .ok (.iastore, 1) := by decide +kernel
theorem dX9_feed_36 : decode cX9_feed 36 = .ok (.aload_n 0, 1) := by decide +kernel
theorem dX9_feed_37 : decode cX9_feed 37 = .ok (.getfield 24, 3) := by decide +kernel
theorem dX9_feed_40 : decode cX9_feed 40 = .ok (.iconst 3, 1) := by decide +kernel
theorem dX9_feed_41 : decode cX9_feed 41 = .ok (.iload 4, 2) := by decide +kernel
theorem dX9_feed_43 : decode cX9_feed 43 = .ok (.iastore, 1) := by decide +kernel
theorem dX9_feed_44 : decode cX9_feed 44 = .ok (.aload_n 0, 1) := by decide +kernel
theorem dX9_feed_45 : decode cX9_feed 45 = .ok (.getfield 24, 3) := by decide +kernel
theorem dX9_feed_48 : decode cX9_feed 48 = .ok (.iconst 4, 1) := by decide +kernel
theorem dX9_feed_49 : decode cX9_feed 49 = .ok (.iload 5, 2) := by decide +kernel
theorem dX9_feed_51 : decode cX9_feed 51 = .ok (.iastore, 1) := by decide +kernel
theorem dX9_feed_52 : decode cX9_feed 52 = .ok (.iconst 0, 1) := by decide +kernel
theorem dX9_feed_53 : decode cX9_feed 53 = .ok (.istore 6, 2) := by decide +kernel
theorem dX9_feed_55 : decode cX9_feed 55 = .ok (.iload 6, 2) := by decide +kernel
theorem dX9_feed_57 : decode cX9_feed 57 = .ok (.bipush 20, 2) := by decide +kernel
theorem dX9_feed_59 : decode cX9_feed 59 = .ok (.if_icmp .ge 42, 3) := by decide +kernel
theorem dX9_feed_62 : decode cX9_feed 62 = .ok (.aload_n 0, 1) := by decide +kernel
theorem dX9_feed_63 : decode cX9_feed 63 = .ok (.getfield 20, 3) := by decide +kernel
theorem dX9_feed_66 : decode cX9_feed 66 = .ok (.aload_n 0, 1) := by decide +kernel
theorem dX9_feed_67 : decode cX9_feed 67 = .ok (.getfield 100, 3) := by decide +kernel
theorem dX9_feed_70 : decode cX9_feed 70 = .ok (.iload 6, 2) := by decide +kernel
theorem dX9_feed_72 : decode cX9_feed 72 = .ok (.iadd, 1) := by decide +kernel
theorem dX9_feed_73 : decode cX9_feed 73 = .ok (.aload_n 0, 1) := by decide +kernel
theorem dX9_feed_74 : decode cX9_feed 74 = .ok (.getfield 24, 3) := by decide +kernel
theorem dX9_feed_77 : decode cX9_feed 77 = .ok (.iload 6, 2) := by decide +kernel
theorem dX9_feed_79 : decode cX9_feed 79 = .ok (.iconst 4, 1) := by decide +kernel
theorem dX9_feed_80 : decode cX9_feed 80 = .ok (.idiv, 1) := by decide +kernel
theorem dX9_feed_81 : decode cX9_feed 81 = .ok (.iaload, 1) := by decide +kernel
theorem dX9_feed_82 : decode cX9_feed 82 = .ok (.bipush 24, 2) := by decide +kernel
theorem dX9_feed_84 : decode cX9_feed 84 = .ok (.bipush 8, 2) := by decide +kernel
theorem dX9_feed_86 : decode cX9_feed 86 = .ok (.iload 6, 2) := by decide +kernel
theorem dX9_feed_88 : decode cX9_feed 88 = .ok (.iconst 4, 1) := by decide +kernel
theorem dX9_feed_89 : decode cX9_feed 89 = .ok (.irem, 1) := by decide +kernel
theorem dX9_feed_90 : decode cX9_feed 90 = .ok (.imul, 1) := by decide +kernel
theorem dX9_feed_91 : decode cX9_feed 91 = .ok (.isub, 1) := by decide +kernel
theorem dX9_feed_92 : decode cX9_feed 92 = .ok (.ishr, 1) := by decide +kernel
theorem dX9_feed_93 : decode cX9_feed 93 = .ok (.i2b, 1) := by decide +kernel
theorem dX9_feed_94 : decode cX9_feed 94 = .ok (.bastore, 1) := by decide +kernel
theorem dX9_feed_95 : decode cX9_feed 95 = .ok (.iinc 6 1, 3) := by decide +kernel
theorem dX9_feed_98 : decode cX9_feed 98 = .ok (.goto (-43), 3) := by decide +kernel
theorem dX9_feed_101 : decode cX9_feed 101 = .ok (.aload_n 0, 1) := by decide +kernel
theorem dX9_feed_102 : decode cX9_feed 102 = .ok (.dup, 1) := by decide +kernel
theorem dX9_feed_103 : decode cX9_feed 103 = .ok (.getfield 100, 3) := by decide +kernel
theorem dX9_feed_106 : decode cX9_feed 106 = .ok (.bipush 20, 2) := by decide +kernel
theorem dX9_feed_108 : decode cX9_feed 108 = .ok (.iadd, 1) := by decide +kernel
theorem dX9_feed_109 : decode cX9_feed 109 = .ok (.putfield 100, 3) := by decide +kernel
theorem dX9_feed_112 : decode cX9_feed 112 = .ok (.aload_n 0, 1) := by decide +kernel
theorem dX9_feed_113 : decode cX9_feed 113 = .ok (.getfield 100, 3) := by decide +kernel
theorem dX9_feed_116 : decode cX9_feed 116 = .ok (.ireturn, 1) := by decide +kernel
theorem dX9_end_0 : decode cX9_end 0 = .ok (.iload_n 1, 1) := by decide +kernel
theorem dX9_end_1 : decode cX9_end 1 = .ok (.i2l, 1) := by decide +kernel
theorem dX9_end_2 : decode cX9_end 2 = .ok (.lconst 0, 1) := by decide +kernel
theorem dX9_end_3 : decode cX9_end 3 = .ok (.aload_n 0, 1) := by decide +kernel
theorem dX9_end_4 : decode cX9_end 4 = .ok (.getfield 100, 3) := by decide +kernel
theorem dX9_end_7 : decode cX9_end 7 = .ok (.i2l, 1) := by decide +kernel
theorem dX9_end_8 : decode cX9_end 8 = .ok (.invokestatic 82, 3) := by decide +kernel
theorem dX9_end_11 : decode cX9_end 11 = .ok (.ifCond .ne 5, 3) := by decide +kernel
theorem dX9_end_14 : decode cX9_end 14 = .ok (.iconst (-1), 1) := by decide +kernel
theorem dX9_end_15 : decode cX9_end 15 = .ok (.ireturn, 1) := by decide +kernel
theorem dX9_end_16 : decode cX9_end 16 = .ok (.aload_n 0, 1) := by decide +kernel
theorem dX9_end_17 : decode cX9_end 17 = .ok (.iload_n 1, 1) := by decide +kernel
theorem dX9_end_18 : decode cX9_end 18 = .ok (.putfield 100, 3) := by decide +kernel
theorem dX9_end_21 : decode cX9_end 21 = .ok (.iload_n 1, 1) := by decide +kernel
theorem dX9_end_22 : decode cX9_end 22 = .ok (.ireturn, 1) := by decide +kernel
theorem dX9_see_0 : decode cX9_see 0 = .ok (.iload_n 1, 1) := by decide +kernel
theorem dX9_see_1 : decode cX9_see 1 = .ok (.aload_n 0, 1) := by decide +kernel
theorem dX9_see_2 : decode cX9_see 2 = .ok (.getfield 103, 3) := by decide +kernel
theorem dX9_see_5 : decode cX9_see 5 = .ok (.if_icmp .ge 16, 3) := by decide +kernel
theorem dX9_see_8 : decode cX9_see 8 = .ok (.aload_n 0, 1) := by decide +kernel
theorem dX9_see_9 : decode cX9_see 9 = .ok (.getfield 20, 3) := by decide +kernel
theorem dX9_see_12 : decode cX9_see 12 = .ok (.iload_n 1, 1) := by decide +kernel
theorem dX9_see_13 : decode cX9_see 13 = .ok (.baload, 1) := by decide +kernel
theorem dX9_see_14 : decode cX9_see 14 = .ok (.sipush 255, 3) := by decide +kernel
theorem dX9_see_17 : decode cX9_see 17 = .ok (.iand, 1) := by decide +kernel
theorem dX9_see_18 : decode cX9_see 18 = .ok (.goto 4, 3) := by decide +kernel
theorem dX9_see_21 : decode cX9_see 21 = .ok (.iconst (-1), 1) := by decide +kernel
theorem dX9_see_22 : decode cX9_see 22 = .ok (.ireturn, 1) := by decide +kernel
theorem dX9_advance_0 : decode cX9_advance 0 = .ok (.aload_n 0, 1) := by decide +kernel
theorem dX9_advance_1 : decode cX9_advance 1 = .ok (.aload_n 0, 1) := by decide +kernel
theorem dX9_advance_2 : decode cX9_advance 2 = .ok (.getfield 106, 3) := by decide +kernel
theorem dX9_advance_5 : decode cX9_advance 5 = .ok (.invokevirtual 109, 3) := by decide +kernel
theorem dX9_advance_8 : decode cX9_advance 8 = .ok (.bipush 32, 2) := by decide +kernel
theorem dX9_advance_10 : decode cX9_advance 10 = .ok (.if_icmp .eq 16, 3) := by decide +kernel
theorem dX9_advance_13 : decode cX9_advance 13 = .ok (.aload_n 0, 1) := by decide +kernel
theorem dX9_advance_14 : decode cX9_advance 14 = .ok (.aload_n 0, 1) := by decide +kernel
theorem dX9_advance_15 : decode cX9_advance 15 = .ok (.getfield 106, 3) := by decide +kernel
theorem dX9_advance_18 : decode cX9_advance 18 = .ok (.invokevirtual 109, 3) := by decide +kernel
theorem dX9_advance_21 : decode cX9_advance 21 = .ok (.bipush 10, 2) := by decide +kernel
theorem dX9_advance_23 : decode cX9_advance 23 = .ok (.if_icmp .ne 16, 3) := by decide +kernel
theorem dX9_advance_26 : decode cX9_advance 26 = .ok (.aload_n 0, 1) := by decide +kernel
theorem dX9_advance_27 : decode cX9_advance 27 = .ok (.dup, 1) := by decide +kernel
theorem dX9_advance_28 : decode cX9_advance 28 = .ok (.getfield 106, 3) := by decide +kernel
theorem dX9_advance_31 : decode cX9_advance 31 = .ok (.iconst 1, 1) := by decide +kernel
theorem dX9_advance_32 : decode cX9_advance 32 = .ok (.iadd, 1) := by decide +kernel
theorem dX9_advance_33 : decode cX9_advance 33 = .ok (.putfield 106, 3) := by decide +kernel
theorem dX9_advance_36 : decode cX9_advance 36 = .ok (.goto (-36), 3) := by decide +kernel
theorem dX9_advance_39 : decode cX9_advance 39 = .ok (.aload_n 0, 1) := by decide +kernel
theorem dX9_advance_40 : decode cX9_advance 40 = .ok (.aload_n 0, 1) := by decide +kernel
theorem dX9_advance_41 : decode cX9_advance 41 = .ok (.getfield 106, 3) := by decide +kernel
theorem dX9_advance_44 : decode cX9_advance 44 = .ok (.putfield 112, 3) := by decide +kernel
theorem dX9_advance_47 : decode cX9_advance 47 = .ok (.aload_n 0, 1) := by decide +kernel
theorem dX9_advance_48 : decode cX9_advance 48 = .ok (.aload_n 0, 1) := by decide +kernel
theorem dX9_advance_49 : decode cX9_advance 49 = .ok (.getfield 106, 3) := by decide +kernel
theorem dX9_advance_52 : decode cX9_advance 52 = .ok (.invokevirtual 109, 3) := by decide +kernel
theorem dX9_advance_55 : decode cX9_advance 55 = .ok (.istore_n 1, 1) := by decide +kernel
theorem dX9_advance_56 : decode cX9_advance 56 = .ok (.iload_n 1, 1) := by decide +kernel
theorem dX9_advance_57 : decode cX9_advance 57 = .ok (.iconst (-1), 1) := by decide +kernel
theorem dX9_advance_58 : decode cX9_advance 58 = .ok (.if_icmp .ne 11, 3) := by decide +kernel
theorem dX9_advance_61 : decode cX9_advance 61 = .ok (.aload_n 0, 1) := by decide +kernel
theorem dX9_advance_62 : decode cX9_advance 62 = .ok (.iconst 0, 1) := by decide +kernel
theorem dX9_advance_63 : decode cX9_advance 63 = .ok (.putfield 115, 3) := by decide +kernel
theorem dX9_advance_66 : decode cX9_advance 66 = .ok (.goto 173, 3) := by decide +kernel
theorem dX9_advance_69 : decode cX9_advance 69 = .ok (.iload_n 1, 1) := by decide +kernel
theorem dX9_advance_70 : decode cX9_advance 70 = .ok (.i2l, 1) := by decide +kernel
theorem dX9_advance_71 : decode cX9_advance 71 = .ok (.ldc2_w 118, 3) := by decide +kernel
theorem dX9_advance_74 : decode cX9_advance 74 = .ok (.ldc2_w 120, 3) := by decide +kernel
theorem dX9_advance_77 : decode cX9_advance 77 = .ok (.invokestatic 82, 3) := by decide +kernel
theorem dX9_advance_80 : decode cX9_advance 80 = .ok (.ifCond .eq 45, 3) := by decide +kernel
theorem dX9_advance_83 : decode cX9_advance 83 = .ok (.aload_n 0, 1) := by decide +kernel
theorem dX9_advance_84 : decode cX9_advance 84 = .ok (.aload_n 0, 1) := by decide +kernel
theorem dX9_advance_85 : decode cX9_advance 85 = .ok (.getfield 106, 3) := by decide +kernel
theorem dX9_advance_88 : decode cX9_advance 88 = .ok (.invokevirtual 109, 3) := by decide +kernel
theorem dX9_advance_91 : decode cX9_advance 91 = .ok (.i2l, 1) := by decide +kernel
theorem dX9_advance_92 : decode cX9_advance 92 = .ok (.ldc2_w 118, 3) := by decide +kernel
theorem dX9_advance_95 : decode cX9_advance 95 = .ok (.ldc2_w 120, 3) := by decide +kernel
theorem dX9_advance_98 : decode cX9_advance 98 = .ok (.invokestatic 82, 3) := by decide +kernel
theorem dX9_advance_101 : decode cX9_advance 101 = .ok (.ifCond .eq 16, 3) := by decide +kernel
theorem dX9_advance_104 : decode cX9_advance 104 = .ok (.aload_n 0, 1) := by decide +kernel
theorem dX9_advance_105 : decode cX9_advance 105 = .ok (.dup, 1) := by decide +kernel
theorem dX9_advance_106 : decode cX9_advance 106 = .ok (.getfield 106, 3) := by decide +kernel
theorem dX9_advance_109 : decode cX9_advance 109 = .ok (.iconst 1, 1) := by decide +kernel
theorem dX9_advance_110 : decode cX9_advance 110 = .ok (.iadd, 1) := by decide +kernel
theorem dX9_advance_111 : decode cX9_advance 111 = .ok (.putfield 106, 3) := by decide +kernel
theorem dX9_advance_114 : decode cX9_advance 114 = .ok (.goto (-31), 3) := by decide +kernel
theorem dX9_advance_117 : decode cX9_advance 117 = .ok (.aload_n 0, 1) := by decide +kernel
theorem dX9_advance_118 : decode cX9_advance 118 = .ok (.iconst 1, 1) := by decide +kernel
theorem dX9_advance_119 : decode cX9_advance 119 = .ok (.putfield 115, 3) := by decide +kernel
theorem dX9_advance_122 : decode cX9_advance 122 = .ok (.goto 117, 3) := by decide +kernel
theorem dX9_advance_125 : decode cX9_advance 125 = .ok (.iload_n 1, 1) := by decide +kernel
theorem dX9_advance_126 : decode cX9_advance 126 = .ok (.i2l, 1) := by decide +kernel
theorem dX9_advance_127 : decode cX9_advance 127 = .ok (.ldc2_w 122, 3) := by decide +kernel
theorem dX9_advance_130 : decode cX9_advance 130 = .ok (.ldc2_w 124, 3) := by decide +kernel
theorem dX9_advance_133 : decode cX9_advance 133 = .ok (.invokestatic 82, 3) := by decide +kernel
theorem dX9_advance_136 : decode cX9_advance 136 = .ok (.ifCond .eq 78, 3) := by decide +kernel
theorem dX9_advance_139 : decode cX9_advance 139 = .ok (.aload_n 0, 1) := by decide +kernel
theorem dX9_advance_140 : decode cX9_advance 140 = .ok (.iconst 0, 1) := by decide +kernel
theorem dX9_advance_141 : decode cX9_advance 141 = .ok (.putfield 126, 3) := by decide +kernel
theorem dX9_advance_144 : decode cX9_advance 144 = .ok (.aload_n 0, 1) := by decide +kernel
theorem dX9_advance_145 : decode cX9_advance 145 = .ok (.aload_n 0, 1) := by decide +kernel
theorem dX9_advance_146 : decode cX9_advance 146 = .ok (.getfield 106, 3) := by decide +kernel
theorem dX9_advance_149 : decode cX9_advance 149 = .ok (.invokevirtual 109, 3) := by decide +kernel
theorem dX9_advance_152 : decode cX9_advance 152 = .ok (.i2l, 1) := by decide +kernel
theorem dX9_advance_153 : decode cX9_advance 153 = .ok (.ldc2_w 122, 3) := by decide +kernel
theorem dX9_advance_156 : decode cX9_advance 156 = .ok (.ldc2_w 124, 3) := by decide +kernel
theorem dX9_advance_159 : decode cX9_advance 159 = .ok (.invokestatic 82, 3) := by decide +kernel
theorem dX9_advance_162 : decode cX9_advance 162 = .ok (.ifCond .eq 44, 3) := by decide +kernel
theorem dX9_advance_165 : decode cX9_advance 165 = .ok (.aload_n 0, 1) := by decide +kernel
theorem dX9_advance_166 : decode cX9_advance 166 = .ok (.ldc 129, 2) := by decide +kernel
theorem dX9_advance_168 : decode cX9_advance 168 = .ok (.bipush 10, 2) := by decide +kernel
theorem dX9_advance_170 : decode cX9_advance 170 = .ok (.aload_n 0, 1) := by decide +kernel
theorem dX9_advance_171 : decode cX9_advance 171 = .ok (.getfield 126, 3) := by decide +kernel
theorem dX9_advance_174 : decode cX9_advance 174 = .ok (.imul, 1) := by decide +kernel
theorem dX9_advance_175 : decode cX9_advance 175 = .ok (.aload_n 0, 1) := by decide +kernel
theorem dX9_advance_176 : decode cX9_advance 176 = .ok (.aload_n 0, 1) := by decide +kernel
theorem dX9_advance_177 : decode cX9_advance 177 = .ok (.getfield 106, 3) := by decide +kernel
theorem dX9_advance_180 : decode cX9_advance 180 = .ok (.invokevirtual 109, 3) := by decide +kernel
theorem dX9_advance_183 : decode cX9_advance 183 = .ok (.iadd, 1) := by decide +kernel
theorem dX9_advance_184 : decode cX9_advance 184 = .ok (.bipush 48, 2) := by decide +kernel
theorem dX9_advance_186 : decode cX9_advance 186 = .ok (.isub, 1) := by decide +kernel
theorem dX9_advance_187 : decode cX9_advance 187 = .ok (.invokestatic 130, 3) := by decide +kernel
theorem dX9_advance_190 : decode cX9_advance 190 = .ok (.putfield 126, 3) := by decide +kernel
theorem dX9_advance_193 : decode cX9_advance 193 = .ok (.aload_n 0, 1) := by decide +kernel
theorem dX9_advance_194 : decode cX9_advance 194 = .ok (.dup, 1) := by decide +kernel
theorem dX9_advance_195 : decode cX9_advance 195 = .ok (.getfield 106, 3) := by decide +kernel
theorem dX9_advance_198 : decode cX9_advance 198 = .ok (.iconst 1, 1) := by decide +kernel
theorem dX9_advance_199 : decode cX9_advance 199 = .ok (.iadd, 1) := by decide +kernel
theorem dX9_advance_200 : decode cX9_advance 200 = .ok (.putfield 106, 3) := by decide +kernel
theorem dX9_advance_203 : decode cX9_advance 203 = .ok (.goto (-59), 3) := by decide +kernel
theorem dX9_advance_206 : decode cX9_advance 206 = .ok (.aload_n 0, 1) := by decide +kernel
theorem dX9_advance_207 : decode cX9_advance 207 = .ok (.iconst 2, 1) := by decide +kernel
theorem dX9_advance_208 : decode cX9_advance 208 = .ok (.putfield 115, 3) := by decide +kernel
theorem dX9_advance_211 : decode cX9_advance 211 = .ok (.goto 28, 3) := by decide +kernel
theorem dX9_advance_214 : decode cX9_advance 214 = .ok (.aload_n 0, 1) := by decide +kernel
theorem dX9_advance_215 : decode cX9_advance 215 = .ok (.iload_n 1, 1) := by decide +kernel
theorem dX9_advance_216 : decode cX9_advance 216 = .ok (.bipush 59, 2) := by decide +kernel
theorem dX9_advance_218 : decode cX9_advance 218 = .ok (.if_icmp .ne 7, 3) := by decide +kernel
theorem dX9_advance_221 : decode cX9_advance 221 = .ok (.iconst 3, 1) := by decide +kernel
theorem dX9_advance_222 : decode cX9_advance 222 = .ok (.goto 4, 3) := by decide +kernel
theorem dX9_advance_225 : decode cX9_advance 225 = .ok (.iconst 4, 1) := by decide +kernel
theorem dX9_advance_226 : decode cX9_advance 226 = .ok (.putfield 115, 3) := by decide +kernel
theorem dX9_advance_229 : decode cX9_advance 229 = .ok (.aload_n 0, 1) := by decide +kernel
theorem dX9_advance_230 : decode cX9_advance 230 = .ok (.dup, 1) := by decide +kernel
theorem dX9_advance_231 : decode cX9_advance 231 = .ok (.getfield 106, 3) := by decide +kernel
theorem dX9_advance_234 : decode cX9_advance 234 = .ok (.iconst 1, 1) := by decide +kernel
theorem dX9_advance_235 : decode cX9_advance 235 = .ok (.iadd, 1) := by decide +kernel
theorem dX9_advance_236 : decode cX9_advance 236 = .ok (.putfield 106, 3) := by decide +kernel
theorem dX9_advance_239 : decode cX9_advance 239 = .ok (.return_, 1) := by decide +kernel
theorem dX9_good_0 : decode cX9_good 0 = .ok (.aload_n 0, 1) := by decide +kernel
theorem dX9_good_1 : decode cX9_good 1 = .ok (.getfield 133, 3) := by decide +kernel
theorem dX9_good_4 : decode cX9_good 4 = .ok (.ifCond .ne 7, 3) := by decide +kernel
theorem dX9_good_7 : decode cX9_good 7 = .ok (.iconst 1, 1) := by decide +kernel
theorem dX9_good_8 : decode cX9_good 8 = .ok (.goto 4, 3) := by decide +kernel
theorem dX9_good_11 : decode cX9_good 11 = .ok (.iconst 0, 1) := by decide +kernel
theorem dX9_good_12 : decode cX9_good 12 = .ok (.ireturn, 1) := by decide +kernel
theorem dX9_errs_0 : decode cX9_errs 0 = .ok (.aload_n 0, 1) := by decide +kernel
theorem dX9_errs_1 : decode cX9_errs 1 = .ok (.invokevirtual 136, 3) := by decide +kernel
theorem dX9_errs_4 : decode cX9_errs 4 = .ok (.ifCond .ne 4, 3) := by decide +kernel
theorem dX9_errs_7 : decode cX9_errs 7 = .ok (.return_, 1) := by decide +kernel
theorem dX9_errs_8 : decode cX9_errs 8 = .ok (.aload_n 0, 1) := by decide +kernel
theorem dX9_errs_9 : decode cX9_errs 9 = .ok (.iload_n 1, 1) := by decide +kernel
theorem dX9_errs_10 : decode cX9_errs 10 = .ok (.putfield 133, 3) := by decide +kernel
theorem dX9_errs_13 : decode cX9_errs 13 = .ok (.aload_n 0, 1) := by decide +kernel
theorem dX9_errs_14 : decode cX9_errs 14 = .ok (.aload_n 0, 1) := by decide +kernel
theorem dX9_errs_15 : decode cX9_errs 15 = .ok (.getfield 112, 3) := by decide +kernel
theorem dX9_errs_18 : decode cX9_errs 18 = .ok (.putfield 27, 3) := by decide +kernel
theorem dX9_errs_21 : decode cX9_errs 21 = .ok (.return_, 1) := by decide +kernel
theorem dX9_is_0 : decode cX9_is 0 = .ok (.aload_n 0, 1) := by decide +kernel
theorem dX9_is_1 : decode cX9_is 1 = .ok (.invokevirtual 136, 3) := by decide +kernel
theorem dX9_is_4 : decode cX9_is 4 = .ok (.ifCond .eq 31, 3) := by decide +kernel
theorem dX9_is_7 : decode cX9_is 7 = .ok (.aload_n 0, 1) := by decide +kernel
theorem dX9_is_8 : decode cX9_is 8 = .ok (.getfield 115, 3) := by decide +kernel
theorem dX9_is_11 : decode cX9_is 11 = .ok (.iconst 1, 1) := by decide +kernel
theorem dX9_is_12 : decode cX9_is 12 = .ok (.if_icmp .ne 23, 3) := by decide +kernel
theorem dX9_is_15 : decode cX9_is 15 = .ok (.aload_n 0, 1) := by decide +kernel
theorem dX9_is_16 : decode cX9_is 16 = .ok (.getfield 106, 3) := by decide +kernel
theorem dX9_is_19 : decode cX9_is 19 = .ok (.aload_n 0, 1) := by decide +kernel
theorem dX9_is_20 : decode cX9_is 20 = .ok (.getfield 112, 3) := by decide +kernel
theorem dX9_is_23 : decode cX9_is 23 = .ok (.isub, 1) := by decide +kernel
theorem dX9_is_24 : decode cX9_is 24 = .ok (.aload_n 1, 1) := by decide +kernel
theorem dX9_is_25 : decode cX9_is 25 = .ok (.invokevirtual 140, 3) := by decide +kernel
theorem dX9_is_28 : decode cX9_is 28 = .ok (.if_icmp .ne 7, 3) := by decide +kernel
theorem dX9_is_31 : decode cX9_is 31 = .ok (.iconst 1, 1) := by decide +kernel
theorem dX9_is_32 : decode cX9_is 32 = .ok (.goto 4, 3) := by decide +kernel
theorem dX9_is_35 : decode cX9_is 35 = .ok (.iconst 0, 1) := by decide +kernel
theorem dX9_is_36 : decode cX9_is 36 = .ok (.istore_n 2, 1) := by decide +kernel
theorem dX9_is_37 : decode cX9_is 37 = .ok (.iconst 0, 1) := by decide +kernel
theorem dX9_is_38 : decode cX9_is 38 = .ok (.istore_n 3, 1) := by decide +kernel
theorem dX9_is_39 : decode cX9_is 39 = .ok (.iload_n 3, 1) := by decide +kernel
theorem dX9_is_40 : decode cX9_is 40 = .ok (.aload_n 1, 1) := by decide +kernel
theorem dX9_is_41 : decode cX9_is 41 = .ok (.invokevirtual 140, 3) := by decide +kernel
theorem dX9_is_44 : decode cX9_is 44 = .ok (.if_icmp .ge 38, 3) := by decide +kernel
theorem dX9_is_47 : decode cX9_is 47 = .ok (.iload_n 2, 1) := by decide +kernel
theorem dX9_is_48 : decode cX9_is 48 = .ok (.ifCond .eq 34, 3) := by decide +kernel
theorem dX9_is_51 : decode cX9_is 51 = .ok (.aload_n 0, 1) := by decide +kernel
theorem dX9_is_52 : decode cX9_is 52 = .ok (.getfield 20, 3) := by decide +kernel
theorem dX9_is_55 : decode cX9_is 55 = .ok (.aload_n 0, 1) := by decide +kernel
theorem dX9_is_56 : decode cX9_is 56 = .ok (.getfield 112, 3) := by decide +kernel
theorem dX9_is_59 : decode cX9_is 59 = .ok (.iload_n 3, 1) := by decide +kernel
theorem dX9_is_60 : decode cX9_is 60 = .ok (.iadd, 1) := by decide +kernel
theorem dX9_is_61 : decode cX9_is 61 = .ok (.baload, 1) := by decide +kernel
theorem dX9_is_62 : decode cX9_is 62 = .ok (.aload_n 1, 1) := by decide +kernel
theorem dX9_is_63 : decode cX9_is 63 = .ok (.iload_n 3, 1) := by decide +kernel
theorem dX9_is_64 : decode cX9_is 64 = .ok (.invokevirtual 145, 3) := by decide +kernel
theorem dX9_is_67 : decode cX9_is 67 = .ok (.if_icmp .ne 7, 3) := by decide +kernel
theorem dX9_is_70 : decode cX9_is 70 = .ok (.iconst 1, 1) := by decide +kernel
theorem dX9_is_71 : decode cX9_is 71 = .ok (.goto 4, 3) := by decide +kernel
theorem dX9_is_74 : decode cX9_is 74 = .ok (.iconst 0, 1) := by decide +kernel
theorem dX9_is_75 : decode cX9_is 75 = .ok (.istore_n 2, 1) := by decide +kernel
theorem dX9_is_76 : decode cX9_is 76 = .ok (.iinc 3 1, 3) := by decide +kernel
theorem dX9_is_79 : decode cX9_is 79 = .ok (.goto (-40), 3) := by decide +kernel
