theorem dX4_byLevels_14 : decode cX4_byLevels 14 = .ok (.iload_n 2, 1) := by decide +kernel
theorem dX4_byLevels_15 : decode cX4_byLevels 15 = .ok (.ifCond .eq 129, 3) := by decide +kernel
theorem dX4_byLevels_18 : decode cX4_byLevels 18 = .ok (.iload_n 3, 1) := by decide +kernel
theorem dX4_byLevels_19 : decode cX4_byLevels 19 = .ok (.bipush 32, 2) := by decide +kernel
theorem dX4_byLevels_21 : decode cX4_byLevels 21 = .ok (.if_icmp .gt 123, 3) := by decide +kernel
theorem dX4_byLevels_24 : decode cX4_byLevels 24 = .ok (.aload_n 0, 1) := by decide +kernel
theorem dX4_byLevels_25 : decode cX4_byLevels 25 = .ok (.getfield 22, 3) := by decide +kernel
theorem dX4_byLevels_28 : decode cX4_byLevels 28 = .ok (.getfield 49, 3) := by decide +kernel
theorem dX4_byLevels_31 : decode cX4_byLevels 31 = .ok (.istore 4, 2) := by decide +kernel
theorem dX4_byLevels_33 : decode cX4_byLevels 33 = .ok (.aload_n 0, 1) := by decide +kernel
theorem dX4_byLevels_34 : decode cX4_byLevels 34 = .ok (.getfield 42, 3) := by decide +kernel
theorem dX4_byLevels_37 : decode cX4_byLevels 37 = .ok (.invokevirtual 46, 3) := by decide +kernel
theorem dX4_byLevels_40 : decode cX4_byLevels 40 = .ok (.aload_n 0, 1) := by decide +kernel
theorem dX4_byLevels_41 : decode cX4_byLevels 41 = .ok (.getfield 33, 3) := by decide +kernel
theorem dX4_byLevels_44 : decode cX4_byLevels 44 = .ok (.invokevirtual 70, 3) := by decide +kernel
theorem dX4_byLevels_47 : decode cX4_byLevels 47 = .ok (.istore 5, 2) := by decide +kernel
theorem dX4_byLevels_49 : decode cX4_byLevels 49 = .ok (.iconst 1, 1) := by decide +kernel
theorem dX4_byLevels_50 : decode cX4_byLevels 50 = .ok (.istore 6, 2) := by decide +kernel
theorem dX4_byLevels_52 : decode cX4_byLevels 52 = .ok (.iload 6, 2) := by decide +kernel
theorem dX4_byLevels_54 : decode cX4_byLevels 54 = .ok (.iload 5, 2) := by decide +kernel
theorem dX4_byLevels_56 : decode cX4_byLevels 56 = .ok (.if_icmp .gt 36, 3) := by decide +kernel
theorem dX4_byLevels_59 : decode cX4_byLevels 59 = .ok (.aload_n 0, 1) := by decide +kernel
theorem dX4_byLevels_60 : decode cX4_byLevels 60 = .ok (.getfield 25, 3) := by decide +kernel
theorem dX4_byLevels_63 : decode cX4_byLevels 63 = .ok (.getfield 74, 3) := by decide +kernel
theorem dX4_byLevels_66 : decode cX4_byLevels 66 = .ok (.ifCond .ne 26, 3) := by decide +kernel
theorem dX4_byLevels_69 : decode cX4_byLevels 69 = .ok (.aload_n 0, 1) := by decide +kernel
theorem dX4_byLevels_70 : decode cX4_byLevels 70 = .ok (.iload 6, 2) := by decide +kernel
theorem dX4_byLevels_72 : decode cX4_byLevels 72 = .ok (.invokevirtual 80, 3) := by decide +kernel
theorem dX4_byLevels_75 : decode cX4_byLevels 75 = .ok (.aload_n 0, 1) := by decide +kernel
theorem dX4_byLevels_76 : decode cX4_byLevels 76 = .ok (.getfield 42, 3) := by decide +kernel
theorem dX4_byLevels_79 : decode cX4_byLevels 79 = .ok (.invokevirtual 61, 3) := by decide +kernel
theorem dX4_byLevels_82 : decode cX4_byLevels 82 = .ok (.aload_n 0, 1) := by decide +kernel
theorem dX4_byLevels_83 : decode cX4_byLevels 83 = .ok (.invokevirtual 84, 3) := by decide +kernel
theorem dX4_byLevels_86 : decode cX4_byLevels 86 = .ok (.iinc 6 1, 3) := by decide +kernel
theorem dX4_byLevels_89 : decode cX4_byLevels 89 = .ok (.goto (-37), 3) := by decide +kernel
theorem dX4_byLevels_92 : decode cX4_byLevels 92 = .ok (.iload_n 1, 1) := by decide +kernel
theorem dX4_byLevels_93 : decode cX4_byLevels 93 = .ok (.ifCond .eq 43, 3) := by decide +kernel
theorem dX4_byLevels_96 : decode cX4_byLevels 96 = .ok (.aload_n 0, 1) := by decide +kernel
theorem dX4_byLevels_97 : decode cX4_byLevels 97 = .ok (.getfield 25, 3) := by decide +kernel
theorem dX4_byLevels_100 : decode cX4_byLevels 100 = .ok (.getfield 74, 3) := by decide +kernel
theorem dX4_byLevels_103 : decode cX4_byLevels 103 = .ok (.ifCond .ne 33, 3) := by decide +kernel
theorem dX4_byLevels_106 : decode cX4_byLevels 106 = .ok (.aload_n 0, 1) := by decide +kernel
theorem dX4_byLevels_107 : decode cX4_byLevels 107 = .ok (.getfield 22, 3) := by decide +kernel
theorem dX4_byLevels_110 : decode cX4_byLevels 110 = .ok (.getfield 49, 3) := by decide +kernel
theorem dX4_byLevels_113 : decode cX4_byLevels 113 = .ok (.iload 4, 2) := by decide +kernel
theorem dX4_byLevels_115 : decode cX4_byLevels 115 = .ok (.if_icmp .ge 21, 3) := by decide +kernel
theorem dX4_byLevels_118 : decode cX4_byLevels 118 = .ok (.aload_n 0, 1) := by decide +kernel
theorem dX4_byLevels_119 : decode cX4_byLevels 119 = .ok (.getfield 33, 3) := by decide +kernel
theorem dX4_byLevels_122 : decode cX4_byLevels 122 = .ok (.aload_n 0, 1) := by decide +kernel
theorem dX4_byLevels_123 : decode cX4_byLevels 123 = .ok (.getfield 22, 3) := by decide +kernel
theorem dX4_byLevels_126 : decode cX4_byLevels 126 = .ok (.invokevirtual 64, 3) := by decide +kernel
theorem dX4_byLevels_129 : decode cX4_byLevels 129 = .ok (.ifCond .eq 7, 3) := by decide +kernel
theorem dX4_byLevels_132 : decode cX4_byLevels 132 = .ok (.iconst 1, 1) := by decide +kernel
theorem dX4_byLevels_133 : decode cX4_byLevels 133 = .ok (.goto 4, 3) := by decide +kernel
theorem dX4_byLevels_136 : decode cX4_byLevels 136 = .ok (.iconst 0, 1) := by decide +kernel
theorem dX4_byLevels_137 : decode cX4_byLevels 137 = .ok (.istore_n 2, 1) := by decide +kernel
theorem dX4_byLevels_138 : decode cX4_byLevels 138 = .ok (.iinc 3 1, 3) := by decide +kernel
theorem dX4_byLevels_141 : decode cX4_byLevels 141 = .ok (.goto (-127), 3) := by decide +kernel
theorem dX4_byLevels_144 : decode cX4_byLevels 144 = .ok (.return_, 1) := by decide +kernel
theorem dX4_byMoves_0 : decode cX4_byMoves 0 = .ok (.aload_n 0, 1) := by decide +kernel
theorem dX4_byMoves_1 : decode cX4_byMoves 1 = .ok (.getfield 33, 3) := by decide +kernel
theorem dX4_byMoves_4 : decode cX4_byMoves 4 = .ok (.aload_n 0, 1) := by decide +kernel
theorem dX4_byMoves_5 : decode cX4_byMoves 5 = .ok (.getfield 22, 3) := by decide +kernel
theorem dX4_byMoves_8 : decode cX4_byMoves 8 = .ok (.invokevirtual 64, 3) := by decide +kernel
theorem dX4_byMoves_11 : decode cX4_byMoves 11 = .ok (.pop, 1) := by decide +kernel
theorem dX4_byMoves_12 : decode cX4_byMoves 12 = .ok (.aload_n 0, 1) := by decide +kernel
theorem dX4_byMoves_13 : decode cX4_byMoves 13 = .ok (.getfield 22, 3) := by decide +kernel
theorem dX4_byMoves_16 : decode cX4_byMoves 16 = .ok (.getfield 49, 3) := by decide +kernel
theorem dX4_byMoves_19 : decode cX4_byMoves 19 = .ok (.istore_n 1, 1) := by decide +kernel
theorem dX4_byMoves_20 : decode cX4_byMoves 20 = .ok (.iconst 0, 1) := by decide +kernel
theorem dX4_byMoves_21 : decode cX4_byMoves 21 = .ok (.istore_n 2, 1) := by decide +kernel
theorem dX4_byMoves_22 : decode cX4_byMoves 22 = .ok (.iconst 0, 1) := by decide +kernel
theorem dX4_byMoves_23 : decode cX4_byMoves 23 = .ok (.istore_n 3, 1) := by decide +kernel
theorem dX4_byMoves_24 : decode cX4_byMoves 24 = .ok (.iload_n 1, 1) := by decide +kernel
theorem dX4_byMoves_25 : decode cX4_byMoves 25 = .ok (.ifCond .le 93, 3) := by decide +kernel
theorem dX4_byMoves_28 : decode cX4_byMoves 28 = .ok (.aload_n 0, 1) := by decide +kernel
theorem dX4_byMoves_29 : decode cX4_byMoves 29 = .ok (.getfield 25, 3) := by decide +kernel
theorem dX4_byMoves_32 : decode cX4_byMoves 32 = .ok (.getfield 74, 3) := by decide +kernel
theorem dX4_byMoves_35 : decode cX4_byMoves 35 = .ok (.ifCond .ne 83, 3) := by decide +kernel
theorem dX4_byMoves_38 : decode cX4_byMoves 38 = .ok (.iload_n 3, 1) := by decide +kernel
theorem dX4_byMoves_39 : decode cX4_byMoves 39 = .ok (.ldc 87, 2) := by decide +kernel
theorem dX4_byMoves_41 : decode cX4_byMoves 41 = .ok (.if_icmp .ge 77, 3) := by decide +kernel
theorem dX4_byMoves_44 : decode cX4_byMoves 44 = .ok (.iload_n 2, 1) := by decide +kernel
theorem dX4_byMoves_45 : decode cX4_byMoves 45 = .ok (.aload_n 0, 1) := by decide +kernel
theorem dX4_byMoves_46 : decode cX4_byMoves 46 = .ok (.getfield 33, 3) := by decide +kernel
theorem dX4_byMoves_49 : decode cX4_byMoves 49 = .ok (.getfield 88, 3) := by decide +kernel
theorem dX4_byMoves_52 : decode cX4_byMoves 52 = .ok (.if_icmp .lt 11, 3) := by decide +kernel
theorem dX4_byMoves_55 : decode cX4_byMoves 55 = .ok (.iinc 1 (-1), 3) := by decide +kernel
theorem dX4_byMoves_58 : decode cX4_byMoves 58 = .ok (.iconst 0, 1) := by decide +kernel
theorem dX4_byMoves_59 : decode cX4_byMoves 59 = .ok (.istore_n 2, 1) := by decide +kernel
theorem dX4_byMoves_60 : decode cX4_byMoves 60 = .ok (.goto 52, 3) := by decide +kernel
theorem dX4_byMoves_63 : decode cX4_byMoves 63 = .ok (.aload_n 0, 1) := by decide +kernel
theorem dX4_byMoves_64 : decode cX4_byMoves 64 = .ok (.getfield 33, 3) := by decide +kernel
theorem dX4_byMoves_67 : decode cX4_byMoves 67 = .ok (.getfield 89, 3) := by decide +kernel
theorem dX4_byMoves_70 : decode cX4_byMoves 70 = .ok (.iload_n 2, 1) := by decide +kernel
theorem dX4_byMoves_71 : decode cX4_byMoves 71 = .ok (.iaload, 1) := by decide +kernel
theorem dX4_byMoves_72 : decode cX4_byMoves 72 = .ok (.iload_n 1, 1) := by decide +kernel
theorem dX4_byMoves_73 : decode cX4_byMoves 73 = .ok (.if_icmp .ne 36, 3) := by decide +kernel
theorem dX4_byMoves_76 : decode cX4_byMoves 76 = .ok (.aload_n 0, 1) := by decide +kernel
theorem dX4_byMoves_77 : decode cX4_byMoves 77 = .ok (.iload_n 2, 1) := by decide +kernel
theorem dX4_byMoves_78 : decode cX4_byMoves 78 = .ok (.invokevirtual 93, 3) := by decide +kernel
theorem dX4_byMoves_81 : decode cX4_byMoves 81 = .ok (.ifCond .eq 28, 3) := by decide +kernel
theorem dX4_byMoves_84 : decode cX4_byMoves 84 = .ok (.aload_n 0, 1) := by decide +kernel
theorem dX4_byMoves_85 : decode cX4_byMoves 85 = .ok (.getfield 33, 3) := by decide +kernel
theorem dX4_byMoves_88 : decode cX4_byMoves 88 = .ok (.aload_n 0, 1) := by decide +kernel
theorem dX4_byMoves_89 : decode cX4_byMoves 89 = .ok (.getfield 22, 3) := by decide +kernel
theorem dX4_byMoves_92 : decode cX4_byMoves 92 = .ok (.invokevirtual 64, 3) := by decide +kernel
theorem dX4_byMoves_95 : decode cX4_byMoves 95 = .ok (.pop, 1) := by decide +kernel
theorem dX4_byMoves_96 : decode cX4_byMoves 96 = .ok (.aload_n 0, 1) := by decide +kernel
theorem dX4_byMoves_97 : decode cX4_byMoves 97 = .ok (.getfield 22, 3) := by decide +kernel
theorem dX4_byMoves_100 : decode cX4_byMoves 100 = .ok (.getfield 49, 3) := by decide +kernel
theorem dX4_byMoves_103 : decode cX4_byMoves 103 = .ok (.istore_n 1, 1) := by decide +kernel
theorem dX4_byMoves_104 : decode cX4_byMoves 104 = .ok (.iconst 0, 1) := by decide +kernel
theorem dX4_byMoves_105 : decode cX4_byMoves 105 = .ok (.istore_n 2, 1) := by decide +kernel
theorem dX4_byMoves_106 : decode cX4_byMoves 106 = .ok (.goto 6, 3) := by decide +kernel
theorem dX4_byMoves_109 : decode cX4_byMoves 109 = .ok (.iinc 2 1, 3) := by decide +kernel
theorem dX4_byMoves_112 : decode cX4_byMoves 112 = .ok (.iinc 3 1, 3) := by decide +kernel
theorem dX4_byMoves_115 : decode cX4_byMoves 115 = .ok (.goto (-91), 3) := by decide +kernel
theorem dX4_byMoves_118 : decode cX4_byMoves 118 = .ok (.return_, 1) := by decide +kernel
theorem dX4_beginsWord_0 : decode cX4_beginsWord 0 = .ok (.iload_n 1, 1) := by decide +kernel
theorem dX4_beginsWord_1 : decode cX4_beginsWord 1 = .ok (.ifCond .le 48, 3) := by decide +kernel
theorem dX4_beginsWord_4 : decode cX4_beginsWord 4 = .ok (.iload_n 1, 1) := by decide +kernel
theorem dX4_beginsWord_5 : decode cX4_beginsWord 5 = .ok (.aload_n 0, 1) := by decide +kernel
theorem dX4_beginsWord_6 : decode cX4_beginsWord 6 = .ok (.getfield 22, 3) := by decide +kernel
theorem dX4_beginsWord_9 : decode cX4_beginsWord 9 = .ok (.getfield 49, 3) := by decide +kernel
theorem dX4_beginsWord_12 : decode cX4_beginsWord 12 = .ok (.if_icmp .ge 37, 3) := by decide +kernel
theorem dX4_beginsWord_15 : decode cX4_beginsWord 15 = .ok (.aload_n 0, 1) := by decide +kernel
theorem dX4_beginsWord_16 : decode cX4_beginsWord 16 = .ok (.getfield 22, 3) := by decide +kernel
theorem dX4_beginsWord_19 : decode cX4_beginsWord 19 = .ok (.getfield 96, 3) := by decide +kernel
theorem dX4_beginsWord_22 : decode cX4_beginsWord 22 = .ok (.iload_n 1, 1) := by decide +kernel
theorem dX4_beginsWord_23 : decode cX4_beginsWord 23 = .ok (.caload, 1) := by decide +kernel
theorem dX4_beginsWord_24 : decode cX4_beginsWord 24 = .ok (.bipush 32, 2) := by decide +kernel
theorem dX4_beginsWord_26 : decode cX4_beginsWord 26 = .ok (.if_icmp .eq 23, 3) := by decide +kernel
theorem dX4_beginsWord_29 : decode cX4_beginsWord 29 = .ok (.aload_n 0, 1) := by decide +kernel
theorem dX4_beginsWord_30 : decode cX4_beginsWord 30 = .ok (.getfield 22, 3) := by decide +kernel
theorem dX4_beginsWord_33 : decode cX4_beginsWord 33 = .ok (.getfield 96, 3) := by decide +kernel
theorem dX4_beginsWord_36 : decode cX4_beginsWord 36 = .ok (.iload_n 1, 1) := by decide +kernel
theorem dX4_beginsWord_37 : decode cX4_beginsWord 37 = .ok (.iconst 1, 1) := by decide +kernel
theorem dX4_beginsWord_38 : decode cX4_beginsWord 38 = .ok (.isub, 1) := by decide +kernel
theorem dX4_beginsWord_39 : decode cX4_beginsWord 39 = .ok (.caload, 1) := by decide +kernel
theorem dX4_beginsWord_40 : decode cX4_beginsWord 40 = .ok (.bipush 32, 2) := by decide +kernel
theorem dX4_beginsWord_42 : decode cX4_beginsWord 42 = .ok (.if_icmp .ne 7, 3) := by decide +kernel
theorem dX4_beginsWord_45 : decode cX4_beginsWord 45 = .ok (.iconst 1, 1) := by decide +kernel
theorem dX4_beginsWord_46 : decode cX4_beginsWord 46 = .ok (.goto 4, 3) := by decide +kernel
theorem dX4_beginsWord_49 : decode cX4_beginsWord 49 = .ok (.iconst 0, 1) := by decide +kernel
theorem dX4_beginsWord_50 : decode cX4_beginsWord 50 = .ok (.ireturn, 1) := by decide +kernel
theorem dX4_chooseUnits_0 : decode cX4_chooseUnits 0 = .ok (.aload_n 0, 1) := by decide +kernel
theorem dX4_chooseUnits_1 : decode cX4_chooseUnits 1 = .ok (.getfield 42, 3) := by decide +kernel
theorem dX4_chooseUnits_4 : decode cX4_chooseUnits 4 = .ok (.iconst 0, 1) := by decide +kernel
theorem dX4_chooseUnits_5 : decode cX4_chooseUnits 5 = .ok (.putfield 99, 3) := by decide +kernel
theorem dX4_chooseUnits_8 : decode cX4_chooseUnits 8 = .ok (.aload_n 0, 1) := by decide +kernel
theorem dX4_chooseUnits_9 : decode cX4_chooseUnits 9 = .ok (.getfield 18, 3) := by decide +kernel
theorem dX4_chooseUnits_12 : decode cX4_chooseUnits 12 = .ok (.iconst 0, 1) := by decide +kernel
theorem dX4_chooseUnits_13 : decode cX4_chooseUnits 13 = .ok (.iconst 1, 1) := by decide +kernel
theorem dX4_chooseUnits_14 : decode cX4_chooseUnits 14 = .ok (.bastore, 1) := by decide +kernel
theorem dX4_chooseUnits_15 : decode cX4_chooseUnits 15 = .ok (.iconst 1, 1) := by decide +kernel
theorem dX4_chooseUnits_16 : decode cX4_chooseUnits 16 = .ok (.istore_n 2, 1) := by decide +kernel
theorem dX4_chooseUnits_17 : decode cX4_chooseUnits 17 = .ok (.iload_n 2, 1) := by decide +kernel
theorem dX4_chooseUnits_18 : decode cX4_chooseUnits 18 = .ok (.aload_n 0, 1) := by decide +kernel
theorem dX4_chooseUnits_19 : decode cX4_chooseUnits 19 = .ok (.getfield 33, 3) := by decide +kernel
theorem dX4_chooseUnits_22 : decode cX4_chooseUnits 22 = .ok (.getfield 88, 3) := by decide +kernel
theorem dX4_chooseUnits_25 : decode cX4_chooseUnits 25 = .ok (.if_icmp .ge 73, 3) := by decide +kernel
theorem dX4_chooseUnits_28 : decode cX4_chooseUnits 28 = .ok (.aload_n 0, 1) := by decide +kernel
theorem dX4_chooseUnits_29 : decode cX4_chooseUnits 29 = .ok (.getfield 33, 3) := by decide +kernel
theorem dX4_chooseUnits_32 : decode cX4_chooseUnits 32 = .ok (.getfield 102, 3) := by decide +kernel
theorem dX4_chooseUnits_35 : decode cX4_chooseUnits 35 = .ok (.iload_n 2, 1) := by decide +kernel
theorem dX4_chooseUnits_36 : decode cX4_chooseUnits 36 = .ok (.iaload, 1) := by decide +kernel
theorem dX4_chooseUnits_37 : decode cX4_chooseUnits 37 = .ok (.iload_n 1, 1) := by decide +kernel
theorem dX4_chooseUnits_38 : decode cX4_chooseUnits 38 = .ok (.if_icmp .ne 54, 3) := by decide +kernel
theorem dX4_chooseUnits_41 : decode cX4_chooseUnits 41 = .ok (.aload_n 0, 1) := by decide +kernel
theorem dX4_chooseUnits_42 : decode cX4_chooseUnits 42 = .ok (.getfield 18, 3) := by decide +kernel
theorem dX4_chooseUnits_45 : decode cX4_chooseUnits 45 = .ok (.iload_n 2, 1) := by decide +kernel
theorem dX4_chooseUnits_46 : decode cX4_chooseUnits 46 = .ok (.iconst 0, 1) := by decide +kernel
theorem dX4_chooseUnits_47 : decode cX4_chooseUnits 47 = .ok (.bastore, 1) := by decide +kernel
theorem dX4_chooseUnits_48 : decode cX4_chooseUnits 48 = .ok (.aload_n 0, 1) := by decide +kernel
theorem dX4_chooseUnits_49 : decode cX4_chooseUnits 49 = .ok (.iload_n 2, 1) := by decide +kernel
theorem dX4_chooseUnits_50 : decode cX4_chooseUnits 50 = .ok (.invokevirtual 105, 3) := by decide +kernel
theorem dX4_chooseUnits_53 : decode cX4_chooseUnits 53 = .ok (.ifCond .eq 39, 3) := by decide +kernel
theorem dX4_chooseUnits_56 : decode cX4_chooseUnits 56 = .ok (.aload_n 0, 1) := by decide +kernel
theorem dX4_chooseUnits_57 : decode cX4_chooseUnits 57 = .ok (.getfield 42, 3) := by decide +kernel
theorem dX4_chooseUnits_60 : decode cX4_chooseUnits 60 = .ok (.aload_n 0, 1) := by decide +kernel
theorem dX4_chooseUnits_61 : decode cX4_chooseUnits 61 = .ok (.getfield 33, 3) := by decide +kernel
theorem dX4_chooseUnits_64 : decode cX4_chooseUnits 64 = .ok (.getfield 108, 3) := by decide +kernel
theorem dX4_chooseUnits_67 : decode cX4_chooseUnits 67 = .ok (.iload_n 2, 1) := by decide +kernel
theorem dX4_chooseUnits_68 : decode cX4_chooseUnits 68 = .ok (.iaload, 1) := by decide +kernel
theorem dX4_chooseUnits_69 : decode cX4_chooseUnits 69 = .ok (.aload_n 0, 1) := by decide +kernel
theorem dX4_chooseUnits_70 : decode cX4_chooseUnits 70 = .ok (.getfield 33, 3) := by decide +kernel
theorem dX4_chooseUnits_73 : decode cX4_chooseUnits 73 = .ok (.getfield 108, 3) := by decide +kernel
theorem dX4_chooseUnits_76 : decode cX4_chooseUnits 76 = .ok (.iload_n 2, 1) := by decide +kernel
theorem dX4_chooseUnits_77 : decode cX4_chooseUnits 77 = .ok (.iaload, 1) := by decide +kernel
theorem dX4_chooseUnits_78 : decode cX4_chooseUnits 78 = .ok (.aload_n 0, 1) := by decide +kernel
theorem dX4_chooseUnits_79 : decode cX4_chooseUnits 79 = .ok (.getfield 33, 3) := by decide +kernel
theorem dX4_chooseUnits_82 : decode cX4_chooseUnits 82 = .ok (.getfield 89, 3) := by decide +kernel
theorem dX4_chooseUnits_85 : decode cX4_chooseUnits 85 = .ok (.iload_n 2, 1) := by decide +kernel
theorem dX4_chooseUnits_86 : decode cX4_chooseUnits 86 = .ok (.iaload, 1) := by decide +kernel
theorem dX4_chooseUnits_87 : decode cX4_chooseUnits 87 = .ok (.iadd, 1) := by decide +kernel
theorem dX4_chooseUnits_88 : decode cX4_chooseUnits 88 = .ok (.iload_n 2, 1) := by decide +kernel
theorem dX4_chooseUnits_89 : decode cX4_chooseUnits 89 = .ok (.invokevirtual 57, 3) := by decide +kernel
theorem dX4_chooseUnits_92 : decode cX4_chooseUnits 92 = .ok (.iinc 2 1, 3) := by decide +kernel
theorem dX4_chooseUnits_95 : decode cX4_chooseUnits 95 = .ok (.goto (-78), 3) := by decide +kernel
theorem dX4_chooseUnits_98 : decode cX4_chooseUnits 98 = .ok (.return_, 1) := by decide +kernel
theorem dX4_isBelowKept_0 : decode cX4_isBelowKept 0 = .ok (.aload_n 0, 1) := by decide +kernel
theorem dX4_isBelowKept_1 : decode cX4_isBelowKept 1 = .ok (.getfield 33, 3) := by decide +kernel
theorem dX4_isBelowKept_4 : decode cX4_isBelowKept 4 = .ok (.getfield 110, 3) := by decide +kernel
theorem dX4_isBelowKept_7 : decode cX4_isBelowKept 7 = .ok (.iload_n 1, 1) := by decide +kernel
theorem dX4_isBelowKept_8 : decode cX4_isBelowKept 8 = .ok (.iaload, 1) := by decide +kernel
theorem dX4_isBelowKept_9 : decode cX4_isBelowKept 9 = .ok (.istore_n 2, 1) := by decide +kernel
theorem dX4_isBelowKept_10 : decode cX4_isBelowKept 10 = .ok (.iload_n 2, 1) := by decide +kernel
theorem dX4_isBelowKept_11 : decode cX4_isBelowKept 11 = .ok (.ifCond .lt 27, 3) := by decide +kernel
theorem dX4_isBelowKept_14 : decode cX4_isBelowKept 14 = .ok (.iload_n 2, 1) := by decide +kernel
theorem dX4_isBelowKept_15 : decode cX4_isBelowKept 15 = .ok (.aload_n 0, 1) := by decide +kernel
theorem dX4_isBelowKept_16 : decode cX4_isBelowKept 16 = .ok (.getfield 33, 3) := by decide +kernel
theorem dX4_isBelowKept_19 : decode cX4_isBelowKept 19 = .ok (.getfield 88, 3) := by decide +kernel
theorem dX4_isBelowKept_22 : decode cX4_isBelowKept 22 = .ok (.if_icmp .ge 16, 3) := by decide +kernel
theorem dX4_isBelowKept_25 : decode cX4_isBelowKept 25 = .ok (.aload_n 0, 1) := by decide +kernel
theorem dX4_isBelowKept_26 : decode cX4_isBelowKept 26 = .ok (.getfield 18, 3) := by decide +kernel
theorem dX4_isBelowKept_29 : decode cX4_isBelowKept 29 = .ok (.iload_n 2, 1) := by decide +kernel
theorem dX4_isBelowKept_30 : decode cX4_isBelowKept 30 = .ok (.baload, 1) := by decide +kernel
theorem dX4_isBelowKept_31 : decode cX4_isBelowKept 31 = .ok (.ifCond .eq 7, 3) := by decide +kernel
theorem dX4_isBelowKept_34 : decode cX4_isBelowKept 34 = .ok (.iconst 1, 1) := by decide +kernel
theorem dX4_isBelowKept_35 : decode cX4_isBelowKept 35 = .ok (.goto 4, 3) := by decide +kernel
theorem dX4_isBelowKept_38 : decode cX4_isBelowKept 38 = .ok (.iconst 0, 1) := by decide +kernel
theorem dX4_isBelowKept_39 : decode cX4_isBelowKept 39 = .ok (.ireturn, 1) := by decide +kernel
theorem dX4_keepUnits_0 : decode cX4_keepUnits 0 = .ok (.iconst 0, 1) := by decide +kernel
theorem dX4_keepUnits_1 : decode cX4_keepUnits 1 = .ok (.istore_n 1, 1) := by decide +kernel
theorem dX4_keepUnits_2 : decode cX4_keepUnits 2 = .ok (.iload_n 1, 1) := by decide +kernel
theorem dX4_keepUnits_3 : decode cX4_keepUnits 3 = .ok (.aload_n 0, 1) := by decide +kernel
theorem dX4_keepUnits_4 : decode cX4_keepUnits 4 = .ok (.getfield 42, 3) := by decide +kernel
theorem dX4_keepUnits_7 : decode cX4_keepUnits 7 = .ok (.getfield 99, 3) := by decide +kernel
theorem dX4_keepUnits_10 : decode cX4_keepUnits 10 = .ok (.if_icmp .ge 24, 3) := by decide +kernel
theorem dX4_keepUnits_13 : decode cX4_keepUnits 13 = .ok (.aload_n 0, 1) := by decide +kernel
theorem dX4_keepUnits_14 : decode cX4_keepUnits 14 = .ok (.getfield 18, 3) := by decide +kernel
theorem dX4_keepUnits_17 : decode cX4_keepUnits 17 = .ok (.aload_n 0, 1) := by decide +kernel
theorem dX4_keepUnits_18 : decode cX4_keepUnits 18 = .ok (.getfield 42, 3) := by decide +kernel
theorem dX4_keepUnits_21 : decode cX4_keepUnits 21 = .ok (.getfield 113, 3) := by decide +kernel
theorem dX4_keepUnits_24 : decode cX4_keepUnits 24 = .ok (.iload_n 1, 1) := by decide +kernel
theorem dX4_keepUnits_25 : decode cX4_keepUnits 25 = .ok (.iaload, 1) := by decide +kernel
theorem dX4_keepUnits_26 : decode cX4_keepUnits 26 = .ok (.iconst 1, 1) := by decide +kernel
theorem dX4_keepUnits_27 : decode cX4_keepUnits 27 = .ok (.bastore, 1) := by decide +kernel
theorem dX4_keepUnits_28 : decode cX4_keepUnits 28 = .ok (.iinc 1 1, 3) := by decide +kernel
theorem dX4_keepUnits_31 : decode cX4_keepUnits 31 = .ok (.goto (-29), 3) := by decide +kernel
theorem dX4_keepUnits_34 : decode cX4_keepUnits 34 = .ok (.return_, 1) := by decide +kernel
theorem dX4_takesMove_0 : decode cX4_takesMove 0 = .ok (.aload_n 0, 1) := by decide +kernel
theorem dX4_takesMove_1 : decode cX4_takesMove 1 = .ok (.getfield 33, 3) := by decide +kernel
theorem dX4_takesMove_4 : decode cX4_takesMove 4 = .ok (.getfield 108, 3) := by decide +kernel
theorem dX4_takesMove_7 : decode cX4_takesMove 7 = .ok (.iload_n 1, 1) := by decide +kernel
theorem dX4_takesMove_8 : decode cX4_takesMove 8 = .ok (.iaload, 1) := by decide +kernel
theorem dX4_takesMove_9 : decode cX4_takesMove 9 = .ok (.istore_n 2, 1) := by decide +kernel
theorem dX4_takesMove_10 : decode cX4_takesMove 10 = .ok (.iload_n 2, 1) := by decide +kernel
theorem dX4_takesMove_11 : decode cX4_takesMove 11 = .ok (.aload_n 0, 1) := by decide +kernel
theorem dX4_takesMove_12 : decode cX4_takesMove 12 = .ok (.getfield 33, 3) := by decide +kernel
theorem dX4_takesMove_15 : decode cX4_takesMove 15 = .ok (.getfield 89, 3) := by decide +kernel
theorem dX4_takesMove_18 : decode cX4_takesMove 18 = .ok (.iload_n 1, 1) := by decide +kernel
theorem dX4_takesMove_19 : decode cX4_takesMove 19 = .ok (.iaload, 1) := by decide +kernel
theorem dX4_takesMove_20 : decode cX4_takesMove 20 = .ok (.iadd, 1) := by decide +kernel
theorem dX4_takesMove_21 : decode cX4_takesMove 21 = .ok (.istore_n 3, 1) := by decide +kernel
theorem dX4_takesMove_22 : decode cX4_takesMove 22 = .ok (.iload_n 1, 1) := by decide +kernel
theorem dX4_takesMove_23 : decode cX4_takesMove 23 = .ok (.istore 4, 2) := by decide +kernel
theorem dX4_takesMove_25 : decode cX4_takesMove 25 = .ok (.iload 4, 2) := by decide +kernel
theorem dX4_takesMove_27 : decode cX4_takesMove 27 = .ok (.aload_n 0, 1) := by decide +kernel
theorem dX4_takesMove_28 : decode cX4_takesMove 28 = .ok (.getfield 33, 3) := by decide +kernel
theorem dX4_takesMove_31 : decode cX4_takesMove 31 = .ok (.getfield 88, 3) := by decide +kernel
theorem dX4_takesMove_34 : decode cX4_takesMove 34 = .ok (.if_icmp .ge 169, 3) := by decide +kernel
theorem dX4_takesMove_37 : decode cX4_takesMove 37 = .ok (.iload 4, 2) := by decide +kernel
theorem dX4_takesMove_39 : decode cX4_takesMove 39 = .ok (.iload_n 1, 1) := by decide +kernel
theorem dX4_takesMove_40 : decode cX4_takesMove 40 = .ok (.if_icmp .eq 13, 3) := by decide +kernel
theorem dX4_takesMove_43 : decode cX4_takesMove 43 = .ok (.aload_n 0, 1) := by decide +kernel
theorem dX4_takesMove_44 : decode cX4_takesMove 44 = .ok (.iload 4, 2) := by decide +kernel
theorem dX4_takesMove_46 : decode cX4_takesMove 46 = .ok (.iload_n 1, 1) := by decide +kernel
theorem dX4_takesMove_47 : decode cX4_takesMove 47 = .ok (.invokevirtual 116, 3) := by decide +kernel
theorem dX4_takesMove_50 : decode cX4_takesMove 50 = .ok (.ifCond .eq 153, 3) := by decide +kernel
theorem dX4_takesMove_53 : decode cX4_takesMove 53 = .ok (.aload_n 0, 1) := by decide +kernel
theorem dX4_takesMove_54 : decode cX4_takesMove 54 = .ok (.iload_n 1, 1) := by decide +kernel
theorem dX4_takesMove_55 : decode cX4_takesMove 55 = .ok (.iload 4, 2) := by decide +kernel
theorem dX4_takesMove_57 : decode cX4_takesMove 57 = .ok (.invokevirtual 120, 3) := by decide +kernel
theorem dX4_takesMove_60 : decode cX4_takesMove 60 = .ok (.ifCond .eq 137, 3) := by decide +kernel
theorem dX4_takesMove_63 : decode cX4_takesMove 63 = .ok (.aload_n 0, 1) := by decide +kernel
theorem dX4_takesMove_64 : decode cX4_takesMove 64 = .ok (.getfield 12, 3) := by decide +kernel
theorem dX4_takesMove_67 : decode cX4_takesMove 67 = .ok (.iconst 0, 1) := by decide +kernel
theorem dX4_takesMove_68 : decode cX4_takesMove 68 = .ok (.putfield 49, 3) := by decide +kernel
theorem dX4_takesMove_71 : decode cX4_takesMove 71 = .ok (.aload_n 0, 1) := by decide +kernel
theorem dX4_takesMove_72 : decode cX4_takesMove 72 = .ok (.getfield 12, 3) := by decide +kernel
theorem dX4_takesMove_75 : decode cX4_takesMove 75 = .ok (.aload_n 0, 1) := by decide +kernel
theorem dX4_takesMove_76 : decode cX4_takesMove 76 = .ok (.getfield 22, 3) := by decide +kernel
theorem dX4_takesMove_79 : decode cX4_takesMove 79 = .ok (.iconst 0, 1) := by decide +kernel
theorem dX4_takesMove_80 : decode cX4_takesMove 80 = .ok (.iload_n 2, 1) := by decide +kernel
theorem dX4_takesMove_81 : decode cX4_takesMove 81 = .ok (.invokevirtual 123, 3) := by decide +kernel
theorem dX4_takesMove_84 : decode cX4_takesMove 84 = .ok (.aload_n 0, 1) := by decide +kernel
theorem dX4_takesMove_85 : decode cX4_takesMove 85 = .ok (.getfield 12, 3) := by decide +kernel
theorem dX4_takesMove_88 : decode cX4_takesMove 88 = .ok (.aload_n 0, 1) := by decide +kernel
theorem dX4_takesMove_89 : decode cX4_takesMove 89 = .ok (.getfield 22, 3) := by decide +kernel
theorem dX4_takesMove_92 : decode cX4_takesMove 92 = .ok (.aload_n 0, 1) := by decide +kernel
theorem dX4_takesMove_93 : decode cX4_takesMove 93 = .ok (.getfield 33, 3) := by decide +kernel
theorem dX4_takesMove_96 : decode cX4_takesMove 96 = .ok (.getfield 108, 3) := by decide +kernel
theorem dX4_takesMove_99 : decode cX4_takesMove 99 = .ok (.iload 4, 2) := by decide +kernel
theorem dX4_takesMove_101 : decode cX4_takesMove 101 = .ok (.iaload, 1) := by decide +kernel
theorem dX4_takesMove_102 : decode cX4_takesMove 102 = .ok (.aload_n 0, 1) := by decide +kernel
theorem dX4_takesMove_103 : decode cX4_takesMove 103 = .ok (.getfield 33, 3) := by decide +kernel
theorem dX4_takesMove_106 : decode cX4_takesMove 106 = .ok (.getfield 108, 3) := by decide +kernel
theorem dX4_takesMove_109 : decode cX4_takesMove 109 = .ok (.iload 4, 2) := by decide +kernel
theorem dX4_takesMove_111 : decode cX4_takesMove 111 = .ok (.iaload, 1) := by decide +kernel
theorem dX4_takesMove_112 : decode cX4_takesMove 112 = .ok (.iload 4, 2) := by decide +kernel
theorem dX4_takesMove_114 : decode cX4_takesMove 114 = .ok (.iload_n 1, 1) := by decide +kernel
theorem dX4_takesMove_115 : decode cX4_takesMove 115 = .ok (.if_icmp .ne 7, 3) := by decide +kernel
theorem dX4_takesMove_118 : decode cX4_takesMove 118 = .ok (.iconst 0, 1) := by decide +kernel
theorem dX4_takesMove_119 : decode cX4_takesMove 119 = .ok (.goto 13, 3) := by decide +kernel
theorem dX4_takesMove_122 : decode cX4_takesMove 122 = .ok (.aload_n 0, 1) := by decide +kernel
theorem dX4_takesMove_123 : decode cX4_takesMove 123 = .ok (.getfield 33, 3) := by decide +kernel
theorem dX4_takesMove_126 : decode cX4_takesMove 126 = .ok (.getfield 89, 3) := by decide +kernel
theorem dX4_takesMove_129 : decode cX4_takesMove 129 = .ok (.iload 4, 2) := by decide +kernel
theorem dX4_takesMove_131 : decode cX4_takesMove 131 = .ok (.iaload, 1) := by decide +kernel
theorem dX4_takesMove_132 : decode cX4_takesMove 132 = .ok (.iadd, 1) := by decide +kernel
theorem dX4_takesMove_133 : decode cX4_takesMove 133 = .ok (.invokevirtual 123, 3) := by decide +kernel
theorem dX4_takesMove_136 : decode cX4_takesMove 136 = .ok (.aload_n 0, 1) := by decide +kernel
theorem dX4_takesMove_137 : decode cX4_takesMove 137 = .ok (.getfield 12, 3) := by decide +kernel
theorem dX4_takesMove_140 : decode cX4_takesMove 140 = .ok (.aload_n 0, 1) := by decide +kernel
theorem dX4_takesMove_141 : decode cX4_takesMove 141 = .ok (.getfield 22, 3) := by decide +kernel
theorem dX4_takesMove_144 : decode cX4_takesMove 144 = .ok (.iload_n 3, 1) := by decide +kernel
theorem dX4_takesMove_145 : decode cX4_takesMove 145 = .ok (.aload_n 0, 1) := by decide +kernel
theorem dX4_takesMove_146 : decode cX4_takesMove 146 = .ok (.getfield 22, 3) := by decide +kernel
theorem dX4_takesMove_149 : decode cX4_takesMove 149 = .ok (.getfield 49, 3) := by decide +kernel
theorem dX4_takesMove_152 : decode cX4_takesMove 152 = .ok (.invokevirtual 123, 3) := by decide +kernel
theorem dX4_takesMove_155 : decode cX4_takesMove 155 = .ok (.aload_n 0, 1) := by decide +kernel
theorem dX4_takesMove_156 : decode cX4_takesMove 156 = .ok (.getfield 29, 3) := by decide +kernel
theorem dX4_takesMove_159 : decode cX4_takesMove 159 = .ok (.aload_n 0, 1) := by decide +kernel
theorem dX4_takesMove_160 : decode cX4_takesMove 160 = .ok (.getfield 12, 3) := by decide +kernel
theorem dX4_takesMove_163 : decode cX4_takesMove 163 = .ok (.invokevirtual 127, 3) := by decide +kernel
theorem dX4_takesMove_166 : decode cX4_takesMove 166 = .ok (.ifCond .eq 31, 3) := by decide +kernel
theorem dX4_takesMove_169 : decode cX4_takesMove 169 = .ok (.aload_n 0, 1) := by decide +kernel
theorem dX4_takesMove_170 : decode cX4_takesMove 170 = .ok (.getfield 25, 3) := by decide +kernel
theorem dX4_takesMove_173 : decode cX4_takesMove 173 = .ok (.aload_n 0, 1) := by decide +kernel
theorem dX4_takesMove_174 : decode cX4_takesMove 174 = .ok (.getfield 12, 3) := by decide +kernel
theorem dX4_takesMove_177 : decode cX4_takesMove 177 = .ok (.invokevirtual 132, 3) := by decide +kernel
theorem dX4_takesMove_180 : decode cX4_takesMove 180 = .ok (.iconst 1, 1) := by decide +kernel
theorem dX4_takesMove_181 : decode cX4_takesMove 181 = .ok (.if_icmp .ne 16, 3) := by decide +kernel
theorem dX4_takesMove_184 : decode cX4_takesMove 184 = .ok (.aload_n 0, 1) := by decide +kernel
theorem dX4_takesMove_185 : decode cX4_takesMove 185 = .ok (.getfield 22, 3) := by decide +kernel
theorem dX4_takesMove_188 : decode cX4_takesMove 188 = .ok (.aload_n 0, 1) := by decide +kernel
theorem dX4_takesMove_189 : decode cX4_takesMove 189 = .ok (.getfield 12, 3) := by decide +kernel
theorem dX4_takesMove_192 : decode cX4_takesMove 192 = .ok (.invokevirtual 136, 3) := by decide +kernel
theorem dX4_takesMove_195 : decode cX4_takesMove 195 = .ok (.iconst 1, 1) := by decide +kernel
theorem dX4_takesMove_196 : decode cX4_takesMove 196 = .ok (.ireturn, 1) := by decide +kernel
theorem dX4_takesMove_197 : decode cX4_takesMove 197 = .ok (.iinc 4 1, 3) := by decide +kernel
theorem dX4_takesMove_200 : decode cX4_takesMove 200 = .ok (.goto (-175), 3) := by decide +kernel
theorem dX4_takesMove_203 : decode cX4_takesMove 203 = .ok (.iconst 0, 1) := by decide +kernel
theorem dX4_takesMove_204 : decode cX4_takesMove 204 = .ok (.ireturn, 1) := by decide +kernel
theorem dX4_isBelow_0 : decode cX4_isBelow 0 = .ok (.aload_n 0, 1) := by decide +kernel
theorem dX4_isBelow_1 : decode cX4_isBelow 1 = .ok (.getfield 33, 3) := by decide +kernel
theorem dX4_isBelow_4 : decode cX4_isBelow 4 = .ok (.getfield 102, 3) := by decide +kernel
theorem dX4_isBelow_7 : decode cX4_isBelow 7 = .ok (.iload_n 1, 1) := by decide +kernel
theorem dX4_isBelow_8 : decode cX4_isBelow 8 = .ok (.iaload, 1) := by decide +kernel
theorem dX4_isBelow_9 : decode cX4_isBelow 9 = .ok (.aload_n 0, 1) := by decide +kernel
theorem dX4_isBelow_10 : decode cX4_isBelow 10 = .ok (.getfield 33, 3) := by decide +kernel
theorem dX4_isBelow_13 : decode cX4_isBelow 13 = .ok (.getfield 102, 3) := by decide +kernel
theorem dX4_isBelow_16 : decode cX4_isBelow 16 = .ok (.iload_n 2, 1) := by decide +kernel
theorem dX4_isBelow_17 : decode cX4_isBelow 17 = .ok (.iaload, 1) := by decide +kernel
theorem dX4_isBelow_18 : decode cX4_isBelow 18 = .ok (.if_icmp .le 7, 3) := by decide +kernel
theorem dX4_isBelow_21 : decode cX4_isBelow 21 = .ok (.iconst 1, 1) := by decide +kernel
theorem dX4_isBelow_22 : decode cX4_isBelow 22 = .ok (.goto 4, 3) := by decide +kernel
theorem dX4_isBelow_25 : decode cX4_isBelow 25 = .ok (.iconst 0, 1) := by decide +kernel
theorem dX4_isBelow_26 : decode cX4_isBelow 26 = .ok (.ireturn, 1) := by decide +kernel
theorem dX4_isMove_0 : decode cX4_isMove 0 = .ok (.iload_n 2, 1) := by decide +kernel
theorem dX4_isMove_1 : decode cX4_isMove 1 = .ok (.iload_n 1, 1) := by decide +kernel
theorem dX4_isMove_2 : decode cX4_isMove 2 = .ok (.if_icmp .ne 13, 3) := by decide +kernel
theorem dX4_isMove_5 : decode cX4_isMove 5 = .ok (.aload_n 0, 1) := by decide +kernel
theorem dX4_isMove_6 : decode cX4_isMove 6 = .ok (.getfield 33, 3) := by decide +kernel
theorem dX4_isMove_9 : decode cX4_isMove 9 = .ok (.getfield 140, 3) := by decide +kernel
theorem dX4_isMove_12 : decode cX4_isMove 12 = .ok (.iload_n 1, 1) := by decide +kernel
theorem dX4_isMove_13 : decode cX4_isMove 13 = .ok (.baload, 1) := by decide +kernel
theorem dX4_isMove_14 : decode cX4_isMove 14 = .ok (.ireturn, 1) := by decide +kernel
theorem dX4_isMove_15 : decode cX4_isMove 15 = .ok (.aload_n 0, 1) := by decide +kernel
theorem dX4_isMove_16 : decode cX4_isMove 16 = .ok (.getfield 33, 3) := by decide +kernel
theorem dX4_isMove_19 : decode cX4_isMove 19 = .ok (.getfield 143, 3) := by decide +kernel
theorem dX4_isMove_22 : decode cX4_isMove 22 = .ok (.iload_n 2, 1) := by decide +kernel
theorem dX4_isMove_23 : decode cX4_isMove 23 = .ok (.iaload, 1) := by decide +kernel
theorem dX4_isMove_24 : decode cX4_isMove 24 = .ok (.bipush 6, 2) := by decide +kernel
theorem dX4_isMove_26 : decode cX4_isMove 26 = .ok (.if_icmp .ge 49, 3) := by decide +kernel
theorem dX4_isMove_29 : decode cX4_isMove 29 = .ok (.aload_n 0, 1) := by decide +kernel
theorem dX4_isMove_30 : decode cX4_isMove 30 = .ok (.getfield 33, 3) := by decide +kernel
theorem dX4_isMove_33 : decode cX4_isMove 33 = .ok (.getfield 143, 3) := by decide +kernel
theorem dX4_isMove_36 : decode cX4_isMove 36 = .ok (.iload_n 2, 1) := by decide +kernel
theorem dX4_isMove_37 : decode cX4_isMove 37 = .ok (.iaload, 1) := by decide +kernel
theorem dX4_isMove_38 : decode cX4_isMove 38 = .ok (.aload_n 0, 1) := by decide +kernel
theorem dX4_isMove_39 : decode cX4_isMove 39 = .ok (.getfield 33, 3) := by decide +kernel
theorem dX4_isMove_42 : decode cX4_isMove 42 = .ok (.getfield 143, 3) := by decide +kernel
theorem dX4_isMove_45 : decode cX4_isMove 45 = .ok (.iload_n 1, 1) := by decide +kernel
theorem dX4_isMove_46 : decode cX4_isMove 46 = .ok (.iaload, 1) := by decide +kernel
theorem dX4_isMove_47 : decode cX4_isMove 47 = .ok (.if_icmp .ne 28, 3) := by decide +kernel
theorem dX4_isMove_50 : decode cX4_isMove 50 = .ok (.aload_n 0, 1) := by decide +kernel
theorem dX4_isMove_51 : decode cX4_isMove 51 = .ok (.getfield 33, 3) := by decide +kernel
theorem dX4_isMove_54 : decode cX4_isMove 54 = .ok (.getfield 89, 3) := by decide +kernel
theorem dX4_isMove_57 : decode cX4_isMove 57 = .ok (.iload_n 2, 1) := by decide +kernel
theorem dX4_isMove_58 : decode cX4_isMove 58 = .ok (.iaload, 1) := by decide +kernel
theorem dX4_isMove_59 : decode cX4_isMove 59 = .ok (.aload_n 0, 1) := by decide +kernel
theorem dX4_isMove_60 : decode cX4_isMove 60 = .ok (.getfield 33, 3) := by decide +kernel
theorem dX4_isMove_63 : decode cX4_isMove 63 = .ok (.getfield 89, 3) := by decide +kernel
theorem dX4_isMove_66 : decode cX4_isMove 66 = .ok (.iload_n 1, 1) := by decide +kernel
theorem dX4_isMove_67 : decode cX4_isMove 67 = .ok (.iaload, 1) := by decide +kernel
theorem dX4_isMove_68 : decode cX4_isMove 68 = .ok (.if_icmp .ge 7, 3) := by decide +kernel
theorem dX4_isMove_71 : decode cX4_isMove 71 = .ok (.iconst 1, 1) := by decide +kernel
theorem dX4_isMove_72 : decode cX4_isMove 72 = .ok (.goto 4, 3) := by decide +kernel
theorem dX4_isMove_75 : decode cX4_isMove 75 = .ok (.iconst 0, 1) := by decide +kernel
theorem dX4_isMove_76 : decode cX4_isMove 76 = .ok (.ireturn, 1) := by decide +kernel
theorem dX5_init_0 : decode cX5_init 0 = .ok (.aload_n 0, 1) := by decide +kernel
theorem dX5_init_1 : decode cX5_init 1 = .ok (.invokespecial 1, 3) := by decide +kernel
theorem dX5_init_4 : decode cX5_init 4 = .ok (.aload_n 0, 1) := by decide +kernel
theorem dX5_init_5 : decode cX5_init 5 = .ok (.iload_n 1, 1) := by decide +kernel
theorem dX5_init_6 : decode cX5_init 6 = .ok (.putfield 7, 3) := by decide +kernel
theorem dX5_init_9 : decode cX5_init 9 = .ok (.aload_n 0, 1) := by decide +kernel
theorem dX5_init_10 : decode cX5_init 10 = .ok (.iload_n 2, 1) := by decide +kernel
theorem dX5_init_11 : decode cX5_init 11 = .ok (.putfield 13, 3) := by decide +kernel
theorem dX5_init_14 : decode cX5_init 14 = .ok (.aload_n 0, 1) := by decide +kernel
theorem dX5_init_15 : decode cX5_init 15 = .ok (.iload_n 3, 1) := by decide +kernel
theorem dX5_init_16 : decode cX5_init 16 = .ok (.putfield 17, 3) := by decide +kernel
theorem dX5_init_19 : decode cX5_init 19 = .ok (.aload_n 0, 1) := by decide +kernel
theorem dX5_init_20 : decode cX5_init 20 = .ok (.iload 4, 2) := by decide +kernel
theorem dX5_init_22 : decode cX5_init 22 = .ok (.putfield 20, 3) := by decide +kernel
theorem dX5_init_25 : decode cX5_init 25 = .ok (.aload_n 0, 1) := by decide +kernel
theorem dX5_init_26 : decode cX5_init 26 = .ok (.aconst_null, 1) := by decide +kernel
theorem dX5_init_27 : decode cX5_init 27 = .ok (.putfield 23, 3) := by decide +kernel
theorem dX5_init_30 : decode cX5_init 30 = .ok (.aload_n 0, 1) := by decide +kernel
theorem dX5_init_31 : decode cX5_init 31 = .ok (.aconst_null, 1) := by decide +kernel
theorem dX5_init_32 : decode cX5_init 32 = .ok (.putfield 27, 3) := by decide +kernel
theorem dX5_init_35 : decode cX5_init 35 = .ok (.aload_n 0, 1) := by decide +kernel
theorem dX5_init_36 : decode cX5_init 36 = .ok (.iconst 1, 1) := by decide +kernel
theorem dX5_init_37 : decode cX5_init 37 = .ok (.putfield 30, 3) := by decide +kernel
theorem dX5_init_40 : decode cX5_init 40 = .ok (.return_, 1) := by decide +kernel
theorem dX5_init__0 : decode cX5_init_ 0 = .ok (.aload_n 0, 1) := by decide +kernel
theorem dX5_init__1 : decode cX5_init_ 1 = .ok (.invokespecial 1, 3) := by decide +kernel
theorem dX5_init__4 : decode cX5_init_ 4 = .ok (.aload_n 0, 1) := by decide +kernel
theorem dX5_init__5 : decode cX5_init_ 5 = .ok (.iload_n 1, 1) := by decide +kernel
theorem dX5_init__6 : decode cX5_init_ 6 = .ok (.putfield 7, 3) := by decide +kernel
theorem dX5_init__9 : decode cX5_init_ 9 = .ok (.aload_n 0, 1) := by decide +kernel
theorem dX5_init__10 : decode cX5_init_ 10 = .ok (.bipush 32, 2) := by decide +kernel
theorem dX5_init__12 : decode cX5_init_ 12 = .ok (.putfield 13, 3) := by decide +kernel
theorem dX5_init__15 : decode cX5_init_ 15 = .ok (.aload_n 0, 1) := by decide +kernel
theorem dX5_init__16 : decode cX5_init_ 16 = .ok (.bipush 32, 2) := by decide +kernel
theorem dX5_init__18 : decode cX5_init_ 18 = .ok (.putfield 17, 3) := by decide +kernel
theorem dX5_init__21 : decode cX5_init_ 21 = .ok (.aload_n 0, 1) := by decide +kernel
theorem dX5_init__22 : decode cX5_init_ 22 = .ok (.iconst 0, 1) := by decide +kernel
theorem dX5_init__23 : decode cX5_init_ 23 = .ok (.putfield 20, 3) := by decide +kernel
theorem dX5_init__26 : decode cX5_init_ 26 = .ok (.aload_n 0, 1) := by decide +kernel
theorem dX5_init__27 : decode cX5_init_ 27 = .ok (.aload_n 2, 1) := by decide +kernel
theorem dX5_init__28 : decode cX5_init_ 28 = .ok (.putfield 23, 3) := by decide +kernel
theorem dX5_init__31 : decode cX5_init_ 31 = .ok (.aload_n 0, 1) := by decide +kernel
theorem dX5_init__32 : decode cX5_init_ 32 = .ok (.aload_n 3, 1) := by decide +kernel
theorem dX5_init__33 : decode cX5_init_ 33 = .ok (.putfield 27, 3) := by decide +kernel
theorem dX5_init__36 : decode cX5_init_ 36 = .ok (.aload_n 0, 1) := by decide +kernel
theorem dX5_init__37 : decode cX5_init_ 37 = .ok (.iload 4, 2) := by decide +kernel
theorem dX5_init__39 : decode cX5_init_ 39 = .ok (.putfield 30, 3) := by decide +kernel
theorem dX5_init__42 : decode cX5_init_ 42 = .ok (.return_, 1) := by decide +kernel
theorem dX6_init_0 : decode cX6_init 0 = .ok (.aload_n 0, 1) := by decide +kernel
theorem dX6_init_1 : decode cX6_init 1 = .ok (.invokespecial 3, 3) := by decide +kernel
theorem dX6_init_4 : decode cX6_init 4 = .ok (.aload_n 0, 1) := by decide +kernel
theorem dX6_init_5 : decode cX6_init 5 = .ok (.bipush 32, 2) := by decide +kernel
theorem dX6_init_7 : decode cX6_init 7 = .ok (.newarray .char, 2) := by decide +kernel
theorem dX6_init_9 : decode cX6_init 9 = .ok (.putfield 9, 3) := by decide +kernel
theorem dX6_init_12 : decode cX6_init 12 = .ok (.return_, 1) := by decide +kernel
theorem dX6_put_0 : decode cX6_put 0 = .ok (.aload_n 0, 1) := by decide +kernel
theorem dX6_put_1 : decode cX6_put 1 = .ok (.getfield 15, 3) := by decide +kernel
theorem dX6_put_4 : decode cX6_put 4 = .ok (.bipush 32, 2) := by decide +kernel
theorem dX6_put_6 : decode cX6_put 6 = .ok (.if_icmp .lt 5, 3) := by decide +kernel
theorem dX6_put_9 : decode cX6_put 9 = .ok (.iconst 0, 1) := by decide +kernel
theorem dX6_put_10 : decode cX6_put 10 = .ok (.ireturn, 1) := by decide +kernel
theorem dX6_put_11 : decode cX6_put 11 = .ok (.aload_n 0, 1) := by decide +kernel
theorem dX6_put_12 : decode cX6_put 12 = .ok (.getfield 9, 3) := by decide +kernel
theorem dX6_put_15 : decode cX6_put 15 = .ok (.aload_n 0, 1) := by decide +kernel
theorem dX6_put_16 : decode cX6_put 16 = .ok (.getfield 15, 3) := by decide +kernel
theorem dX6_put_19 : decode cX6_put 19 = .ok (.iload_n 1, 1) := by decide +kernel
theorem dX6_put_20 : decode cX6_put 20 = .ok (.castore, 1) := by decide +kernel
theorem dX6_put_21 : decode cX6_put 21 = .ok (.aload_n 0, 1) := by decide +kernel
theorem dX6_put_22 : decode cX6_put 22 = .ok (.dup, 1) := by decide +kernel
theorem dX6_put_23 : decode cX6_put 23 = .ok (.getfield 15, 3) := by decide +kernel
theorem dX6_put_26 : decode cX6_put 26 = .ok (.iconst 1, 1) := by decide +kernel
theorem dX6_put_27 : decode cX6_put 27 = .ok (.iadd, 1) := by decide +kernel
theorem dX6_put_28 : decode cX6_put 28 = .ok (.putfield 15, 3) := by decide +kernel
theorem dX6_put_31 : decode cX6_put 31 = .ok (.iconst 1, 1) := by decide +kernel
theorem dX6_put_32 : decode cX6_put 32 = .ok (.ireturn, 1) := by decide +kernel
theorem dX6_putSome_0 : decode cX6_putSome 0 = .ok (.iload_n 2, 1) := by decide +kernel
theorem dX6_putSome_1 : decode cX6_putSome 1 = .ok (.istore 4, 2) := by decide +kernel
theorem dX6_putSome_3 : decode cX6_putSome 3 = .ok (.iload 4, 2) := by decide +kernel
theorem dX6_putSome_5 : decode cX6_putSome 5 = .ok (.ifCond .lt 36, 3) := by decide +kernel
theorem dX6_putSome_8 : decode cX6_putSome 8 = .ok (.iload 4, 2) := by decide +kernel
theorem dX6_putSome_10 : decode cX6_putSome 10 = .ok (.iload_n 3, 1) := by decide +kernel
theorem dX6_putSome_11 : decode cX6_putSome 11 = .ok (.if_icmp .ge 30, 3) := by decide +kernel
theorem dX6_putSome_14 : decode cX6_putSome 14 = .ok (.iload 4, 2) := by decide +kernel
theorem dX6_putSome_16 : decode cX6_putSome 16 = .ok (.aload_n 1, 1) := by decide +kernel
theorem dX6_putSome_17 : decode cX6_putSome 17 = .ok (.getfield 15, 3) := by decide +kernel
theorem dX6_putSome_20 : decode cX6_putSome 20 = .ok (.if_icmp .ge 21, 3) := by decide +kernel
theorem dX6_putSome_23 : decode cX6_putSome 23 = .ok (.aload_n 0, 1) := by decide +kernel
theorem dX6_putSome_24 : decode cX6_putSome 24 = .ok (.aload_n 1, 1) := by decide +kernel
theorem dX6_putSome_25 : decode cX6_putSome 25 = .ok (.getfield 9, 3) := by decide +kernel
theorem dX6_putSome_28 : decode cX6_putSome 28 = .ok (.iload 4, 2) := by decide +kernel
theorem dX6_putSome_30 : decode cX6_putSome 30 = .ok (.caload, 1) := by decide +kernel
theorem dX6_putSome_31 : decode cX6_putSome 31 = .ok (.invokevirtual 19, 3) := by decide +kernel
theorem dX6_putSome_34 : decode cX6_putSome 34 = .ok (.pop, 1) := by decide +kernel
theorem dX6_putSome_35 : decode cX6_putSome 35 = .ok (.iinc 4 1, 3) := by decide +kernel
theorem dX6_putSome_38 : decode cX6_putSome 38 = .ok (.goto (-35), 3) := by decide +kernel
theorem dX6_putSome_41 : decode cX6_putSome 41 = .ok (.return_, 1) := by decide +kernel
theorem dX6_become_0 : decode cX6_become 0 = .ok (.aload_n 0, 1) := by decide +kernel
theorem dX6_become_1 : decode cX6_become 1 = .ok (.iconst 0, 1) := by decide +kernel
theorem dX6_become_2 : decode cX6_become 2 = .ok (.putfield 15, 3) := by decide +kernel
theorem dX6_become_5 : decode cX6_become 5 = .ok (.aload_n 0, 1) := by decide +kernel
theorem dX6_become_6 : decode cX6_become 6 = .ok (.aload_n 1, 1) := by decide +kernel
theorem dX6_become_7 : decode cX6_become 7 = .ok (.iconst 0, 1) := by decide +kernel
theorem dX6_become_8 : decode cX6_become 8 = .ok (.aload_n 1, 1) := by decide +kernel
theorem dX6_become_9 : decode cX6_become 9 = .ok (.getfield 15, 3) := by decide +kernel
theorem dX6_become_12 : decode cX6_become 12 = .ok (.invokevirtual 23, 3) := by decide +kernel
theorem dX6_become_15 : decode cX6_become 15 = .ok (.return_, 1) := by decide +kernel
theorem dX6_holdsSign_0 : decode cX6_holdsSign 0 = .ok (.iconst 0, 1) := by decide +kernel
theorem dX6_holdsSign_1 : decode cX6_holdsSign 1 = .ok (.istore_n 3, 1) := by decide +kernel
theorem dX6_holdsSign_2 : decode cX6_holdsSign 2 = .ok (.iconst 0, 1) := by decide +kernel
theorem dX6_holdsSign_3 : decode cX6_holdsSign 3 = .ok (.istore 4, 2) := by decide +kernel
theorem dX6_holdsSign_5 : decode cX6_holdsSign 5 = .ok (.iload 4, 2) := by decide +kernel
theorem dX6_holdsSign_7 : decode cX6_holdsSign 7 = .ok (.aload_n 0, 1) := by decide +kernel
theorem dX6_holdsSign_8 : decode cX6_holdsSign 8 = .ok (.getfield 15, 3) := by decide +kernel
theorem dX6_holdsSign_11 : decode cX6_holdsSign 11 = .ok (.if_icmp .ge 23, 3) := by decide +kernel
theorem dX6_holdsSign_14 : decode cX6_holdsSign 14 = .ok (.aload_n 0, 1) := by decide +kernel
theorem dX6_holdsSign_15 : decode cX6_holdsSign 15 = .ok (.getfield 9, 3) := by decide +kernel
theorem dX6_holdsSign_18 : decode cX6_holdsSign 18 = .ok (.iload 4, 2) := by decide +kernel
theorem dX6_holdsSign_20 : decode cX6_holdsSign 20 = .ok (.caload, 1) := by decide +kernel
theorem dX6_holdsSign_21 : decode cX6_holdsSign 21 = .ok (.iload_n 1, 1) := by decide +kernel
theorem dX6_holdsSign_22 : decode cX6_holdsSign 22 = .ok (.if_icmp .ne 6, 3) := by decide +kernel
theorem dX6_holdsSign_25 : decode cX6_holdsSign 25 = .ok (.iinc 3 1, 3) := by decide +kernel
theorem dX6_holdsSign_28 : decode cX6_holdsSign 28 = .ok (.iinc 4 1, 3) := by decide +kernel
theorem dX6_holdsSign_31 : decode cX6_holdsSign 31 = .ok (.goto (-26), 3) := by decide +kernel
theorem dX6_holdsSign_34 : decode cX6_holdsSign 34 = .ok (.iload_n 3, 1) := by decide +kernel
theorem dX6_holdsSign_35 : decode cX6_holdsSign 35 = .ok (.iload_n 2, 1) := by decide +kernel
theorem dX6_holdsSign_36 : decode cX6_holdsSign 36 = .ok (.if_icmp .lt 7, 3) := by decide +kernel
theorem dX6_holdsSign_39 : decode cX6_holdsSign 39 = .ok (.iconst 1, 1) := by decide +kernel
theorem dX6_holdsSign_40 : decode cX6_holdsSign 40 = .ok (.goto 4, 3) := by decide +kernel
theorem dX6_holdsSign_43 : decode cX6_holdsSign 43 = .ok (.iconst 0, 1) := by decide +kernel
theorem dX6_holdsSign_44 : decode cX6_holdsSign 44 = .ok (.ireturn, 1) := by decide +kernel
theorem dX6_holdsPair_0 : decode cX6_holdsPair 0 = .ok (.iconst 0, 1) := by decide +kernel
theorem dX6_holdsPair_1 : decode cX6_holdsPair 1 = .ok (.istore 4, 2) := by decide +kernel
theorem dX6_holdsPair_3 : decode cX6_holdsPair 3 = .ok (.iconst 0, 1) := by decide +kernel
theorem dX6_holdsPair_4 : decode cX6_holdsPair 4 = .ok (.istore 5, 2) := by decide +kernel
theorem dX6_holdsPair_6 : decode cX6_holdsPair 6 = .ok (.iload 5, 2) := by decide +kernel
theorem dX6_holdsPair_8 : decode cX6_holdsPair 8 = .ok (.aload_n 0, 1) := by decide +kernel
theorem dX6_holdsPair_9 : decode cX6_holdsPair 9 = .ok (.getfield 15, 3) := by decide +kernel
theorem dX6_holdsPair_12 : decode cX6_holdsPair 12 = .ok (.if_icmp .ge 54, 3) := by decide +kernel
theorem dX6_holdsPair_15 : decode cX6_holdsPair 15 = .ok (.iload 4, 2) := by decide +kernel
theorem dX6_holdsPair_17 : decode cX6_holdsPair 17 = .ok (.ifCond .eq 16, 3) := by decide +kernel
theorem dX6_holdsPair_20 : decode cX6_holdsPair 20 = .ok (.aload_n 0, 1) := by decide +kernel
theorem dX6_holdsPair_21 : decode cX6_holdsPair 21 = .ok (.getfield 9, 3) := by decide +kernel
theorem dX6_holdsPair_24 : decode cX6_holdsPair 24 = .ok (.iload 5, 2) := by decide +kernel
theorem dX6_holdsPair_26 : decode cX6_holdsPair 26 = .ok (.caload, 1) := by decide +kernel
theorem dX6_holdsPair_27 : decode cX6_holdsPair 27 = .ok (.iload_n 2, 1) := by decide +kernel
theorem dX6_holdsPair_28 : decode cX6_holdsPair 28 = .ok (.if_icmp .ne 5, 3) := by decide +kernel
theorem dX6_holdsPair_31 : decode cX6_holdsPair 31 = .ok (.iconst 1, 1) := by decide +kernel
theorem dX6_holdsPair_32 : decode cX6_holdsPair 32 = .ok (.ireturn, 1) := by decide +kernel
theorem dX6_holdsPair_33 : decode cX6_holdsPair 33 = .ok (.aload_n 0, 1) := by decide +kernel
theorem dX6_holdsPair_34 : decode cX6_holdsPair 34 = .ok (.getfield 9, 3) := by decide +kernel
theorem dX6_holdsPair_37 : decode cX6_holdsPair 37 = .ok (.iload 5, 2) := by decide +kernel
theorem dX6_holdsPair_39 : decode cX6_holdsPair 39 = .ok (.caload, 1) := by decide +kernel
theorem dX6_holdsPair_40 : decode cX6_holdsPair 40 = .ok (.iload_n 1, 1) := by decide +kernel
theorem dX6_holdsPair_41 : decode cX6_holdsPair 41 = .ok (.if_icmp .eq 12, 3) := by decide +kernel
theorem dX6_holdsPair_44 : decode cX6_holdsPair 44 = .ok (.iload 4, 2) := by decide +kernel
theorem dX6_holdsPair_46 : decode cX6_holdsPair 46 = .ok (.ifCond .eq 11, 3) := by decide +kernel
theorem dX6_holdsPair_49 : decode cX6_holdsPair 49 = .ok (.iload_n 3, 1) := by decide +kernel
theorem dX6_holdsPair_50 : decode cX6_holdsPair 50 = .ok (.ifCond .ne 7, 3) := by decide +kernel
theorem dX6_holdsPair_53 : decode cX6_holdsPair 53 = .ok (.iconst 1, 1) := by decide +kernel
theorem dX6_holdsPair_54 : decode cX6_holdsPair 54 = .ok (.goto 4, 3) := by decide +kernel
theorem dX6_holdsPair_57 : decode cX6_holdsPair 57 = .ok (.iconst 0, 1) := by decide +kernel
theorem dX6_holdsPair_58 : decode cX6_holdsPair 58 = .ok (.istore 4, 2) := by decide +kernel
theorem dX6_holdsPair_60 : decode cX6_holdsPair 60 = .ok (.iinc 5 1, 3) := by decide +kernel
theorem dX6_holdsPair_63 : decode cX6_holdsPair 63 = .ok (.goto (-57), 3) := by decide +kernel
theorem dX6_holdsPair_66 : decode cX6_holdsPair 66 = .ok (.iconst 0, 1) := by decide +kernel
theorem dX6_holdsPair_67 : decode cX6_holdsPair 67 = .ok (.ireturn, 1) := by decide +kernel
theorem dX7_init_0 : decode cX7_init 0 = .ok (.aload_n 0, 1) := by decide +kernel
theorem dX7_init_1 : decode cX7_init 1 = .ok (.invokespecial 3, 3) := by decide +kernel
theorem dX7_init_4 : decode cX7_init 4 = .ok (.aload_n 0, 1) := by decide +kernel
theorem dX7_init_5 : decode cX7_init 5 = .ok (.bipush 60, 2) := by decide +kernel
theorem dX7_init_7 : decode cX7_init 7 = .ok (.newarray .int, 2) := by decide +kernel
theorem dX7_init_9 : decode cX7_init 9 = .ok (.putfield 9, 3) := by decide +kernel
theorem dX7_init_12 : decode cX7_init 12 = .ok (.aload_n 0, 1) := by decide +kernel
theorem dX7_init_13 : decode cX7_init 13 = .ok (.bipush 60, 2) := by decide +kernel
theorem dX7_init_15 : decode cX7_init 15 = .ok (.newarray .boolean, 2) := by decide +kernel
theorem dX7_init_17 : decode cX7_init 17 = .ok (.putfield 15, 3) := by decide +kernel
theorem dX7_init_20 : decode cX7_init 20 = .ok (.aload_n 0, 1) := by decide +kernel
theorem dX7_init_21 : decode cX7_init 21 = .ok (.bipush 60, 2) := by decide +kernel
theorem dX7_init_23 : decode cX7_init 23 = .ok (.newarray .int, 2) := by decide +kernel
theorem dX7_init_25 : decode cX7_init 25 = .ok (.putfield 19, 3) := by decide +kernel
theorem dX7_init_28 : decode cX7_init 28 = .ok (.aload_n 0, 1) := by decide +kernel
theorem dX7_init_29 : decode cX7_init 29 = .ok (.bipush 60, 2) := by decide +kernel
theorem dX7_init_31 : decode cX7_init 31 = .ok (.newarray .int, 2) := by decide +kernel
theorem dX7_init_33 : decode cX7_init 33 = .ok (.putfield 22, 3) := by decide +kernel
theorem dX7_init_36 : decode cX7_init 36 = .ok (.aload_n 0, 1) := by decide +kernel
theorem dX7_init_37 : decode cX7_init 37 = .ok (.bipush 60, 2) := by decide +kernel
theorem dX7_init_39 : decode cX7_init 39 = .ok (.newarray .int, 2) := by decide +kernel
theorem dX7_init_41 : decode cX7_init 41 = .ok (.putfield 25, 3) := by decide +kernel
theorem dX7_init_44 : decode cX7_init 44 = .ok (.aload_n 0, 1) := by decide +kernel
theorem dX7_init_45 : decode cX7_init 45 = .ok (.bipush 60, 2) := by decide +kernel
theorem dX7_init_47 : decode cX7_init 47 = .ok (.newarray .int, 2) := by decide +kernel
theorem dX7_init_49 : decode cX7_init 49 = .ok (.putfield 28, 3) := by decide +kernel
theorem dX7_init_52 : decode cX7_init 52 = .ok (.aload_n 0, 1) := by decide +kernel
theorem dX7_init_53 : decode cX7_init 53 = .ok (.aload_n 1, 1) := by decide +kernel
theorem dX7_init_54 : decode cX7_init 54 = .ok (.putfield 31, 3) := by decide +kernel
theorem dX7_init_57 : decode cX7_init 57 = .ok (.aload_n 0, 1) := by decide +kernel
theorem dX7_init_58 : decode cX7_init 58 = .ok (.aload_n 2, 1) := by decide +kernel
theorem dX7_init_59 : decode cX7_init 59 = .ok (.putfield 35, 3) := by decide +kernel
theorem dX7_init_62 : decode cX7_init 62 = .ok (.return_, 1) := by decide +kernel
theorem dX7_build_0 : decode cX7_build 0 = .ok (.aload_n 0, 1) := by decide +kernel
theorem dX7_build_1 : decode cX7_build 1 = .ok (.iconst 0, 1) := by decide +kernel
theorem dX7_build_2 : decode cX7_build 2 = .ok (.putfield 39, 3) := by decide +kernel
theorem dX7_build_5 : decode cX7_build 5 = .ok (.aload_n 0, 1) := by decide +kernel
theorem dX7_build_6 : decode cX7_build 6 = .ok (.getfield 35, 3) := by decide +kernel
theorem dX7_build_9 : decode cX7_build 9 = .ok (.aload_n 1, 1) := by decide +kernel
theorem dX7_build_10 : decode cX7_build 10 = .ok (.invokevirtual 43, 3) := by decide +kernel
theorem dX7_build_13 : decode cX7_build 13 = .ok (.ifCond .ne 5, 3) := by decide +kernel
theorem dX7_build_16 : decode cX7_build 16 = .ok (.iconst 0, 1) := by decide +kernel
theorem dX7_build_17 : decode cX7_build 17 = .ok (.ireturn, 1) := by decide +kernel
theorem dX7_build_18 : decode cX7_build 18 = .ok (.aload_n 0, 1) := by decide +kernel
theorem dX7_build_19 : decode cX7_build 19 = .ok (.aload_n 1, 1) := by decide +kernel
theorem dX7_build_20 : decode cX7_build 20 = .ok (.getfield 49, 3) := by decide +kernel
theorem dX7_build_23 : decode cX7_build 23 = .ok (.putfield 52, 3) := by decide +kernel
theorem dX7_build_26 : decode cX7_build 26 = .ok (.aload_n 0, 1) := by decide +kernel
theorem dX7_build_27 : decode cX7_build 27 = .ok (.getfield 9, 3) := by decide +kernel
theorem dX7_build_30 : decode cX7_build 30 = .ok (.iconst 0, 1) := by decide +kernel
theorem dX7_build_31 : decode cX7_build 31 = .ok (.aload_n 0, 1) := by decide +kernel
theorem dX7_build_32 : decode cX7_build 32 = .ok (.getfield 31, 3) := by decide +kernel
theorem dX7_build_35 : decode cX7_build 35 = .ok (.getfield 55, 3) := by decide +kernel
theorem dX7_build_38 : decode cX7_build 38 = .ok (.iastore, 1) := by decide +kernel
theorem dX7_build_39 : decode cX7_build 39 = .ok (.aload_n 0, 1) := by decide +kernel
theorem dX7_build_40 : decode cX7_build 40 = .ok (.getfield 15, 3) := by decide +kernel
theorem dX7_build_43 : decode cX7_build 43 = .ok (.iconst 0, 1) := by decide +kernel
theorem dX7_build_44 : decode cX7_build 44 = .ok (.iconst 0, 1) := by decide +kernel
theorem dX7_build_45 : decode cX7_build 45 = .ok (.bastore, 1) := by decide +kernel
theorem dX7_build_46 : decode cX7_build 46 = .ok (.aload_n 0, 1) := by decide +kernel
theorem dX7_build_47 : decode cX7_build 47 = .ok (.getfield 19, 3) := by decide +kernel
theorem dX7_build_50 : decode cX7_build 50 = .ok (.iconst 0, 1) := by decide +kernel
theorem dX7_build_51 : decode cX7_build 51 = .ok (.iconst 0, 1) := by decide +kernel
theorem dX7_build_52 : decode cX7_build 52 = .ok (.iastore, 1) := by decide +kernel
theorem dX7_build_53 : decode cX7_build 53 = .ok (.aload_n 0, 1) := by decide +kernel
theorem dX7_build_54 : decode cX7_build 54 = .ok (.getfield 22, 3) := by decide +kernel
theorem dX7_build_57 : decode cX7_build 57 = .ok (.iconst 0, 1) := by decide +kernel
theorem dX7_build_58 : decode cX7_build 58 = .ok (.aload_n 0, 1) := by decide +kernel
theorem dX7_build_59 : decode cX7_build 59 = .ok (.getfield 52, 3) := by decide +kernel
theorem dX7_build_62 : decode cX7_build 62 = .ok (.iastore, 1) := by decide +kernel
theorem dX7_build_63 : decode cX7_build 63 = .ok (.aload_n 0, 1) := by decide +kernel
theorem dX7_build_64 : decode cX7_build 64 = .ok (.getfield 25, 3) := by decide +kernel
theorem dX7_build_67 : decode cX7_build 67 = .ok (.iconst 0, 1) := by decide +kernel
theorem dX7_build_68 : decode cX7_build 68 = .ok (.iconst 0, 1) := by decide +kernel
theorem dX7_build_69 : decode cX7_build 69 = .ok (.iastore, 1) := by decide +kernel
theorem dX7_build_70 : decode cX7_build 70 = .ok (.aload_n 0, 1) := by decide +kernel
theorem dX7_build_71 : decode cX7_build 71 = .ok (.getfield 28, 3) := by decide +kernel
theorem dX7_build_74 : decode cX7_build 74 = .ok (.iconst 0, 1) := by decide +kernel
theorem dX7_build_75 : decode cX7_build 75 = .ok (.iconst (-1), 1) := by decide +kernel
theorem dX7_build_76 : decode cX7_build 76 = .ok (.iastore, 1) := by decide +kernel
theorem dX7_build_77 : decode cX7_build 77 = .ok (.aload_n 0, 1) := by decide +kernel
theorem dX7_build_78 : decode cX7_build 78 = .ok (.iconst 1, 1) := by decide +kernel
theorem dX7_build_79 : decode cX7_build 79 = .ok (.putfield 39, 3) := by decide +kernel
theorem dX7_build_82 : decode cX7_build 82 = .ok (.aload_n 0, 1) := by decide +kernel
theorem dX7_build_83 : decode cX7_build 83 = .ok (.iconst 0, 1) := by decide +kernel
theorem dX7_build_84 : decode cX7_build 84 = .ok (.iconst 1, 1) := by decide +kernel
theorem dX7_build_85 : decode cX7_build 85 = .ok (.invokestatic 60, 3) := by decide +kernel
theorem dX7_build_88 : decode cX7_build 88 = .ok (.iconst 1, 1) := by decide +kernel
theorem dX7_build_89 : decode cX7_build 89 = .ok (.ireturn, 1) := by decide +kernel
theorem dX7_told_0 : decode cX7_told 0 = .ok (.sipush 10000, 3) := by decide +kernel
theorem dX7_told_3 : decode cX7_told 3 = .ok (.aload_n 0, 1) := by decide +kernel
theorem dX7_told_4 : decode cX7_told 4 = .ok (.getfield 9, 3) := by decide +kernel
theorem dX7_told_7 : decode cX7_told 7 = .ok (.iload_n 1, 1) := by decide +kernel
theorem dX7_told_8 : decode cX7_told 8 = .ok (.iaload, 1) := by decide +kernel
theorem dX7_told_9 : decode cX7_told 9 = .ok (.imul, 1) := by decide +kernel
theorem dX7_told_10 : decode cX7_told 10 = .ok (.aload_n 0, 1) := by decide +kernel
theorem dX7_told_11 : decode cX7_told 11 = .ok (.getfield 15, 3) := by decide +kernel
theorem dX7_told_14 : decode cX7_told 14 = .ok (.iload_n 1, 1) := by decide +kernel
theorem dX7_told_15 : decode cX7_told 15 = .ok (.baload, 1) := by decide +kernel
theorem dX7_told_16 : decode cX7_told 16 = .ok (.ifCond .eq 9, 3) := by decide +kernel
theorem dX7_told_19 : decode cX7_told 19 = .ok (.sipush 5000, 3) := by decide +kernel
theorem dX7_told_22 : decode cX7_told 22 = .ok (.goto 4, 3) := by decide +kernel
theorem dX7_told_25 : decode cX7_told 25 = .ok (.iconst 0, 1) := by decide +kernel
theorem dX7_told_26 : decode cX7_told 26 = .ok (.iadd, 1) := by decide +kernel
theorem dX7_told_27 : decode cX7_told 27 = .ok (.bipush 40, 2) := by decide +kernel
theorem dX7_told_29 : decode cX7_told 29 = .ok (.aload_n 0, 1) := by decide +kernel
theorem dX7_told_30 : decode cX7_told 30 = .ok (.getfield 19, 3) := by decide +kernel
theorem dX7_told_33 : decode cX7_told 33 = .ok (.iload_n 1, 1) := by decide +kernel
theorem dX7_told_34 : decode cX7_told 34 = .ok (.iaload, 1) := by decide +kernel
theorem dX7_told_35 : decode cX7_told 35 = .ok (.imul, 1) := by decide +kernel
theorem dX7_told_36 : decode cX7_told 36 = .ok (.iadd, 1) := by decide +kernel
theorem dX7_told_37 : decode cX7_told 37 = .ok (.aload_n 0, 1) := by decide +kernel
theorem dX7_told_38 : decode cX7_told 38 = .ok (.getfield 22, 3) := by decide +kernel
theorem dX7_told_41 : decode cX7_told 41 = .ok (.iload_n 1, 1) := by decide +kernel
theorem dX7_told_42 : decode cX7_told 42 = .ok (.iaload, 1) := by decide +kernel
theorem dX7_told_43 : decode cX7_told 43 = .ok (.iadd, 1) := by decide +kernel
theorem dX7_told_44 : decode cX7_told 44 = .ok (.ireturn, 1) := by decide +kernel
theorem dX7_deepest_0 : decode cX7_deepest 0 = .ok (.iconst 0, 1) := by decide +kernel
theorem dX7_deepest_1 : decode cX7_deepest 1 = .ok (.istore_n 1, 1) := by decide +kernel
theorem dX7_deepest_2 : decode cX7_deepest 2 = .ok (.iconst 0, 1) := by decide +kernel
theorem dX7_deepest_3 : decode cX7_deepest 3 = .ok (.istore_n 2, 1) := by decide +kernel
theorem dX7_deepest_4 : decode cX7_deepest 4 = .ok (.iload_n 2, 1) := by decide +kernel
theorem dX7_deepest_5 : decode cX7_deepest 5 = .ok (.aload_n 0, 1) := by decide +kernel
theorem dX7_deepest_6 : decode cX7_deepest 6 = .ok (.getfield 39, 3) := by decide +kernel
theorem dX7_deepest_9 : decode cX7_deepest 9 = .ok (.if_icmp .ge 20, 3) := by decide +kernel
theorem dX7_deepest_12 : decode cX7_deepest 12 = .ok (.iload_n 1, 1) := by decide +kernel
theorem dX7_deepest_13 : decode cX7_deepest 13 = .ok (.aload_n 0, 1) := by decide +kernel
theorem dX7_deepest_14 : decode cX7_deepest 14 = .ok (.getfield 25, 3) := by decide +kernel
theorem dX7_deepest_17 : decode cX7_deepest 17 = .ok (.iload_n 2, 1) := by decide +kernel
theorem dX7_deepest_18 : decode cX7_deepest 18 = .ok (.iaload, 1) := by decide +kernel
theorem dX7_deepest_19 : decode cX7_deepest 19 = .ok (.invokestatic 64, 3) := by decide +kernel
theorem dX7_deepest_22 : decode cX7_deepest 22 = .ok (.istore_n 1, 1) := by decide +kernel
theorem dX7_deepest_23 : decode cX7_deepest 23 = .ok (.iinc 2 1, 3) := by decide +kernel
theorem dX7_deepest_26 : decode cX7_deepest 26 = .ok (.goto (-22), 3) := by decide +kernel
theorem dX7_deepest_29 : decode cX7_deepest 29 = .ok (.iload_n 1, 1) := by decide +kernel
theorem dX7_deepest_30 : decode cX7_deepest 30 = .ok (.ireturn, 1) := by decide +kernel
theorem dX7_grow_0 : decode cX7_grow 0 = .ok (.iload_n 2, 1) := by decide +kernel
theorem dX7_grow_1 : decode cX7_grow 1 = .ok (.bipush 60, 2) := by decide +kernel
theorem dX7_grow_3 : decode cX7_grow 3 = .ok (.if_icmp .lt 4, 3) := by decide +kernel
theorem dX7_grow_6 : decode cX7_grow 6 = .ok (.return_, 1) := by decide +kernel
theorem dX7_grow_7 : decode cX7_grow 7 = .ok (.aload_n 0, 1) := by decide +kernel
theorem dX7_grow_8 : decode cX7_grow 8 = .ok (.getfield 31, 3) := by decide +kernel
theorem dX7_grow_11 : decode cX7_grow 11 = .ok (.astore_n 3, 1) := by decide +kernel
theorem dX7_grow_12 : decode cX7_grow 12 = .ok (.aload_n 0, 1) := by decide +kernel
theorem dX7_grow_13 : decode cX7_grow 13 = .ok (.getfield 35, 3) := by decide +kernel
theorem dX7_grow_16 : decode cX7_grow 16 = .ok (.astore 4, 2) := by decide +kernel
theorem dX7_grow_18 : decode cX7_grow 18 = .ok (.aload_n 0, 1) := by decide +kernel
theorem dX7_grow_19 : decode cX7_grow 19 = .ok (.getfield 52, 3) := by decide +kernel
theorem dX7_grow_22 : decode cX7_grow 22 = .ok (.aload_n 0, 1) := by decide +kernel
theorem dX7_grow_23 : decode cX7_grow 23 = .ok (.getfield 19, 3) := by decide +kernel
theorem dX7_grow_26 : decode cX7_grow 26 = .ok (.iload_n 1, 1) := by decide +kernel
theorem dX7_grow_27 : decode cX7_grow 27 = .ok (.iaload, 1) := by decide +kernel
theorem dX7_grow_28 : decode cX7_grow 28 = .ok (.isub, 1) := by decide +kernel
theorem dX7_grow_29 : decode cX7_grow 29 = .ok (.istore 5, 2) := by decide +kernel
theorem dX7_grow_31 : decode cX7_grow 31 = .ok (.aload 4, 2) := by decide +kernel
theorem dX7_grow_33 : decode cX7_grow 33 = .ok (.aload_n 0, 1) := by decide +kernel
theorem dX7_grow_34 : decode cX7_grow 34 = .ok (.getfield 9, 3) := by decide +kernel
theorem dX7_grow_37 : decode cX7_grow 37 = .ok (.iload_n 1, 1) := by decide +kernel
theorem dX7_grow_38 : decode cX7_grow 38 = .ok (.iaload, 1) := by decide +kernel
theorem dX7_grow_39 : decode cX7_grow 39 = .ok (.iload 5, 2) := by decide +kernel
theorem dX7_grow_41 : decode cX7_grow 41 = .ok (.invokevirtual 70, 3) := by decide +kernel
theorem dX7_grow_44 : decode cX7_grow 44 = .ok (.istore 6, 2) := by decide +kernel
theorem dX7_grow_46 : decode cX7_grow 46 = .ok (.aload_n 3, 1) := by decide +kernel
theorem dX7_grow_47 : decode cX7_grow 47 = .ok (.iload 6, 2) := by decide +kernel
theorem dX7_grow_49 : decode cX7_grow 49 = .ok (.invokevirtual 73, 3) := by decide +kernel
theorem dX7_grow_52 : decode cX7_grow 52 = .ok (.istore 7, 2) := by decide +kernel
theorem dX7_grow_54 : decode cX7_grow 54 = .ok (.iload 7, 2) := by decide +kernel
theorem dX7_grow_56 : decode cX7_grow 56 = .ok (.aload_n 3, 1) := by decide +kernel
theorem dX7_grow_57 : decode cX7_grow 57 = .ok (.iload 6, 2) := by decide +kernel
theorem dX7_grow_59 : decode cX7_grow 59 = .ok (.invokevirtual 77, 3) := by decide +kernel
theorem dX7_grow_62 : decode cX7_grow 62 = .ok (.if_icmp .ge 120, 3) := by decide +kernel
theorem dX7_grow_65 : decode cX7_grow 65 = .ok (.aload 4, 2) := by decide +kernel
theorem dX7_grow_67 : decode cX7_grow 67 = .ok (.iload 7, 2) := by decide +kernel
theorem dX7_grow_69 : decode cX7_grow 69 = .ok (.iconst 0, 1) := by decide +kernel
theorem dX7_grow_70 : decode cX7_grow 70 = .ok (.iload 5, 2) := by decide +kernel
theorem dX7_grow_72 : decode cX7_grow 72 = .ok (.invokevirtual 80, 3) := by decide +kernel
theorem dX7_grow_75 : decode cX7_grow 75 = .ok (.istore 8, 2) := by decide +kernel
theorem dX7_grow_77 : decode cX7_grow 77 = .ok (.iconst 1, 1) := by decide +kernel
theorem dX7_grow_78 : decode cX7_grow 78 = .ok (.istore 9, 2) := by decide +kernel
theorem dX7_grow_80 : decode cX7_grow 80 = .ok (.iload 8, 2) := by decide +kernel
theorem dX7_grow_82 : decode cX7_grow 82 = .ok (.ifCond .lt 94, 3) := by decide +kernel
theorem dX7_grow_85 : decode cX7_grow 85 = .ok (.iload 9, 2) := by decide +kernel
theorem dX7_grow_87 : decode cX7_grow 87 = .ok (.bipush 33, 2) := by decide +kernel
theorem dX7_grow_89 : decode cX7_grow 89 = .ok (.if_icmp .gt 87, 3) := by decide +kernel
theorem dX7_grow_92 : decode cX7_grow 92 = .ok (.aload_n 0, 1) := by decide +kernel
theorem dX7_grow_93 : decode cX7_grow 93 = .ok (.iload 7, 2) := by decide +kernel
theorem dX7_grow_95 : decode cX7_grow 95 = .ok (.iload_n 1, 1) := by decide +kernel
theorem dX7_grow_96 : decode cX7_grow 96 = .ok (.iload 5, 2) := by decide +kernel
theorem dX7_grow_98 : decode cX7_grow 98 = .ok (.iload 8, 2) := by decide +kernel
theorem dX7_grow_100 : decode cX7_grow 100 = .ok (.invokevirtual 84, 3) := by decide +kernel
theorem dX7_grow_103 : decode cX7_grow 103 = .ok (.istore 10, 2) := by decide +kernel
theorem dX7_grow_105 : decode cX7_grow 105 = .ok (.iload 10, 2) := by decide +kernel
theorem dX7_grow_107 : decode cX7_grow 107 = .ok (.ifCond .lt 20, 3) := by decide +kernel
theorem dX7_grow_110 : decode cX7_grow 110 = .ok (.aload_n 0, 1) := by decide +kernel
theorem dX7_grow_111 : decode cX7_grow 111 = .ok (.getfield 15, 3) := by decide +kernel
theorem dX7_grow_114 : decode cX7_grow 114 = .ok (.iload 10, 2) := by decide +kernel
theorem dX7_grow_116 : decode cX7_grow 116 = .ok (.aload_n 0, 1) := by decide +kernel
theorem dX7_grow_117 : decode cX7_grow 117 = .ok (.iload 7, 2) := by decide +kernel
theorem dX7_grow_119 : decode cX7_grow 119 = .ok (.iload 9, 2) := by decide +kernel
theorem dX7_grow_121 : decode cX7_grow 121 = .ok (.iload 8, 2) := by decide +kernel
theorem dX7_grow_123 : decode cX7_grow 123 = .ok (.invokevirtual 88, 3) := by decide +kernel
theorem dX7_grow_126 : decode cX7_grow 126 = .ok (.bastore, 1) := by decide +kernel
theorem dX7_grow_127 : decode cX7_grow 127 = .ok (.iload 10, 2) := by decide +kernel
theorem dX7_grow_129 : decode cX7_grow 129 = .ok (.ifCond .lt 24, 3) := by decide +kernel
theorem dX7_grow_132 : decode cX7_grow 132 = .ok (.aload_n 0, 1) := by decide +kernel
theorem dX7_grow_133 : decode cX7_grow 133 = .ok (.getfield 9, 3) := by decide +kernel
theorem dX7_grow_136 : decode cX7_grow 136 = .ok (.iload 10, 2) := by decide +kernel
theorem dX7_grow_138 : decode cX7_grow 138 = .ok (.iaload, 1) := by decide +kernel
theorem dX7_grow_139 : decode cX7_grow 139 = .ok (.bipush 6, 2) := by decide +kernel
theorem dX7_grow_141 : decode cX7_grow 141 = .ok (.if_icmp .ge 12, 3) := by decide +kernel
theorem dX7_grow_144 : decode cX7_grow 144 = .ok (.aload_n 0, 1) := by decide +kernel
theorem dX7_grow_145 : decode cX7_grow 145 = .ok (.iload 10, 2) := by decide +kernel
theorem dX7_grow_147 : decode cX7_grow 147 = .ok (.iload_n 2, 1) := by decide +kernel
theorem dX7_grow_148 : decode cX7_grow 148 = .ok (.iconst 1, 1) := by decide +kernel
theorem dX7_grow_149 : decode cX7_grow 149 = .ok (.iadd, 1) := by decide +kernel
theorem dX7_grow_150 : decode cX7_grow 150 = .ok (.invokestatic 60, 3) := by decide +kernel
theorem dX7_grow_153 : decode cX7_grow 153 = .ok (.iload 8, 2) := by decide +kernel
theorem dX7_grow_155 : decode cX7_grow 155 = .ok (.istore 5, 2) := by decide +kernel
theorem dX7_grow_157 : decode cX7_grow 157 = .ok (.aload 4, 2) := by decide +kernel
theorem dX7_grow_159 : decode cX7_grow 159 = .ok (.iload 7, 2) := by decide +kernel
theorem dX7_grow_161 : decode cX7_grow 161 = .ok (.iload 9, 2) := by decide +kernel
theorem dX7_grow_163 : decode cX7_grow 163 = .ok (.iload 5, 2) := by decide +kernel
theorem dX7_grow_165 : decode cX7_grow 165 = .ok (.invokevirtual 80, 3) := by decide +kernel
theorem dX7_grow_168 : decode cX7_grow 168 = .ok (.istore 8, 2) := by decide +kernel
theorem dX7_grow_170 : decode cX7_grow 170 = .ok (.iinc 9 1, 3) := by decide +kernel
theorem dX7_grow_173 : decode cX7_grow 173 = .ok (.goto (-93), 3) := by decide +kernel
theorem dX7_grow_176 : decode cX7_grow 176 = .ok (.iinc 7 1, 3) := by decide +kernel
theorem dX7_grow_179 : decode cX7_grow 179 = .ok (.goto (-125), 3) := by decide +kernel
theorem dX7_grow_182 : decode cX7_grow 182 = .ok (.return_, 1) := by decide +kernel
theorem dX7_put_0 : decode cX7_put 0 = .ok (.aload_n 0, 1) := by decide +kernel
theorem dX7_put_1 : decode cX7_put 1 = .ok (.getfield 31, 3) := by decide +kernel
theorem dX7_put_4 : decode cX7_put 4 = .ok (.iload_n 1, 1) := by decide +kernel
theorem dX7_put_5 : decode cX7_put 5 = .ok (.invokevirtual 92, 3) := by decide +kernel
theorem dX7_put_8 : decode cX7_put 8 = .ok (.istore 5, 2) := by decide +kernel
theorem dX7_put_10 : decode cX7_put 10 = .ok (.iload 5, 2) := by decide +kernel
theorem dX7_put_12 : decode cX7_put 12 = .ok (.bipush 6, 2) := by decide +kernel
theorem dX7_put_14 : decode cX7_put 14 = .ok (.if_icmp .ne 14, 3) := by decide +kernel
theorem dX7_put_17 : decode cX7_put 17 = .ok (.aload_n 0, 1) := by decide +kernel
theorem dX7_put_18 : decode cX7_put 18 = .ok (.getfield 31, 3) := by decide +kernel
theorem dX7_put_21 : decode cX7_put 21 = .ok (.iload_n 1, 1) := by decide +kernel
theorem dX7_put_22 : decode cX7_put 22 = .ok (.invokevirtual 95, 3) := by decide +kernel
theorem dX7_put_25 : decode cX7_put 25 = .ok (.ifCond .eq 12, 3) := by decide +kernel
theorem dX7_put_28 : decode cX7_put 28 = .ok (.aload_n 0, 1) := by decide +kernel
theorem dX7_put_29 : decode cX7_put 29 = .ok (.getfield 39, 3) := by decide +kernel
theorem dX7_put_32 : decode cX7_put 32 = .ok (.bipush 60, 2) := by decide +kernel
theorem dX7_put_34 : decode cX7_put 34 = .ok (.if_icmp .lt 5, 3) := by decide +kernel
theorem dX7_put_37 : decode cX7_put 37 = .ok (.iconst (-1), 1) := by decide +kernel
theorem dX7_put_38 : decode cX7_put 38 = .ok (.ireturn, 1) := by decide +kernel
theorem dX7_put_39 : decode cX7_put 39 = .ok (.aload_n 0, 1) := by decide +kernel
theorem dX7_put_40 : decode cX7_put 40 = .ok (.getfield 39, 3) := by decide +kernel
theorem dX7_put_43 : decode cX7_put 43 = .ok (.istore 6, 2) := by decide +kernel
theorem dX7_put_45 : decode cX7_put 45 = .ok (.aload_n 0, 1) := by decide +kernel
theorem dX7_put_46 : decode cX7_put 46 = .ok (.getfield 9, 3) := by decide +kernel
theorem dX7_put_49 : decode cX7_put 49 = .ok (.iload 6, 2) := by decide +kernel
theorem dX7_put_51 : decode cX7_put 51 = .ok (.iload 5, 2) := by decide +kernel
theorem dX7_put_53 : decode cX7_put 53 = .ok (.iastore, 1) := by decide +kernel
theorem dX7_put_54 : decode cX7_put 54 = .ok (.aload_n 0, 1) := by decide +kernel
theorem dX7_put_55 : decode cX7_put 55 = .ok (.getfield 19, 3) := by decide +kernel
theorem dX7_put_58 : decode cX7_put 58 = .ok (.iload 6, 2) := by decide +kernel
theorem dX7_put_60 : decode cX7_put 60 = .ok (.aload_n 0, 1) := by decide +kernel
theorem dX7_put_61 : decode cX7_put 61 = .ok (.getfield 52, 3) := by decide +kernel
theorem dX7_put_64 : decode cX7_put 64 = .ok (.iload_n 3, 1) := by decide +kernel
theorem dX7_put_65 : decode cX7_put 65 = .ok (.isub, 1) := by decide +kernel
theorem dX7_put_66 : decode cX7_put 66 = .ok (.iastore, 1) := by decide +kernel
theorem dX7_put_67 : decode cX7_put 67 = .ok (.aload_n 0, 1) := by decide +kernel
theorem dX7_put_68 : decode cX7_put 68 = .ok (.getfield 22, 3) := by decide +kernel
theorem dX7_put_71 : decode cX7_put 71 = .ok (.iload 6, 2) := by decide +kernel
theorem dX7_put_73 : decode cX7_put 73 = .ok (.iload_n 3, 1) := by decide +kernel
theorem dX7_put_74 : decode cX7_put 74 = .ok (.iload 4, 2) := by decide +kernel
theorem dX7_put_76 : decode cX7_put 76 = .ok (.isub, 1) := by decide +kernel
theorem dX7_put_77 : decode cX7_put 77 = .ok (.iastore, 1) := by decide +kernel
theorem dX7_put_78 : decode cX7_put 78 = .ok (.aload_n 0, 1) := by decide +kernel
theorem dX7_put_79 : decode cX7_put 79 = .ok (.getfield 25, 3) := by decide +kernel
theorem dX7_put_82 : decode cX7_put 82 = .ok (.iload 6, 2) := by decide +kernel
theorem dX7_put_84 : decode cX7_put 84 = .ok (.aload_n 0, 1) := by decide +kernel
theorem dX7_put_85 : decode cX7_put 85 = .ok (.getfield 25, 3) := by decide +kernel
theorem dX7_put_88 : decode cX7_put 88 = .ok (.iload_n 2, 1) := by decide +kernel
theorem dX7_put_89 : decode cX7_put 89 = .ok (.iaload, 1) := by decide +kernel
theorem dX7_put_90 : decode cX7_put 90 = .ok (.iconst 1, 1) := by decide +kernel
theorem dX7_put_91 : decode cX7_put 91 = .ok (.iadd, 1) := by decide +kernel
theorem dX7_put_92 : decode cX7_put 92 = .ok (.iastore, 1) := by decide +kernel
theorem dX7_put_93 : decode cX7_put 93 = .ok (.aload_n 0, 1) := by decide +kernel
theorem dX7_put_94 : decode cX7_put 94 = .ok (.getfield 28, 3) := by decide +kernel
theorem dX7_put_97 : decode cX7_put 97 = .ok (.iload 6, 2) := by decide +kernel
theorem dX7_put_99 : decode cX7_put 99 = .ok (.iload_n 2, 1) := by decide +kernel
theorem dX7_put_100 : decode cX7_put 100 = .ok (.iastore, 1) := by decide +kernel
theorem dX7_put_101 : decode cX7_put 101 = .ok (.aload_n 0, 1) := by decide +kernel
theorem dX7_put_102 : decode cX7_put 102 = .ok (.dup, 1) := by decide +kernel
theorem dX7_put_103 : decode cX7_put 103 = .ok (.getfield 39, 3) := by decide +kernel
theorem dX7_put_106 : decode cX7_put 106 = .ok (.iconst 1, 1) := by decide +kernel
theorem dX7_put_107 : decode cX7_put 107 = .ok (.iadd, 1) := by decide +kernel
theorem dX7_put_108 : decode cX7_put 108 = .ok (.putfield 39, 3) := by decide +kernel
theorem dX7_put_111 : decode cX7_put 111 = .ok (.iload 6, 2) := by decide +kernel
theorem dX7_put_113 : decode cX7_put 113 = .ok (.ireturn, 1) := by decide +kernel
theorem dX7_isLoose_0 : decode cX7_isLoose 0 = .ok (.aload_n 0, 1) := by decide +kernel
theorem dX7_isLoose_1 : decode cX7_isLoose 1 = .ok (.getfield 31, 3) := by decide +kernel
theorem dX7_isLoose_4 : decode cX7_isLoose 4 = .ok (.iload_n 1, 1) := by decide +kernel
theorem dX7_isLoose_5 : decode cX7_isLoose 5 = .ok (.invokevirtual 99, 3) := by decide +kernel
theorem dX7_isLoose_8 : decode cX7_isLoose 8 = .ok (.ifCond .eq 5, 3) := by decide +kernel
theorem dX7_isLoose_11 : decode cX7_isLoose 11 = .ok (.iconst 1, 1) := by decide +kernel
theorem dX7_isLoose_12 : decode cX7_isLoose 12 = .ok (.ireturn, 1) := by decide +kernel
theorem dX7_isLoose_13 : decode cX7_isLoose 13 = .ok (.aload_n 0, 1) := by decide +kernel
theorem dX7_isLoose_14 : decode cX7_isLoose 14 = .ok (.getfield 31, 3) := by decide +kernel
theorem dX7_isLoose_17 : decode cX7_isLoose 17 = .ok (.iload_n 1, 1) := by decide +kernel
theorem dX7_isLoose_18 : decode cX7_isLoose 18 = .ok (.invokevirtual 102, 3) := by decide +kernel
theorem dX7_isLoose_21 : decode cX7_isLoose 21 = .ok (.ifCond .eq 25, 3) := by decide +kernel
theorem dX7_isLoose_24 : decode cX7_isLoose 24 = .ok (.iload_n 2, 1) := by decide +kernel
theorem dX7_isLoose_25 : decode cX7_isLoose 25 = .ok (.iconst 1, 1) := by decide +kernel
theorem dX7_isLoose_26 : decode cX7_isLoose 26 = .ok (.if_icmp .gt 16, 3) := by decide +kernel
theorem dX7_isLoose_29 : decode cX7_isLoose 29 = .ok (.aload_n 0, 1) := by decide +kernel
theorem dX7_isLoose_30 : decode cX7_isLoose 30 = .ok (.getfield 35, 3) := by decide +kernel
theorem dX7_isLoose_33 : decode cX7_isLoose 33 = .ok (.iload_n 1, 1) := by decide +kernel
theorem dX7_isLoose_34 : decode cX7_isLoose 34 = .ok (.iload_n 2, 1) := by decide +kernel
theorem dX7_isLoose_35 : decode cX7_isLoose 35 = .ok (.iload_n 3, 1) := by decide +kernel
theorem dX7_isLoose_36 : decode cX7_isLoose 36 = .ok (.invokevirtual 80, 3) := by decide +kernel
theorem dX7_isLoose_39 : decode cX7_isLoose 39 = .ok (.ifCond .lt 7, 3) := by decide +kernel
theorem dX7_isLoose_42 : decode cX7_isLoose 42 = .ok (.iconst 1, 1) := by decide +kernel
theorem dX7_isLoose_43 : decode cX7_isLoose 43 = .ok (.goto 4, 3) := by decide +kernel
theorem dX7_isLoose_46 : decode cX7_isLoose 46 = .ok (.iconst 0, 1) := by decide +kernel
theorem dX7_isLoose_47 : decode cX7_isLoose 47 = .ok (.ireturn, 1) := by decide +kernel
theorem dX8_init_0 : decode cX8_init 0 = .ok (.aload_n 0, 1) := by decide +kernel
theorem dX8_init_1 : decode cX8_init 1 = .ok (.invokespecial 1, 3) := by decide +kernel
theorem dX8_init_4 : decode cX8_init 4 = .ok (.aload_n 0, 1) := by decide +kernel
theorem dX8_init_5 : decode cX8_init 5 = .ok (.new 7, 3) := by decide +kernel
theorem dX8_init_8 : decode cX8_init 8 = .ok (.dup, 1) := by decide +kernel
theorem dX8_init_9 : decode cX8_init 9 = .ok (.invokespecial 9, 3) := by decide +kernel
theorem dX8_init_12 : decode cX8_init 12 = .ok (.putfield 10, 3) := by decide +kernel
theorem dX8_init_15 : decode cX8_init 15 = .ok (.aload_n 0, 1) := by decide +kernel
theorem dX8_init_16 : decode cX8_init 16 = .ok (.bipush 60, 2) := by decide +kernel
theorem dX8_init_18 : decode cX8_init 18 = .ok (.newarray .char, 2) := by decide +kernel
theorem dX8_init_20 : decode cX8_init 20 = .ok (.putfield 16, 3) := by decide +kernel
theorem dX8_init_23 : decode cX8_init 23 = .ok (.aload_n 0, 1) := by decide +kernel
theorem dX8_init_24 : decode cX8_init 24 = .ok (.bipush 6, 2) := by decide +kernel
theorem dX8_init_26 : decode cX8_init 26 = .ok (.anewarray 20, 3) := by decide +kernel
theorem dX8_init_29 : decode cX8_init 29 = .ok (.putfield 22, 3) := by decide +kernel
theorem dX8_init_32 : decode cX8_init 32 = .ok (.aload_n 0, 1) := by decide +kernel
theorem dX8_init_33 : decode cX8_init 33 = .ok (.new 26, 3) := by decide +kernel
theorem dX8_init_36 : decode cX8_init 36 = .ok (.dup, 1) := by decide +kernel
theorem dX8_init_37 : decode cX8_init 37 = .ok (.invokespecial 28, 3) := by decide +kernel
theorem dX8_init_40 : decode cX8_init 40 = .ok (.putfield 29, 3) := by decide +kernel
theorem dX8_init_43 : decode cX8_init 43 = .ok (.aload_n 0, 1) := by decide +kernel
theorem dX8_init_44 : decode cX8_init 44 = .ok (.new 33, 3) := by decide +kernel
theorem dX8_init_47 : decode cX8_init 47 = .ok (.dup, 1) := by decide +kernel
theorem dX8_init_48 : decode cX8_init 48 = .ok (.invokespecial 35, 3) := by decide +kernel
theorem dX8_init_51 : decode cX8_init 51 = .ok (.putfield 36, 3) := by decide +kernel
theorem dX8_init_54 : decode cX8_init 54 = .ok (.aload_n 0, 1) := by decide +kernel
theorem dX8_init_55 : decode cX8_init 55 = .ok (.new 40, 3) := by decide +kernel
theorem dX8_init_58 : decode cX8_init 58 = .ok (.dup, 1) := by decide +kernel
theorem dX8_init_59 : decode cX8_init 59 = .ok (.aload_n 0, 1) := by decide +kernel
theorem dX8_init_60 : decode cX8_init 60 = .ok (.getfield 36, 3) := by decide +kernel
theorem dX8_init_63 : decode cX8_init 63 = .ok (.invokespecial 42, 3) := by decide +kernel
theorem dX8_init_66 : decode cX8_init 66 = .ok (.putfield 45, 3) := by decide +kernel
theorem dX8_init_69 : decode cX8_init 69 = .ok (.aload_n 0, 1) := by decide +kernel
theorem dX8_init_70 : decode cX8_init 70 = .ok (.new 49, 3) := by decide +kernel
theorem dX8_init_73 : decode cX8_init 73 = .ok (.dup, 1) := by decide +kernel
theorem dX8_init_74 : decode cX8_init 74 = .ok (.aload_n 0, 1) := by decide +kernel
theorem dX8_init_75 : decode cX8_init 75 = .ok (.getfield 36, 3) := by decide +kernel
theorem dX8_init_78 : decode cX8_init 78 = .ok (.aload_n 0, 1) := by decide +kernel
theorem dX8_init_79 : decode cX8_init 79 = .ok (.getfield 45, 3) := by decide +kernel
theorem dX8_init_82 : decode cX8_init 82 = .ok (.invokespecial 51, 3) := by decide +kernel
theorem dX8_init_85 : decode cX8_init 85 = .ok (.putfield 54, 3) := by decide +kernel
theorem dX8_init_88 : decode cX8_init 88 = .ok (.aload_n 0, 1) := by decide +kernel
theorem dX8_init_89 : decode cX8_init 89 = .ok (.new 58, 3) := by decide +kernel
theorem dX8_init_92 : decode cX8_init 92 = .ok (.dup, 1) := by decide +kernel
theorem dX8_init_93 : decode cX8_init 93 = .ok (.aload_n 0, 1) := by decide +kernel
theorem dX8_init_94 : decode cX8_init 94 = .ok (.getfield 10, 3) := by decide +kernel
theorem dX8_init_97 : decode cX8_init 97 = .ok (.aload_n 0, 1) := by decide +kernel
theorem dX8_init_98 : decode cX8_init 98 = .ok (.getfield 29, 3) := by decide +kernel
theorem dX8_init_101 : decode cX8_init 101 = .ok (.aload_n 0, 1) := by decide +kernel
theorem dX8_init_102 : decode cX8_init 102 = .ok (.getfield 45, 3) := by decide +kernel
theorem dX8_init_105 : decode cX8_init 105 = .ok (.aload_n 0, 1) := by decide +kernel
theorem dX8_init_106 : decode cX8_init 106 = .ok (.getfield 54, 3) := by decide +kernel
theorem dX8_init_109 : decode cX8_init 109 = .ok (.invokespecial 60, 3) := by decide +kernel
theorem dX8_init_112 : decode cX8_init 112 = .ok (.putfield 63, 3) := by decide +kernel
theorem dX8_init_115 : decode cX8_init 115 = .ok (.return_, 1) := by decide +kernel
theorem dX8_type_0 : decode cX8_type 0 = .ok (.iload_n 1, 1) := by decide +kernel
theorem dX8_type_1 : decode cX8_type 1 = .ok (.invokestatic 67, 3) := by decide +kernel
theorem dX8_type_4 : decode cX8_type 4 = .ok (.ifCond .eq 18, 3) := by decide +kernel
theorem dX8_type_7 : decode cX8_type 7 = .ok (.aload_n 0, 1) := by decide +kernel
theorem dX8_type_8 : decode cX8_type 8 = .ok (.getfield 10, 3) := by decide +kernel
theorem dX8_type_11 : decode cX8_type 11 = .ok (.iload_n 1, 1) := by decide +kernel
theorem dX8_type_12 : decode cX8_type 12 = .ok (.invokevirtual 71, 3) := by decide +kernel
theorem dX8_type_15 : decode cX8_type 15 = .ok (.ifCond .eq 7, 3) := by decide +kernel
theorem dX8_type_18 : decode cX8_type 18 = .ok (.iconst 1, 1) := by decide +kernel
theorem dX8_type_19 : decode cX8_type 19 = .ok (.goto 4, 3) := by decide +kernel
theorem dX8_type_22 : decode cX8_type 22 = .ok (.iconst 0, 1) := by decide +kernel
theorem dX8_type_23 : decode cX8_type 23 = .ok (.ireturn, 1) := by decide +kernel
theorem dX8_clear_0 : decode cX8_clear 0 = .ok (.aload_n 0, 1) := by decide +kernel
theorem dX8_clear_1 : decode cX8_clear 1 = .ok (.getfield 10, 3) := by decide +kernel
theorem dX8_clear_4 : decode cX8_clear 4 = .ok (.iconst 0, 1) := by decide +kernel
theorem dX8_clear_5 : decode cX8_clear 5 = .ok (.putfield 74, 3) := by decide +kernel
theorem dX8_clear_8 : decode cX8_clear 8 = .ok (.return_, 1) := by decide +kernel
theorem dX8_write_0 : decode cX8_write 0 = .ok (.iload_n 1, 1) := by decide +kernel
theorem dX8_write_1 : decode cX8_write 1 = .ok (.invokestatic 78, 3) := by decide +kernel
theorem dX8_write_4 : decode cX8_write 4 = .ok (.ifCond .eq 12, 3) := by decide +kernel
theorem dX8_write_7 : decode cX8_write 7 = .ok (.aload_n 0, 1) := by decide +kernel
theorem dX8_write_8 : decode cX8_write 8 = .ok (.getfield 81, 3) := by decide +kernel
theorem dX8_write_11 : decode cX8_write 11 = .ok (.bipush 60, 2) := by decide +kernel
theorem dX8_write_13 : decode cX8_write 13 = .ok (.if_icmp .lt 5, 3) := by decide +kernel
theorem dX8_write_16 : decode cX8_write 16 = .ok (.iconst 0, 1) := by decide +kernel
theorem dX8_write_17 : decode cX8_write 17 = .ok (.ireturn, 1) := by decide +kernel
theorem dX8_write_18 : decode cX8_write 18 = .ok (.aload_n 0, 1) := by decide +kernel
theorem dX8_write_19 : decode cX8_write 19 = .ok (.getfield 16, 3) := by decide +kernel
theorem dX8_write_22 : decode cX8_write 22 = .ok (.aload_n 0, 1) := by decide +kernel
theorem dX8_write_23 : decode cX8_write 23 = .ok (.getfield 81, 3) := by decide +kernel
theorem dX8_write_26 : decode cX8_write 26 = .ok (.iload_n 1, 1) := by decide +kernel
theorem dX8_write_27 : decode cX8_write 27 = .ok (.castore, 1) := by decide +kernel
theorem dX8_write_28 : decode cX8_write 28 = .ok (.aload_n 0, 1) := by decide +kernel
theorem dX8_write_29 : decode cX8_write 29 = .ok (.dup, 1) := by decide +kernel
theorem dX8_write_30 : decode cX8_write 30 = .ok (.getfield 81, 3) := by decide +kernel
theorem dX8_write_33 : decode cX8_write 33 = .ok (.iconst 1, 1) := by decide +kernel
theorem dX8_write_34 : decode cX8_write 34 = .ok (.iadd, 1) := by decide +kernel
theorem dX8_write_35 : decode cX8_write 35 = .ok (.putfield 81, 3) := by decide +kernel
theorem dX8_write_38 : decode cX8_write 38 = .ok (.iconst 1, 1) := by decide +kernel
theorem dX8_write_39 : decode cX8_write 39 = .ok (.ireturn, 1) := by decide +kernel
theorem dX8_read_0 : decode cX8_read 0 = .ok (.aload_n 0, 1) := by decide +kernel
theorem dX8_read_1 : decode cX8_read 1 = .ok (.getfield 36, 3) := by decide +kernel
theorem dX8_read_4 : decode cX8_read 4 = .ok (.aload_n 0, 1) := by decide +kernel
theorem dX8_read_5 : decode cX8_read 5 = .ok (.getfield 16, 3) := by decide +kernel
theorem dX8_read_8 : decode cX8_read 8 = .ok (.aload_n 0, 1) := by decide +kernel
theorem dX8_read_9 : decode cX8_read 9 = .ok (.getfield 81, 3) := by decide +kernel
theorem dX8_read_12 : decode cX8_read 12 = .ok (.invokevirtual 84, 3) := by decide +kernel
theorem dX8_read_15 : decode cX8_read 15 = .ok (.aload_n 0, 1) := by decide +kernel
theorem dX8_read_16 : decode cX8_read 16 = .ok (.getfield 45, 3) := by decide +kernel
theorem dX8_read_19 : decode cX8_read 19 = .ok (.invokevirtual 88, 3) := by decide +kernel
theorem dX8_read_22 : decode cX8_read 22 = .ok (.aload_n 0, 1) := by decide +kernel
theorem dX8_read_23 : decode cX8_read 23 = .ok (.iconst 0, 1) := by decide +kernel
theorem dX8_read_24 : decode cX8_read 24 = .ok (.putfield 81, 3) := by decide +kernel
theorem dX8_read_27 : decode cX8_read 27 = .ok (.aload_n 0, 1) := by decide +kernel
theorem dX8_read_28 : decode cX8_read 28 = .ok (.getfield 36, 3) := by decide +kernel
theorem dX8_read_31 : decode cX8_read 31 = .ok (.getfield 91, 3) := by decide +kernel
theorem dX8_read_34 : decode cX8_read 34 = .ok (.ifCond .eq 13, 3) := by decide +kernel
theorem dX8_read_37 : decode cX8_read 37 = .ok (.aload_n 0, 1) := by decide +kernel
theorem dX8_read_38 : decode cX8_read 38 = .ok (.getfield 36, 3) := by decide +kernel
theorem dX8_read_41 : decode cX8_read 41 = .ok (.getfield 95, 3) := by decide +kernel
theorem dX8_read_44 : decode cX8_read 44 = .ok (.goto 4, 3) := by decide +kernel
theorem dX8_read_47 : decode cX8_read 47 = .ok (.iconst (-1), 1) := by decide +kernel
theorem dX8_read_48 : decode cX8_read 48 = .ok (.ireturn, 1) := by decide +kernel
theorem dX8_has_0 : decode cX8_has 0 = .ok (.iload_n 1, 1) := by decide +kernel
theorem dX8_has_1 : decode cX8_has 1 = .ok (.invokestatic 67, 3) := by decide +kernel
theorem dX8_has_4 : decode cX8_has 4 = .ok (.ifCond .eq 14, 3) := by decide +kernel
theorem dX8_has_7 : decode cX8_has 7 = .ok (.iload_n 2, 1) := by decide +kernel
theorem dX8_has_8 : decode cX8_has 8 = .ok (.iconst 1, 1) := by decide +kernel
theorem dX8_has_9 : decode cX8_has 9 = .ok (.if_icmp .lt 9, 3) := by decide +kernel
theorem dX8_has_12 : decode cX8_has 12 = .ok (.iload_n 2, 1) := by decide +kernel
theorem dX8_has_13 : decode cX8_has 13 = .ok (.bipush 9, 2) := by decide +kernel
theorem dX8_has_15 : decode cX8_has 15 = .ok (.if_icmp .le 5, 3) := by decide +kernel
theorem dX8_has_18 : decode cX8_has 18 = .ok (.iconst 0, 1) := by decide +kernel
theorem dX8_has_19 : decode cX8_has 19 = .ok (.ireturn, 1) := by decide +kernel
theorem dX8_has_20 : decode cX8_has 20 = .ok (.aload_n 0, 1) := by decide +kernel
theorem dX8_has_21 : decode cX8_has 21 = .ok (.getfield 98, 3) := by decide +kernel
theorem dX8_has_24 : decode cX8_has 24 = .ok (.bipush 6, 2) := by decide +kernel
theorem dX8_has_26 : decode cX8_has 26 = .ok (.if_icmp .ge 25, 3) := by decide +kernel
theorem dX8_has_29 : decode cX8_has 29 = .ok (.aload_n 0, 1) := by decide +kernel
theorem dX8_has_30 : decode cX8_has 30 = .ok (.new 20, 3) := by decide +kernel
theorem dX8_has_33 : decode cX8_has 33 = .ok (.dup, 1) := by decide +kernel
theorem dX8_has_34 : decode cX8_has 34 = .ok (.iconst 0, 1) := by decide +kernel
theorem dX8_has_35 : decode cX8_has 35 = .ok (.iload_n 1, 1) := by decide +kernel
theorem dX8_has_36 : decode cX8_has 36 = .ok (.iload_n 1, 1) := by decide +kernel
theorem dX8_has_37 : decode cX8_has 37 = .ok (.iload_n 2, 1) := by decide +kernel
theorem dX8_has_38 : decode cX8_has 38 = .ok (.invokespecial 101, 3) := by decide +kernel
theorem dX8_has_41 : decode cX8_has 41 = .ok (.invokevirtual 104, 3) := by decide +kernel
theorem dX8_has_44 : decode cX8_has 44 = .ok (.ifCond .eq 7, 3) := by decide +kernel
theorem dX8_has_47 : decode cX8_has 47 = .ok (.iconst 1, 1) := by decide +kernel
theorem dX8_has_48 : decode cX8_has 48 = .ok (.goto 4, 3) := by decide +kernel
theorem dX8_has_51 : decode cX8_has 51 = .ok (.iconst 0, 1) := by decide +kernel
theorem dX8_has_52 : decode cX8_has 52 = .ok (.ireturn, 1) := by decide +kernel
theorem dX8_pair_0 : decode cX8_pair 0 = .ok (.iload_n 1, 1) := by decide +kernel
theorem dX8_pair_1 : decode cX8_pair 1 = .ok (.invokestatic 67, 3) := by decide +kernel
theorem dX8_pair_4 : decode cX8_pair 4 = .ok (.ifCond .eq 10, 3) := by decide +kernel
theorem dX8_pair_7 : decode cX8_pair 7 = .ok (.iload_n 2, 1) := by decide +kernel
theorem dX8_pair_8 : decode cX8_pair 8 = .ok (.invokestatic 67, 3) := by decide +kernel
theorem dX8_pair_11 : decode cX8_pair 11 = .ok (.ifCond .ne 5, 3) := by decide +kernel
theorem dX8_pair_14 : decode cX8_pair 14 = .ok (.iconst 0, 1) := by decide +kernel
theorem dX8_pair_15 : decode cX8_pair 15 = .ok (.ireturn, 1) := by decide +kernel
theorem dX8_pair_16 : decode cX8_pair 16 = .ok (.aload_n 0, 1) := by decide +kernel
theorem dX8_pair_17 : decode cX8_pair 17 = .ok (.getfield 98, 3) := by decide +kernel
theorem dX8_pair_20 : decode cX8_pair 20 = .ok (.bipush 6, 2) := by decide +kernel
theorem dX8_pair_22 : decode cX8_pair 22 = .ok (.if_icmp .ge 33, 3) := by decide +kernel
theorem dX8_pair_25 : decode cX8_pair 25 = .ok (.aload_n 0, 1) := by decide +kernel
theorem dX8_pair_26 : decode cX8_pair 26 = .ok (.new 20, 3) := by decide +kernel
theorem dX8_pair_29 : decode cX8_pair 29 = .ok (.dup, 1) := by decide +kernel
theorem dX8_pair_30 : decode cX8_pair 30 = .ok (.iload_n 3, 1) := by decide +kernel
theorem dX8_pair_31 : decode cX8_pair 31 = .ok (.ifCond .eq 7, 3) := by decide +kernel
theorem dX8_pair_34 : decode cX8_pair 34 = .ok (.iconst 2, 1) := by decide +kernel
theorem dX8_pair_35 : decode cX8_pair 35 = .ok (.goto 4, 3) := by decide +kernel
theorem dX8_pair_38 : decode cX8_pair 38 = .ok (.iconst 1, 1) := by decide +kernel
theorem dX8_pair_39 : decode cX8_pair 39 = .ok (.iload_n 1, 1) := by decide +kernel
theorem dX8_pair_40 : decode cX8_pair 40 = .ok (.iload_n 2, 1) := by decide +kernel
theorem dX8_pair_41 : decode cX8_pair 41 = .ok (.iconst 0, 1) := by decide +kernel
theorem dX8_pair_42 : decode cX8_pair 42 = .ok (.invokespecial 101, 3) := by decide +kernel
theorem dX8_pair_45 : decode cX8_pair 45 = .ok (.invokevirtual 104, 3) := by decide +kernel
theorem dX8_pair_48 : decode cX8_pair 48 = .ok (.ifCond .eq 7, 3) := by decide +kernel
theorem dX8_pair_51 : decode cX8_pair 51 = .ok (.iconst 1, 1) := by decide +kernel
theorem dX8_pair_52 : decode cX8_pair 52 = .ok (.goto 4, 3) := by decide +kernel
theorem dX8_pair_55 : decode cX8_pair 55 = .ok (.iconst 0, 1) := by decide +kernel
theorem dX8_pair_56 : decode cX8_pair 56 = .ok (.ireturn, 1) := by decide +kernel
theorem dX8_size_0 : decode cX8_size 0 = .ok (.iload_n 1, 1) := by decide +kernel
theorem dX8_size_1 : decode cX8_size 1 = .ok (.iconst (-1), 1) := by decide +kernel
theorem dX8_size_2 : decode cX8_size 2 = .ok (.if_icmp .lt 9, 3) := by decide +kernel
theorem dX8_size_5 : decode cX8_size 5 = .ok (.iload_n 1, 1) := by decide +kernel
theorem dX8_size_6 : decode cX8_size 6 = .ok (.bipush 32, 2) := by decide +kernel
theorem dX8_size_8 : decode cX8_size 8 = .ok (.if_icmp .le 5, 3) := by decide +kernel
theorem dX8_size_11 : decode cX8_size 11 = .ok (.iconst 0, 1) := by decide +kernel
theorem dX8_size_12 : decode cX8_size 12 = .ok (.ireturn, 1) := by decide +kernel
theorem dX8_size_13 : decode cX8_size 13 = .ok (.aload_n 0, 1) := by decide +kernel
theorem dX8_size_14 : decode cX8_size 14 = .ok (.getfield 98, 3) := by decide +kernel
theorem dX8_size_17 : decode cX8_size 17 = .ok (.bipush 6, 2) := by decide +kernel
theorem dX8_size_19 : decode cX8_size 19 = .ok (.if_icmp .ge 36, 3) := by decide +kernel
theorem dX8_size_22 : decode cX8_size 22 = .ok (.aload_n 0, 1) := by decide +kernel
theorem dX8_size_23 : decode cX8_size 23 = .ok (.new 20, 3) := by decide +kernel
theorem dX8_size_26 : decode cX8_size 26 = .ok (.dup, 1) := by decide +kernel
theorem dX8_size_27 : decode cX8_size 27 = .ok (.iload_n 1, 1) := by decide +kernel
theorem dX8_size_28 : decode cX8_size 28 = .ok (.iconst (-1), 1) := by decide +kernel
theorem dX8_size_29 : decode cX8_size 29 = .ok (.if_icmp .ne 7, 3) := by decide +kernel
theorem dX8_size_32 : decode cX8_size 32 = .ok (.iconst 4, 1) := by decide +kernel
theorem dX8_size_33 : decode cX8_size 33 = .ok (.goto 4, 3) := by decide +kernel
theorem dX8_size_36 : decode cX8_size 36 = .ok (.iconst 3, 1) := by decide +kernel
theorem dX8_size_37 : decode cX8_size 37 = .ok (.bipush 32, 2) := by decide +kernel
theorem dX8_size_39 : decode cX8_size 39 = .ok (.bipush 32, 2) := by decide +kernel
theorem dX8_size_41 : decode cX8_size 41 = .ok (.iload_n 1, 1) := by decide +kernel
theorem dX8_size_42 : decode cX8_size 42 = .ok (.invokespecial 101, 3) := by decide +kernel
theorem dX8_size_45 : decode cX8_size 45 = .ok (.invokevirtual 104, 3) := by decide +kernel
theorem dX8_size_48 : decode cX8_size 48 = .ok (.ifCond .eq 7, 3) := by decide +kernel
theorem dX8_size_51 : decode cX8_size 51 = .ok (.iconst 1, 1) := by decide +kernel
theorem dX8_size_52 : decode cX8_size 52 = .ok (.goto 4, 3) := by decide +kernel
theorem dX8_size_55 : decode cX8_size 55 = .ok (.iconst 0, 1) := by decide +kernel
theorem dX8_size_56 : decode cX8_size 56 = .ok (.ireturn, 1) := by decide +kernel
theorem dX8_not_0 : decode cX8_not 0 = .ok (.aload_n 0, 1) := by decide +kernel
theorem dX8_not_1 : decode cX8_not 1 = .ok (.getfield 98, 3) := by decide +kernel
theorem dX8_not_4 : decode cX8_not 4 = .ok (.iconst 1, 1) := by decide +kernel
theorem dX8_not_5 : decode cX8_not 5 = .ok (.if_icmp .ge 5, 3) := by decide +kernel
theorem dX8_not_8 : decode cX8_not 8 = .ok (.iconst 0, 1) := by decide +kernel
theorem dX8_not_9 : decode cX8_not 9 = .ok (.ireturn, 1) := by decide +kernel
theorem dX8_not_10 : decode cX8_not 10 = .ok (.aload_n 0, 1) := by decide +kernel
theorem dX8_not_11 : decode cX8_not 11 = .ok (.getfield 22, 3) := by decide +kernel
theorem dX8_not_14 : decode cX8_not 14 = .ok (.aload_n 0, 1) := by decide +kernel
theorem dX8_not_15 : decode cX8_not 15 = .ok (.getfield 98, 3) := by decide +kernel
theorem dX8_not_18 : decode cX8_not 18 = .ok (.iconst 1, 1) := by decide +kernel
theorem dX8_not_19 : decode cX8_not 19 = .ok (.isub, 1) := by decide +kernel
theorem dX8_not_20 : decode cX8_not 20 = .ok (.aaload, 1) := by decide +kernel
theorem dX8_not_21 : decode cX8_not 21 = .ok (.astore_n 1, 1) := by decide +kernel
theorem dX8_not_22 : decode cX8_not 22 = .ok (.aload_n 1, 1) := by decide +kernel
theorem dX8_not_23 : decode cX8_not 23 = .ok (.ifnull 12, 3) := by decide +kernel
theorem dX8_not_26 : decode cX8_not 26 = .ok (.aload_n 1, 1) := by decide +kernel
theorem dX8_not_27 : decode cX8_not 27 = .ok (.getfield 108, 3) := by decide +kernel
theorem dX8_not_30 : decode cX8_not 30 = .ok (.bipush 6, 2) := by decide +kernel
theorem dX8_not_32 : decode cX8_not 32 = .ok (.if_icmp .lt 5, 3) := by decide +kernel
theorem dX8_not_35 : decode cX8_not 35 = .ok (.iconst 0, 1) := by decide +kernel
theorem dX8_not_36 : decode cX8_not 36 = .ok (.ireturn, 1) := by decide +kernel
theorem dX8_not_37 : decode cX8_not 37 = .ok (.aload_n 0, 1) := by decide +kernel
theorem dX8_not_38 : decode cX8_not 38 = .ok (.getfield 22, 3) := by decide +kernel
theorem dX8_not_41 : decode cX8_not 41 = .ok (.aload_n 0, 1) := by decide +kernel
theorem dX8_not_42 : decode cX8_not 42 = .ok (.getfield 98, 3) := by decide +kernel
theorem dX8_not_45 : decode cX8_not 45 = .ok (.iconst 1, 1) := by decide +kernel
theorem dX8_not_46 : decode cX8_not 46 = .ok (.isub, 1) := by decide +kernel
theorem dX8_not_47 : decode cX8_not 47 = .ok (.new 20, 3) := by decide +kernel
theorem dX8_not_50 : decode cX8_not 50 = .ok (.dup, 1) := by decide +kernel
theorem dX8_not_51 : decode cX8_not 51 = .ok (.iconst 5, 1) := by decide +kernel
theorem dX8_not_52 : decode cX8_not 52 = .ok (.aload_n 1, 1) := by decide +kernel
theorem dX8_not_53 : decode cX8_not 53 = .ok (.aconst_null, 1) := by decide +kernel
theorem dX8_not_54 : decode cX8_not 54 = .ok (.aload_n 1, 1) := by decide +kernel
theorem dX8_not_55 : decode cX8_not 55 = .ok (.getfield 108, 3) := by decide +kernel
theorem dX8_not_58 : decode cX8_not 58 = .ok (.iconst 1, 1) := by decide +kernel
theorem dX8_not_59 : decode cX8_not 59 = .ok (.iadd, 1) := by decide +kernel
theorem dX8_not_60 : decode cX8_not 60 = .ok (.invokespecial 111, 3) := by decide +kernel
theorem dX8_not_63 : decode cX8_not 63 = .ok (.aastore, 1) := by decide +kernel
theorem dX8_not_64 : decode cX8_not 64 = .ok (.iconst 1, 1) := by decide +kernel
theorem dX8_not_65 : decode cX8_not 65 = .ok (.ireturn, 1) := by decide +kernel
theorem dX8_join_0 : decode cX8_join 0 = .ok (.aload_n 0, 1) := by decide +kernel
theorem dX8_join_1 : decode cX8_join 1 = .ok (.getfield 98, 3) := by decide +kernel
theorem dX8_join_4 : decode cX8_join 4 = .ok (.iconst 2, 1) := by decide +kernel
theorem dX8_join_5 : decode cX8_join 5 = .ok (.if_icmp .ge 5, 3) := by decide +kernel
theorem dX8_join_8 : decode cX8_join 8 = .ok (.iconst 0, 1) := by decide +kernel
theorem dX8_join_9 : decode cX8_join 9 = .ok (.ireturn, 1) := by decide +kernel
theorem dX8_join_10 : decode cX8_join 10 = .ok (.aload_n 0, 1) := by decide +kernel
theorem dX8_join_11 : decode cX8_join 11 = .ok (.getfield 22, 3) := by decide +kernel
theorem dX8_join_14 : decode cX8_join 14 = .ok (.aload_n 0, 1) := by decide +kernel
theorem dX8_join_15 : decode cX8_join 15 = .ok (.getfield 98, 3) := by decide +kernel
theorem dX8_join_18 : decode cX8_join 18 = .ok (.iconst 2, 1) := by decide +kernel
theorem dX8_join_19 : decode cX8_join 19 = .ok (.isub, 1) := by decide +kernel
theorem dX8_join_20 : decode cX8_join 20 = .ok (.aaload, 1) := by decide +kernel
theorem dX8_join_21 : decode cX8_join 21 = .ok (.astore_n 2, 1) := by decide +kernel
theorem dX8_join_22 : decode cX8_join 22 = .ok (.aload_n 0, 1) := by decide +kernel
theorem dX8_join_23 : decode cX8_join 23 = .ok (.getfield 22, 3) := by decide +kernel
theorem dX8_join_26 : decode cX8_join 26 = .ok (.aload_n 0, 1) := by decide +kernel
theorem dX8_join_27 : decode cX8_join 27 = .ok (.getfield 98, 3) := by decide +kernel
theorem dX8_join_30 : decode cX8_join 30 = .ok (.iconst 1, 1) := by decide +kernel
theorem dX8_join_31 : decode cX8_join 31 = .ok (.isub, 1) := by decide +kernel
theorem dX8_join_32 : decode cX8_join 32 = .ok (.aaload, 1) := by decide +kernel
theorem dX8_join_33 : decode cX8_join 33 = .ok (.astore_n 3, 1) := by decide +kernel
theorem dX8_join_34 : decode cX8_join 34 = .ok (.aload_n 2, 1) := by decide +kernel
theorem dX8_join_35 : decode cX8_join 35 = .ok (.ifnull 7, 3) := by decide +kernel
theorem dX8_join_38 : decode cX8_join 38 = .ok (.aload_n 3, 1) := by decide +kernel
theorem dX8_join_39 : decode cX8_join 39 = .ok (.ifnonnull 5, 3) := by decide +kernel
theorem dX8_join_42 : decode cX8_join 42 = .ok (.iconst 0, 1) := by decide +kernel
theorem dX8_join_43 : decode cX8_join 43 = .ok (.ireturn, 1) := by decide +kernel
theorem dX8_join_44 : decode cX8_join 44 = .ok (.iconst 1, 1) := by decide +kernel
theorem dX8_join_45 : decode cX8_join 45 = .ok (.aload_n 2, 1) := by decide +kernel
theorem dX8_join_46 : decode cX8_join 46 = .ok (.getfield 108, 3) := by decide +kernel
theorem dX8_join_49 : decode cX8_join 49 = .ok (.aload_n 3, 1) := by decide +kernel
theorem dX8_join_50 : decode cX8_join 50 = .ok (.getfield 108, 3) := by decide +kernel
theorem dX8_join_53 : decode cX8_join 53 = .ok (.invokestatic 114, 3) := by decide +kernel
theorem dX8_join_56 : decode cX8_join 56 = .ok (.iadd, 1) := by decide +kernel
theorem dX8_join_57 : decode cX8_join 57 = .ok (.istore 4, 2) := by decide +kernel
theorem dX8_join_59 : decode cX8_join 59 = .ok (.iload 4, 2) := by decide +kernel
theorem dX8_join_61 : decode cX8_join 61 = .ok (.bipush 6, 2) := by decide +kernel
theorem dX8_join_63 : decode cX8_join 63 = .ok (.if_icmp .le 5, 3) := by decide +kernel
theorem dX8_join_66 : decode cX8_join 66 = .ok (.iconst 0, 1) := by decide +kernel
theorem dX8_join_67 : decode cX8_join 67 = .ok (.ireturn, 1) := by decide +kernel
theorem dX8_join_68 : decode cX8_join 68 = .ok (.aload_n 0, 1) := by decide +kernel
theorem dX8_join_69 : decode cX8_join 69 = .ok (.dup, 1) := by decide +kernel
theorem dX8_join_70 : decode cX8_join 70 = .ok (.getfield 98, 3) := by decide +kernel
theorem dX8_join_73 : decode cX8_join 73 = .ok (.iconst 1, 1) := by decide +kernel
theorem dX8_join_74 : decode cX8_join 74 = .ok (.isub, 1) := by decide +kernel
theorem dX8_join_75 : decode cX8_join 75 = .ok (.putfield 98, 3) := by decide +kernel
theorem dX8_join_78 : decode cX8_join 78 = .ok (.aload_n 0, 1) := by decide +kernel
theorem dX8_join_79 : decode cX8_join 79 = .ok (.getfield 22, 3) := by decide +kernel
theorem dX8_join_82 : decode cX8_join 82 = .ok (.aload_n 0, 1) := by decide +kernel
theorem dX8_join_83 : decode cX8_join 83 = .ok (.getfield 98, 3) := by decide +kernel
theorem dX8_join_86 : decode cX8_join 86 = .ok (.aconst_null, 1) := by decide +kernel
theorem dX8_join_87 : decode cX8_join 87 = .ok (.aastore, 1) := by decide +kernel
theorem dX8_join_88 : decode cX8_join 88 = .ok (.aload_n 0, 1) := by decide +kernel
theorem dX8_join_89 : decode cX8_join 89 = .ok (.getfield 22, 3) := by decide +kernel
theorem dX8_join_92 : decode cX8_join 92 = .ok (.aload_n 0, 1) := by decide +kernel
theorem dX8_join_93 : decode cX8_join 93 = .ok (.getfield 98, 3) := by decide +kernel
theorem dX8_join_96 : decode cX8_join 96 = .ok (.iconst 1, 1) := by decide +kernel
theorem dX8_join_97 : decode cX8_join 97 = .ok (.isub, 1) := by decide +kernel
theorem dX8_join_98 : decode cX8_join 98 = .ok (.new 20, 3) := by decide +kernel
theorem dX8_join_101 : decode cX8_join 101 = .ok (.dup, 1) := by decide +kernel
theorem dX8_join_102 : decode cX8_join 102 = .ok (.iload_n 1, 1) := by decide +kernel
theorem dX8_join_103 : decode cX8_join 103 = .ok (.ifCond .eq 8, 3) := by decide +kernel
theorem dX8_join_106 : decode cX8_join 106 = .ok (.bipush 7, 2) := by decide +kernel
theorem dX8_join_108 : decode cX8_join 108 = .ok (.goto 5, 3) := by decide +kernel
theorem dX8_join_111 : decode cX8_join 111 = .ok (.bipush 6, 2) := by decide +kernel
theorem dX8_join_113 : decode cX8_join 113 = .ok (.aload_n 2, 1) := by decide +kernel
theorem dX8_join_114 : decode cX8_join 114 = .ok (.aload_n 3, 1) := by decide +kernel
theorem dX8_join_115 : decode cX8_join 115 = .ok (.iload 4, 2) := by decide +kernel
theorem dX8_join_117 : decode cX8_join 117 = .ok (.invokespecial 111, 3) := by decide +kernel
theorem dX8_join_120 : decode cX8_join 120 = .ok (.aastore, 1) := by decide +kernel
theorem dX8_join_121 : decode cX8_join 121 = .ok (.iconst 1, 1) := by decide +kernel
theorem dX8_join_122 : decode cX8_join 122 = .ok (.ireturn, 1) := by decide +kernel
theorem dX8_mark_0 : decode cX8_mark 0 = .ok (.aload_n 0, 1) := by decide +kernel
theorem dX8_mark_1 : decode cX8_mark 1 = .ok (.getfield 98, 3) := by decide +kernel
theorem dX8_mark_4 : decode cX8_mark 4 = .ok (.iconst 1, 1) := by decide +kernel
theorem dX8_mark_5 : decode cX8_mark 5 = .ok (.if_icmp .ge 5, 3) := by decide +kernel
theorem dX8_mark_8 : decode cX8_mark 8 = .ok (.iconst 0, 1) := by decide +kernel
theorem dX8_mark_9 : decode cX8_mark 9 = .ok (.ireturn, 1) := by decide +kernel
theorem dX8_mark_10 : decode cX8_mark 10 = .ok (.aload_n 0, 1) := by decide +kernel
theorem dX8_mark_11 : decode cX8_mark 11 = .ok (.dup, 1) := by decide +kernel
theorem dX8_mark_12 : decode cX8_mark 12 = .ok (.getfield 98, 3) := by decide +kernel
theorem dX8_mark_15 : decode cX8_mark 15 = .ok (.iconst 1, 1) := by decide +kernel
theorem dX8_mark_16 : decode cX8_mark 16 = .ok (.isub, 1) := by decide +kernel
theorem dX8_mark_17 : decode cX8_mark 17 = .ok (.putfield 98, 3) := by decide +kernel
theorem dX8_mark_20 : decode cX8_mark 20 = .ok (.iload_n 1, 1) := by decide +kernel
theorem dX8_mark_21 : decode cX8_mark 21 = .ok (.ifCond .eq 22, 3) := by decide +kernel
theorem dX8_mark_24 : decode cX8_mark 24 = .ok (.aload_n 0, 1) := by decide +kernel
theorem dX8_mark_25 : decode cX8_mark 25 = .ok (.getfield 29, 3) := by decide +kernel
theorem dX8_mark_28 : decode cX8_mark 28 = .ok (.aload_n 0, 1) := by decide +kernel
theorem dX8_mark_29 : decode cX8_mark 29 = .ok (.getfield 22, 3) := by decide +kernel
theorem dX8_mark_32 : decode cX8_mark 32 = .ok (.aload_n 0, 1) := by decide +kernel
theorem dX8_mark_33 : decode cX8_mark 33 = .ok (.getfield 98, 3) := by decide +kernel
theorem dX8_mark_36 : decode cX8_mark 36 = .ok (.aaload, 1) := by decide +kernel
theorem dX8_mark_37 : decode cX8_mark 37 = .ok (.putfield 120, 3) := by decide +kernel
theorem dX8_mark_40 : decode cX8_mark 40 = .ok (.goto 19, 3) := by decide +kernel
theorem dX8_mark_43 : decode cX8_mark 43 = .ok (.aload_n 0, 1) := by decide +kernel
theorem dX8_mark_44 : decode cX8_mark 44 = .ok (.getfield 29, 3) := by decide +kernel
theorem dX8_mark_47 : decode cX8_mark 47 = .ok (.aload_n 0, 1) := by decide +kernel
theorem dX8_mark_48 : decode cX8_mark 48 = .ok (.getfield 22, 3) := by decide +kernel
theorem dX8_mark_51 : decode cX8_mark 51 = .ok (.aload_n 0, 1) := by decide +kernel
theorem dX8_mark_52 : decode cX8_mark 52 = .ok (.getfield 98, 3) := by decide +kernel
theorem dX8_mark_55 : decode cX8_mark 55 = .ok (.aaload, 1) := by decide +kernel
theorem dX8_mark_56 : decode cX8_mark 56 = .ok (.putfield 124, 3) := by decide +kernel
theorem dX8_mark_59 : decode cX8_mark 59 = .ok (.aload_n 0, 1) := by decide +kernel
theorem dX8_mark_60 : decode cX8_mark 60 = .ok (.getfield 22, 3) := by decide +kernel
theorem dX8_mark_63 : decode cX8_mark 63 = .ok (.aload_n 0, 1) := by decide +kernel
theorem dX8_mark_64 : decode cX8_mark 64 = .ok (.getfield 98, 3) := by decide +kernel
theorem dX8_mark_67 : decode cX8_mark 67 = .ok (.aconst_null, 1) := by decide +kernel
theorem dX8_mark_68 : decode cX8_mark 68 = .ok (.aastore, 1) := by decide +kernel
theorem dX8_mark_69 : decode cX8_mark 69 = .ok (.aload_n 0, 1) := by decide +kernel
theorem dX8_mark_70 : decode cX8_mark 70 = .ok (.getfield 29, 3) := by decide +kernel
theorem dX8_mark_73 : decode cX8_mark 73 = .ok (.invokevirtual 127, 3) := by decide +kernel
theorem dX8_mark_76 : decode cX8_mark 76 = .ok (.iconst 1, 1) := by decide +kernel
theorem dX8_mark_77 : decode cX8_mark 77 = .ok (.ireturn, 1) := by decide +kernel
theorem dX8_remember_0 : decode cX8_remember 0 = .ok (.aload_n 0, 1) := by decide +kernel
theorem dX8_remember_1 : decode cX8_remember 1 = .ok (.getfield 29, 3) := by decide +kernel
theorem dX8_remember_4 : decode cX8_remember 4 = .ok (.iload_n 1, 1) := by decide +kernel
theorem dX8_remember_5 : decode cX8_remember 5 = .ok (.putfield 128, 3) := by decide +kernel
theorem dX8_remember_8 : decode cX8_remember 8 = .ok (.aload_n 0, 1) := by decide +kernel
theorem dX8_remember_9 : decode cX8_remember 9 = .ok (.getfield 29, 3) := by decide +kernel
theorem dX8_remember_12 : decode cX8_remember 12 = .ok (.invokevirtual 127, 3) := by decide +kernel
theorem dX8_remember_15 : decode cX8_remember 15 = .ok (.return_, 1) := by decide +kernel
theorem dX8_outcome_0 : decode cX8_outcome 0 = .ok (.aload_n 0, 1) := by decide +kernel
theorem dX8_outcome_1 : decode cX8_outcome 1 = .ok (.getfield 29, 3) := by decide +kernel
theorem dX8_outcome_4 : decode cX8_outcome 4 = .ok (.aload_n 0, 1) := by decide +kernel
theorem dX8_outcome_5 : decode cX8_outcome 5 = .ok (.getfield 10, 3) := by decide +kernel
theorem dX8_outcome_8 : decode cX8_outcome 8 = .ok (.invokevirtual 131, 3) := by decide +kernel
theorem dX8_outcome_11 : decode cX8_outcome 11 = .ok (.ireturn, 1) := by decide +kernel
theorem dX8_nodes_0 : decode cX8_nodes 0 = .ok (.aload_n 0, 1) := by decide +kernel
theorem dX8_nodes_1 : decode cX8_nodes 1 = .ok (.getfield 36, 3) := by decide +kernel
theorem dX8_nodes_4 : decode cX8_nodes 4 = .ok (.getfield 91, 3) := by decide +kernel
theorem dX8_nodes_7 : decode cX8_nodes 7 = .ok (.ifCond .ne 5, 3) := by decide +kernel
theorem dX8_nodes_10 : decode cX8_nodes 10 = .ok (.iconst (-1), 1) := by decide +kernel
theorem dX8_nodes_11 : decode cX8_nodes 11 = .ok (.ireturn, 1) := by decide +kernel
theorem dX8_nodes_12 : decode cX8_nodes 12 = .ok (.aload_n 0, 1) := by decide +kernel
theorem dX8_nodes_13 : decode cX8_nodes 13 = .ok (.getfield 54, 3) := by decide +kernel
theorem dX8_nodes_16 : decode cX8_nodes 16 = .ok (.aload_n 0, 1) := by decide +kernel
theorem dX8_nodes_17 : decode cX8_nodes 17 = .ok (.getfield 10, 3) := by decide +kernel
theorem dX8_nodes_20 : decode cX8_nodes 20 = .ok (.invokevirtual 135, 3) := by decide +kernel
theorem dX8_nodes_23 : decode cX8_nodes 23 = .ok (.pop, 1) := by decide +kernel
theorem dX8_nodes_24 : decode cX8_nodes 24 = .ok (.aload_n 0, 1) := by decide +kernel
theorem dX8_nodes_25 : decode cX8_nodes 25 = .ok (.getfield 54, 3) := by decide +kernel
theorem dX8_nodes_28 : decode cX8_nodes 28 = .ok (.getfield 139, 3) := by decide +kernel
theorem dX8_nodes_31 : decode cX8_nodes 31 = .ok (.ireturn, 1) := by decide +kernel
theorem dX8_node_0 : decode cX8_node 0 = .ok (.aload_n 0, 1) := by decide +kernel
theorem dX8_node_1 : decode cX8_node 1 = .ok (.iload_n 1, 1) := by decide +kernel
theorem dX8_node_2 : decode cX8_node 2 = .ok (.invokevirtual 140, 3) := by decide +kernel
theorem dX8_node_5 : decode cX8_node 5 = .ok (.ifCond .eq 14, 3) := by decide +kernel
theorem dX8_node_8 : decode cX8_node 8 = .ok (.aload_n 0, 1) := by decide +kernel
theorem dX8_node_9 : decode cX8_node 9 = .ok (.getfield 54, 3) := by decide +kernel
theorem dX8_node_12 : decode cX8_node 12 = .ok (.iload_n 1, 1) := by decide +kernel
theorem dX8_node_13 : decode cX8_node 13 = .ok (.invokevirtual 144, 3) := by decide +kernel
theorem dX8_node_16 : decode cX8_node 16 = .ok (.goto 4, 3) := by decide +kernel
theorem dX8_node_19 : decode cX8_node 19 = .ok (.iconst (-1), 1) := by decide +kernel
theorem dX8_node_20 : decode cX8_node 20 = .ok (.ireturn, 1) := by decide +kernel
theorem dX8_depth_0 : decode cX8_depth 0 = .ok (.aload_n 0, 1) := by decide +kernel
theorem dX8_depth_1 : decode cX8_depth 1 = .ok (.iload_n 1, 1) := by decide +kernel
theorem dX8_depth_2 : decode cX8_depth 2 = .ok (.invokevirtual 140, 3) := by decide +kernel
theorem dX8_depth_5 : decode cX8_depth 5 = .ok (.ifCond .eq 15, 3) := by decide +kernel
theorem dX8_depth_8 : decode cX8_depth 8 = .ok (.aload_n 0, 1) := by decide +kernel
theorem dX8_depth_9 : decode cX8_depth 9 = .ok (.getfield 54, 3) := by decide +kernel
theorem dX8_depth_12 : decode cX8_depth 12 = .ok (.getfield 148, 3) := by decide +kernel
theorem dX8_depth_15 : decode cX8_depth 15 = .ok (.iload_n 1, 1) := by decide +kernel
theorem dX8_depth_16 : decode cX8_depth 16 = .ok (.iaload, 1) := by decide +kernel
theorem dX8_depth_17 : decode cX8_depth 17 = .ok (.goto 4, 3) := by decide +kernel
theorem dX8_depth_20 : decode cX8_depth 20 = .ok (.iconst (-1), 1) := by decide +kernel
theorem dX8_depth_21 : decode cX8_depth 21 = .ok (.ireturn, 1) := by decide +kernel
theorem dX8_reduce_0 : decode cX8_reduce 0 = .ok (.iload_n 1, 1) := by decide +kernel
theorem dX8_reduce_1 : decode cX8_reduce 1 = .ok (.ifCond .lt 19, 3) := by decide +kernel
theorem dX8_reduce_4 : decode cX8_reduce 4 = .ok (.iload_n 1, 1) := by decide +kernel
theorem dX8_reduce_5 : decode cX8_reduce 5 = .ok (.iconst 4, 1) := by decide +kernel
theorem dX8_reduce_6 : decode cX8_reduce 6 = .ok (.if_icmp .gt 14, 3) := by decide +kernel
theorem dX8_reduce_9 : decode cX8_reduce 9 = .ok (.iload_n 2, 1) := by decide +kernel
theorem dX8_reduce_10 : decode cX8_reduce 10 = .ok (.ifCond .lt 10, 3) := by decide +kernel
theorem dX8_reduce_13 : decode cX8_reduce 13 = .ok (.iload_n 2, 1) := by decide +kernel
theorem dX8_reduce_14 : decode cX8_reduce 14 = .ok (.sipush 400, 3) := by decide +kernel
theorem dX8_reduce_17 : decode cX8_reduce 17 = .ok (.if_icmp .le 5, 3) := by decide +kernel
theorem dX8_reduce_20 : decode cX8_reduce 20 = .ok (.iconst (-1), 1) := by decide +kernel
theorem dX8_reduce_21 : decode cX8_reduce 21 = .ok (.ireturn, 1) := by decide +kernel
theorem dX8_reduce_22 : decode cX8_reduce 22 = .ok (.aload_n 0, 1) := by decide +kernel
theorem dX8_reduce_23 : decode cX8_reduce 23 = .ok (.getfield 29, 3) := by decide +kernel
theorem dX8_reduce_26 : decode cX8_reduce 26 = .ok (.aload_n 0, 1) := by decide +kernel
theorem dX8_reduce_27 : decode cX8_reduce 27 = .ok (.getfield 10, 3) := by decide +kernel
theorem dX8_reduce_30 : decode cX8_reduce 30 = .ok (.invokevirtual 131, 3) := by decide +kernel
theorem dX8_reduce_33 : decode cX8_reduce 33 = .ok (.iconst 1, 1) := by decide +kernel
theorem dX8_reduce_34 : decode cX8_reduce 34 = .ok (.if_icmp .eq 6, 3) := by decide +kernel
theorem dX8_reduce_37 : decode cX8_reduce 37 = .ok (.bipush (-2), 2) := by decide +kernel
theorem dX8_reduce_39 : decode cX8_reduce 39 = .ok (.ireturn, 1) := by decide +kernel
theorem dX8_reduce_40 : decode cX8_reduce 40 = .ok (.iload_n 1, 1) := by decide +kernel
theorem dX8_reduce_41 : decode cX8_reduce 41 = .ok (.iconst 2, 1) := by decide +kernel
theorem dX8_reduce_42 : decode cX8_reduce 42 = .ok (.if_icmp .lt 20, 3) := by decide +kernel
theorem dX8_reduce_45 : decode cX8_reduce 45 = .ok (.aload_n 0, 1) := by decide +kernel
theorem dX8_reduce_46 : decode cX8_reduce 46 = .ok (.getfield 54, 3) := by decide +kernel
theorem dX8_reduce_49 : decode cX8_reduce 49 = .ok (.aload_n 0, 1) := by decide +kernel
theorem dX8_reduce_50 : decode cX8_reduce 50 = .ok (.getfield 10, 3) := by decide +kernel
theorem dX8_reduce_53 : decode cX8_reduce 53 = .ok (.invokevirtual 135, 3) := by decide +kernel
theorem dX8_reduce_56 : decode cX8_reduce 56 = .ok (.ifCond .ne 6, 3) := by decide +kernel
theorem dX8_reduce_59 : decode cX8_reduce 59 = .ok (.bipush (-3), 2) := by decide +kernel
theorem dX8_reduce_61 : decode cX8_reduce 61 = .ok (.ireturn, 1) := by decide +kernel
theorem dX8_reduce_62 : decode cX8_reduce 62 = .ok (.aload_n 0, 1) := by decide +kernel
theorem dX8_reduce_63 : decode cX8_reduce 63 = .ok (.dup, 1) := by decide +kernel
theorem dX8_reduce_64 : decode cX8_reduce 64 = .ok (.getfield 152, 3) := by decide +kernel
theorem dX8_reduce_67 : decode cX8_reduce 67 = .ok (.iconst 1, 1) := by decide +kernel
theorem dX8_reduce_68 : decode cX8_reduce 68 = .ok (.iadd, 1) := by decide +kernel
theorem dX8_reduce_69 : decode cX8_reduce 69 = .ok (.putfield 152, 3) := by decide +kernel
theorem dX8_reduce_72 : decode cX8_reduce 72 = .ok (.aload_n 0, 1) := by decide +kernel
theorem dX8_reduce_73 : decode cX8_reduce 73 = .ok (.getfield 29, 3) := by decide +kernel
theorem dX8_reduce_76 : decode cX8_reduce 76 = .ok (.iload_n 2, 1) := by decide +kernel
theorem dX8_reduce_77 : decode cX8_reduce 77 = .ok (.invokevirtual 155, 3) := by decide +kernel
theorem dX8_reduce_80 : decode cX8_reduce 80 = .ok (.iload_n 1, 1) := by decide +kernel
theorem dX8_reduce_81 : decode cX8_reduce 81 = .ok (.iconst 1, 1) := by decide +kernel
theorem dX8_reduce_82 : decode cX8_reduce 82 = .ok (.if_icmp .gt 23, 3) := by decide +kernel
theorem dX8_reduce_85 : decode cX8_reduce 85 = .ok (.aload_n 0, 1) := by decide +kernel
theorem dX8_reduce_86 : decode cX8_reduce 86 = .ok (.getfield 63, 3) := by decide +kernel
theorem dX8_reduce_89 : decode cX8_reduce 89 = .ok (.iload_n 1, 1) := by decide +kernel
theorem dX8_reduce_90 : decode cX8_reduce 90 = .ok (.iconst 1, 1) := by decide +kernel
theorem dX8_reduce_91 : decode cX8_reduce 91 = .ok (.if_icmp .ne 7, 3) := by decide +kernel
theorem dX8_reduce_94 : decode cX8_reduce 94 = .ok (.iconst 1, 1) := by decide +kernel
theorem dX8_reduce_95 : decode cX8_reduce 95 = .ok (.goto 4, 3) := by decide +kernel
theorem dX8_reduce_98 : decode cX8_reduce 98 = .ok (.iconst 0, 1) := by decide +kernel
theorem dX8_reduce_99 : decode cX8_reduce 99 = .ok (.invokevirtual 159, 3) := by decide +kernel
theorem dX8_reduce_102 : decode cX8_reduce 102 = .ok (.goto 35, 3) := by decide +kernel
theorem dX8_reduce_105 : decode cX8_reduce 105 = .ok (.iload_n 1, 1) := by decide +kernel
theorem dX8_reduce_106 : decode cX8_reduce 106 = .ok (.iconst 3, 1) := by decide +kernel
theorem dX8_reduce_107 : decode cX8_reduce 107 = .ok (.if_icmp .gt 23, 3) := by decide +kernel
theorem dX8_reduce_110 : decode cX8_reduce 110 = .ok (.aload_n 0, 1) := by decide +kernel
theorem dX8_reduce_111 : decode cX8_reduce 111 = .ok (.getfield 63, 3) := by decide +kernel
theorem dX8_reduce_114 : decode cX8_reduce 114 = .ok (.iload_n 1, 1) := by decide +kernel
theorem dX8_reduce_115 : decode cX8_reduce 115 = .ok (.iconst 3, 1) := by decide +kernel
theorem dX8_reduce_116 : decode cX8_reduce 116 = .ok (.if_icmp .ne 7, 3) := by decide +kernel
theorem dX8_reduce_119 : decode cX8_reduce 119 = .ok (.iconst 1, 1) := by decide +kernel
theorem dX8_reduce_120 : decode cX8_reduce 120 = .ok (.goto 4, 3) := by decide +kernel
theorem dX8_reduce_123 : decode cX8_reduce 123 = .ok (.iconst 0, 1) := by decide +kernel
theorem dX8_reduce_124 : decode cX8_reduce 124 = .ok (.invokevirtual 163, 3) := by decide +kernel
theorem dX8_reduce_127 : decode cX8_reduce 127 = .ok (.goto 10, 3) := by decide +kernel
theorem dX8_reduce_130 : decode cX8_reduce 130 = .ok (.aload_n 0, 1) := by decide +kernel
theorem dX8_reduce_131 : decode cX8_reduce 131 = .ok (.getfield 63, 3) := by decide +kernel
theorem dX8_reduce_134 : decode cX8_reduce 134 = .ok (.invokevirtual 166, 3) := by decide +kernel
theorem dX8_reduce_137 : decode cX8_reduce 137 = .ok (.aload_n 0, 1) := by decide +kernel
theorem dX8_reduce_138 : decode cX8_reduce 138 = .ok (.getfield 10, 3) := by decide +kernel
theorem dX8_reduce_141 : decode cX8_reduce 141 = .ok (.getfield 74, 3) := by decide +kernel
theorem dX8_reduce_144 : decode cX8_reduce 144 = .ok (.ireturn, 1) := by decide +kernel
theorem dX8_length_0 : decode cX8_length 0 = .ok (.aload_n 0, 1) := by decide +kernel
theorem dX8_length_1 : decode cX8_length 1 = .ok (.getfield 10, 3) := by decide +kernel
theorem dX8_length_4 : decode cX8_length 4 = .ok (.getfield 74, 3) := by decide +kernel
theorem dX8_length_7 : decode cX8_length 7 = .ok (.ireturn, 1) := by decide +kernel
theorem dX8_at_0 : decode cX8_at 0 = .ok (.iload_n 1, 1) := by decide +kernel
theorem dX8_at_1 : decode cX8_at 1 = .ok (.ifCond .lt 14, 3) := by decide +kernel
theorem dX8_at_4 : decode cX8_at 4 = .ok (.iload_n 1, 1) := by decide +kernel
theorem dX8_at_5 : decode cX8_at 5 = .ok (.aload_n 0, 1) := by decide +kernel
theorem dX8_at_6 : decode cX8_at 6 = .ok (.getfield 10, 3) := by decide +kernel
theorem dX8_at_9 : decode cX8_at 9 = .ok (.getfield 74, 3) := by decide +kernel
theorem dX8_at_12 : decode cX8_at 12 = .ok (.if_icmp .lt 7, 3) := by decide +kernel
theorem dX8_at_15 : decode cX8_at 15 = .ok (.iconst 0, 1) := by decide +kernel
theorem dX8_at_16 : decode cX8_at 16 = .ok (.goto 12, 3) := by decide +kernel
theorem dX8_at_19 : decode cX8_at 19 = .ok (.aload_n 0, 1) := by decide +kernel
theorem dX8_at_20 : decode cX8_at 20 = .ok (.getfield 10, 3) := by decide +kernel
theorem dX8_at_23 : decode cX8_at 23 = .ok (.getfield 169, 3) := by decide +kernel
theorem dX8_at_26 : decode cX8_at 26 = .ok (.iload_n 1, 1) := by decide +kernel
theorem dX8_at_27 : decode cX8_at 27 = .ok (.caload, 1) := by decide +kernel
theorem dX8_at_28 : decode cX8_at 28 = .ok (.ireturn, 1) := by decide +kernel
theorem dX8_count_0 : decode cX8_count 0 = .ok (.iload_n 1, 1) := by decide +kernel
theorem dX8_count_1 : decode cX8_count 1 = .ok (.tableswitch 80 0 4 #[35, 43, 51, 56, 72], 35) := by decide +kernel
theorem dX8_count_36 : decode cX8_count 36 = .ok (.aload_n 0, 1) := by decide +kernel
theorem dX8_count_37 : decode cX8_count 37 = .ok (.getfield 29, 3) := by decide +kernel
theorem dX8_count_40 : decode cX8_count 40 = .ok (.getfield 172, 3) := by decide +kernel
theorem dX8_count_43 : decode cX8_count 43 = .ok (.ireturn, 1) := by decide +kernel
theorem dX8_count_44 : decode cX8_count 44 = .ok (.aload_n 0, 1) := by decide +kernel
theorem dX8_count_45 : decode cX8_count 45 = .ok (.getfield 29, 3) := by decide +kernel
theorem dX8_count_48 : decode cX8_count 48 = .ok (.getfield 175, 3) := by decide +kernel
theorem dX8_count_51 : decode cX8_count 51 = .ok (.ireturn, 1) := by decide +kernel
theorem dX8_count_52 : decode cX8_count 52 = .ok (.aload_n 0, 1) := by decide +kernel
theorem dX8_count_53 : decode cX8_count 53 = .ok (.getfield 152, 3) := by decide +kernel
theorem dX8_count_56 : decode cX8_count 56 = .ok (.ireturn, 1) := by decide +kernel
theorem dX8_count_57 : decode cX8_count 57 = .ok (.aload_n 0, 1) := by decide +kernel
theorem dX8_count_58 : decode cX8_count 58 = .ok (.getfield 29, 3) := by decide +kernel
theorem dX8_count_61 : decode cX8_count 61 = .ok (.getfield 178, 3) := by decide +kernel
theorem dX8_count_64 : decode cX8_count 64 = .ok (.ifCond .eq 7, 3) := by decide +kernel
theorem dX8_count_67 : decode cX8_count 67 = .ok (.iconst 1, 1) := by decide +kernel
theorem dX8_count_68 : decode cX8_count 68 = .ok (.goto 4, 3) := by decide +kernel
theorem dX8_count_71 : decode cX8_count 71 = .ok (.iconst 0, 1) := by decide +kernel
theorem dX8_count_72 : decode cX8_count 72 = .ok (.ireturn, 1) := by decide +kernel
theorem dX8_count_73 : decode cX8_count 73 = .ok (.aload_n 0, 1) := by decide +kernel
theorem dX8_count_74 : decode cX8_count 74 = .ok (.getfield 29, 3) := by decide +kernel
theorem dX8_count_77 : decode cX8_count 77 = .ok (.getfield 181, 3) := by decide +kernel
theorem dX8_count_80 : decode cX8_count 80 = .ok (.ireturn, 1) := by decide +kernel
theorem dX8_count_81 : decode cX8_count 81 = .ok (.iconst (-1), 1) := by decide +kernel
theorem dX8_count_82 : decode cX8_count 82 = .ok (.ireturn, 1) := by decide +kernel
theorem dX8_push_0 : decode cX8_push 0 = .ok (.aload_n 0, 1) := by decide +kernel
theorem dX8_push_1 : decode cX8_push 1 = .ok (.getfield 98, 3) := by decide +kernel
theorem dX8_push_4 : decode cX8_push 4 = .ok (.bipush 6, 2) := by decide +kernel
theorem dX8_push_6 : decode cX8_push 6 = .ok (.if_icmp .lt 5, 3) := by decide +kernel
theorem dX8_push_9 : decode cX8_push 9 = .ok (.iconst 0, 1) := by decide +kernel
theorem dX8_push_10 : decode cX8_push 10 = .ok (.ireturn, 1) := by decide +kernel
theorem dX8_push_11 : decode cX8_push 11 = .ok (.aload_n 0, 1) := by decide +kernel
theorem dX8_push_12 : decode cX8_push 12 = .ok (.getfield 22, 3) := by decide +kernel
theorem dX8_push_15 : decode cX8_push 15 = .ok (.aload_n 0, 1) := by decide +kernel
theorem dX8_push_16 : decode cX8_push 16 = .ok (.getfield 98, 3) := by decide +kernel
theorem dX8_push_19 : decode cX8_push 19 = .ok (.aload_n 1, 1) := by decide +kernel
theorem dX8_push_20 : decode cX8_push 20 = .ok (.aastore, 1) := by decide +kernel
theorem dX8_push_21 : decode cX8_push 21 = .ok (.aload_n 0, 1) := by decide +kernel
theorem dX8_push_22 : decode cX8_push 22 = .ok (.dup, 1) := by decide +kernel
theorem dX8_push_23 : decode cX8_push 23 = .ok (.getfield 98, 3) := by decide +kernel
theorem dX8_push_26 : decode cX8_push 26 = .ok (.iconst 1, 1) := by decide +kernel
theorem dX8_push_27 : decode cX8_push 27 = .ok (.iadd, 1) := by decide +kernel
theorem dX8_push_28 : decode cX8_push 28 = .ok (.putfield 98, 3) := by decide +kernel
theorem dX8_push_31 : decode cX8_push 31 = .ok (.iconst 1, 1) := by decide +kernel
theorem dX8_push_32 : decode cX8_push 32 = .ok (.ireturn, 1) := by decide +kernel
theorem dX8_hasNode_0 : decode cX8_hasNode 0 = .ok (.iload_n 1, 1) := by decide +kernel
theorem dX8_hasNode_1 : decode cX8_hasNode 1 = .ok (.ifCond .lt 19, 3) := by decide +kernel
theorem dX8_hasNode_4 : decode cX8_hasNode 4 = .ok (.iload_n 1, 1) := by decide +kernel
theorem dX8_hasNode_5 : decode cX8_hasNode 5 = .ok (.bipush 60, 2) := by decide +kernel
theorem dX8_hasNode_7 : decode cX8_hasNode 7 = .ok (.if_icmp .ge 13, 3) := by decide +kernel
theorem dX8_hasNode_10 : decode cX8_hasNode 10 = .ok (.aload_n 0, 1) := by decide +kernel
theorem dX8_hasNode_11 : decode cX8_hasNode 11 = .ok (.getfield 36, 3) := by decide +kernel
theorem dX8_hasNode_14 : decode cX8_hasNode 14 = .ok (.getfield 91, 3) := by decide +kernel
theorem dX8_hasNode_17 : decode cX8_hasNode 17 = .ok (.ifCond .ne 5, 3) := by decide +kernel
theorem dX8_hasNode_20 : decode cX8_hasNode 20 = .ok (.iconst 0, 1) := by decide +kernel
theorem dX8_hasNode_21 : decode cX8_hasNode 21 = .ok (.ireturn, 1) := by decide +kernel
theorem dX8_hasNode_22 : decode cX8_hasNode 22 = .ok (.aload_n 0, 1) := by decide +kernel
theorem dX8_hasNode_23 : decode cX8_hasNode 23 = .ok (.getfield 54, 3) := by decide +kernel
theorem dX8_hasNode_26 : decode cX8_hasNode 26 = .ok (.aload_n 0, 1) := by decide +kernel
theorem dX8_hasNode_27 : decode cX8_hasNode 27 = .ok (.getfield 10, 3) := by decide +kernel
theorem dX8_hasNode_30 : decode cX8_hasNode 30 = .ok (.invokevirtual 135, 3) := by decide +kernel
theorem dX8_hasNode_33 : decode cX8_hasNode 33 = .ok (.ifCond .eq 18, 3) := by decide +kernel
theorem dX8_hasNode_36 : decode cX8_hasNode 36 = .ok (.iload_n 1, 1) := by decide +kernel
theorem dX8_hasNode_37 : decode cX8_hasNode 37 = .ok (.aload_n 0, 1) := by decide +kernel
theorem dX8_hasNode_38 : decode cX8_hasNode 38 = .ok (.getfield 54, 3) := by decide +kernel
theorem dX8_hasNode_41 : decode cX8_hasNode 41 = .ok (.getfield 139, 3) := by decide +kernel
theorem dX8_hasNode_44 : decode cX8_hasNode 44 = .ok (.if_icmp .ge 7, 3) := by decide +kernel
theorem dX8_hasNode_47 : decode cX8_hasNode 47 = .ok (.iconst 1, 1) := by decide +kernel
theorem dX8_hasNode_48 : decode cX8_hasNode 48 = .ok (.goto 4, 3) := by decide +kernel
theorem dX8_hasNode_51 : decode cX8_hasNode 51 = .ok (.iconst 0, 1) := by decide +kernel
theorem dX8_hasNode_52 : decode cX8_hasNode 52 = .ok (.ireturn, 1) := by decide +kernel
theorem dX8_isTextSign_0 : decode cX8_isTextSign 0 = .ok (.iload_n 0, 1) := by decide +kernel
theorem dX8_isTextSign_1 : decode cX8_isTextSign 1 = .ok (.bipush 97, 2) := by decide +kernel
theorem dX8_isTextSign_3 : decode cX8_isTextSign 3 = .ok (.if_icmp .lt 9, 3) := by decide +kernel
theorem dX8_isTextSign_6 : decode cX8_isTextSign 6 = .ok (.iload_n 0, 1) := by decide +kernel
theorem dX8_isTextSign_7 : decode cX8_isTextSign 7 = .ok (.bipush 122, 2) := by decide +kernel
theorem dX8_isTextSign_9 : decode cX8_isTextSign 9 = .ok (.if_icmp .le 45, 3) := by decide +kernel
theorem dX8_isTextSign_12 : decode cX8_isTextSign 12 = .ok (.iload_n 0, 1) := by decide +kernel
theorem dX8_isTextSign_13 : decode cX8_isTextSign 13 = .ok (.bipush 48, 2) := by decide +kernel
theorem dX8_isTextSign_15 : decode cX8_isTextSign 15 = .ok (.if_icmp .lt 9, 3) := by decide +kernel
theorem dX8_isTextSign_18 : decode cX8_isTextSign 18 = .ok (.iload_n 0, 1) := by decide +kernel
theorem dX8_isTextSign_19 : decode cX8_isTextSign 19 = .ok (.bipush 57, 2) := by decide +kernel
theorem dX8_isTextSign_21 : decode cX8_isTextSign 21 = .ok (.if_icmp .le 33, 3) := by decide +kernel
theorem dX8_isTextSign_24 : decode cX8_isTextSign 24 = .ok (.iload_n 0, 1) := by decide +kernel
theorem dX8_isTextSign_25 : decode cX8_isTextSign 25 = .ok (.bipush 32, 2) := by decide +kernel
theorem dX8_isTextSign_27 : decode cX8_isTextSign 27 = .ok (.if_icmp .eq 27, 3) := by decide +kernel
theorem dX8_isTextSign_30 : decode cX8_isTextSign 30 = .ok (.iload_n 0, 1) := by decide +kernel
theorem dX8_isTextSign_31 : decode cX8_isTextSign 31 = .ok (.bipush 44, 2) := by decide +kernel
theorem dX8_isTextSign_33 : decode cX8_isTextSign 33 = .ok (.if_icmp .eq 21, 3) := by decide +kernel
theorem dX8_isTextSign_36 : decode cX8_isTextSign 36 = .ok (.iload_n 0, 1) := by decide +kernel
theorem dX8_isTextSign_37 : decode cX8_isTextSign 37 = .ok (.bipush 45, 2) := by decide +kernel
theorem dX8_isTextSign_39 : decode cX8_isTextSign 39 = .ok (.if_icmp .eq 15, 3) := by decide +kernel
theorem dX8_isTextSign_42 : decode cX8_isTextSign 42 = .ok (.iload_n 0, 1) := by decide +kernel
theorem dX8_isTextSign_43 : decode cX8_isTextSign 43 = .ok (.bipush 40, 2) := by decide +kernel
theorem dX8_isTextSign_45 : decode cX8_isTextSign 45 = .ok (.if_icmp .eq 9, 3) := by decide +kernel
theorem dX8_isTextSign_48 : decode cX8_isTextSign 48 = .ok (.iload_n 0, 1) := by decide +kernel
theorem dX8_isTextSign_49 : decode cX8_isTextSign 49 = .ok (.bipush 41, 2) := by decide +kernel
theorem dX8_isTextSign_51 : decode cX8_isTextSign 51 = .ok (.if_icmp .ne 7, 3) := by decide +kernel
theorem dX8_isTextSign_54 : decode cX8_isTextSign 54 = .ok (.iconst 1, 1) := by decide +kernel
theorem dX8_isTextSign_55 : decode cX8_isTextSign 55 = .ok (.goto 4, 3) := by decide +kernel
theorem dX8_isTextSign_58 : decode cX8_isTextSign 58 = .ok (.iconst 0, 1) := by decide +kernel
theorem dX8_isTextSign_59 : decode cX8_isTextSign 59 = .ok (.ireturn, 1) := by decide +kernel
theorem dX8_isName_0 : decode cX8_isName 0 = .ok (.iload_n 0, 1) := by decide +kernel
theorem dX8_isName_1 : decode cX8_isName 1 = .ok (.bipush 65, 2) := by decide +kernel
theorem dX8_isName_3 : decode cX8_isName 3 = .ok (.if_icmp .lt 13, 3) := by decide +kernel
theorem dX8_isName_6 : decode cX8_isName 6 = .ok (.iload_n 0, 1) := by decide +kernel
theorem dX8_isName_7 : decode cX8_isName 7 = .ok (.bipush 70, 2) := by decide +kernel
theorem dX8_isName_9 : decode cX8_isName 9 = .ok (.if_icmp .gt 7, 3) := by decide +kernel
theorem dX8_isName_12 : decode cX8_isName 12 = .ok (.iconst 1, 1) := by decide +kernel
theorem dX8_isName_13 : decode cX8_isName 13 = .ok (.goto 4, 3) := by decide +kernel
theorem dX8_isName_16 : decode cX8_isName 16 = .ok (.iconst 0, 1) := by decide +kernel
theorem dX8_isName_17 : decode cX8_isName 17 = .ok (.ireturn, 1) := by decide +kernel
theorem dX8_isTail_0 : decode cX8_isTail 0 = .ok (.iload_n 0, 1) := by decide +kernel
theorem dX8_isTail_1 : decode cX8_isTail 1 = .ok (.bipush 63, 2) := by decide +kernel
theorem dX8_isTail_3 : decode cX8_isTail 3 = .ok (.if_icmp .eq 15, 3) := by decide +kernel
theorem dX8_isTail_6 : decode cX8_isTail 6 = .ok (.iload_n 0, 1) := by decide +kernel
theorem dX8_isTail_7 : decode cX8_isTail 7 = .ok (.bipush 42, 2) := by decide +kernel
theorem dX8_isTail_9 : decode cX8_isTail 9 = .ok (.if_icmp .eq 9, 3) := by decide +kernel
theorem dX8_isTail_12 : decode cX8_isTail 12 = .ok (.iload_n 0, 1) := by decide +kernel
theorem dX8_isTail_13 : decode cX8_isTail 13 = .ok (.bipush 43, 2) := by decide +kernel
theorem dX8_isTail_15 : decode cX8_isTail 15 = .ok (.if_icmp .ne 7, 3) := by decide +kernel
theorem dX8_isTail_18 : decode cX8_isTail 18 = .ok (.iconst 1, 1) := by decide +kernel
theorem dX8_isTail_19 : decode cX8_isTail 19 = .ok (.goto 4, 3) := by decide +kernel
theorem dX8_isTail_22 : decode cX8_isTail 22 = .ok (.iconst 0, 1) := by decide +kernel
theorem dX8_isTail_23 : decode cX8_isTail 23 = .ok (.ireturn, 1) := by decide +kernel
theorem dX8_isGrammarSign_0 : decode cX8_isGrammarSign 0 = .ok (.iload_n 0, 1) := by decide +kernel
theorem dX8_isGrammarSign_1 : decode cX8_isGrammarSign 1 = .ok (.invokestatic 67, 3) := by decide +kernel
theorem dX8_isGrammarSign_4 : decode cX8_isGrammarSign 4 = .ok (.ifCond .ne 35, 3) := by decide +kernel
theorem dX8_isGrammarSign_7 : decode cX8_isGrammarSign 7 = .ok (.iload_n 0, 1) := by decide +kernel
theorem dX8_isGrammarSign_8 : decode cX8_isGrammarSign 8 = .ok (.invokestatic 184, 3) := by decide +kernel
theorem dX8_isGrammarSign_11 : decode cX8_isGrammarSign 11 = .ok (.ifCond .ne 28, 3) := by decide +kernel
theorem dX8_isGrammarSign_14 : decode cX8_isGrammarSign 14 = .ok (.iload_n 0, 1) := by decide +kernel
theorem dX8_isGrammarSign_15 : decode cX8_isGrammarSign 15 = .ok (.invokestatic 187, 3) := by decide +kernel
theorem dX8_isGrammarSign_18 : decode cX8_isGrammarSign 18 = .ok (.ifCond .ne 21, 3) := by decide +kernel
theorem dX8_isGrammarSign_21 : decode cX8_isGrammarSign 21 = .ok (.iload_n 0, 1) := by decide +kernel
theorem dX8_isGrammarSign_22 : decode cX8_isGrammarSign 22 = .ok (.bipush 61, 2) := by decide +kernel
theorem dX8_isGrammarSign_24 : decode cX8_isGrammarSign 24 = .ok (.if_icmp .eq 15, 3) := by decide +kernel
theorem dX8_isGrammarSign_27 : decode cX8_isGrammarSign 27 = .ok (.iload_n 0, 1) := by decide +kernel
theorem dX8_isGrammarSign_28 : decode cX8_isGrammarSign 28 = .ok (.bipush 47, 2) := by decide +kernel
theorem dX8_isGrammarSign_30 : decode cX8_isGrammarSign 30 = .ok (.if_icmp .eq 9, 3) := by decide +kernel
theorem dX8_isGrammarSign_33 : decode cX8_isGrammarSign 33 = .ok (.iload_n 0, 1) := by decide +kernel
theorem dX8_isGrammarSign_34 : decode cX8_isGrammarSign 34 = .ok (.bipush 59, 2) := by decide +kernel
theorem dX8_isGrammarSign_36 : decode cX8_isGrammarSign 36 = .ok (.if_icmp .ne 7, 3) := by decide +kernel
theorem dX8_isGrammarSign_39 : decode cX8_isGrammarSign 39 = .ok (.iconst 1, 1) := by decide +kernel
theorem dX8_isGrammarSign_40 : decode cX8_isGrammarSign 40 = .ok (.goto 4, 3) := by decide +kernel
theorem dX8_isGrammarSign_43 : decode cX8_isGrammarSign 43 = .ok (.iconst 0, 1) := by decide +kernel
theorem dX8_isGrammarSign_44 : decode cX8_isGrammarSign 44 = .ok (.ireturn, 1) := by decide +kernel
theorem dX9_init_0 : decode cX9_init 0 = .ok (.aload_n 0, 1) := by decide +kernel
theorem dX9_init_1 : decode cX9_init 1 = .ok (.invokespecial 1, 3) := by decide +kernel
theorem dX9_init_4 : decode cX9_init 4 = .ok (.aload_n 0, 1) := by decide +kernel
theorem dX9_init_5 : decode cX9_init 5 = .ok (.bipush 32, 2) := by decide +kernel
theorem dX9_init_7 : decode cX9_init 7 = .ok (.newarray .int, 2) := by decide +kernel
theorem dX9_init_9 : decode cX9_init 9 = .ok (.putfield 7, 3) := by decide +kernel
theorem dX9_init_12 : decode cX9_init 12 = .ok (.aload_n 0, 1) := by decide +kernel
theorem dX9_init_13 : decode cX9_init 13 = .ok (.bipush 60, 2) := by decide +kernel
theorem dX9_init_15 : decode cX9_init 15 = .ok (.newarray .int, 2) := by decide +kernel
theorem dX9_init_17 : decode cX9_init 17 = .ok (.putfield 13, 3) := by decide +kernel
theorem dX9_init_20 : decode cX9_init 20 = .ok (.aload_n 0, 1) := by decide +kernel
theorem dX9_init_21 : decode cX9_init 21 = .ok (.bipush 8, 2) := by decide +kernel
theorem dX9_init_23 : decode cX9_init 23 = .ok (.newarray .int, 2) := by decide +kernel
theorem dX9_init_25 : decode cX9_init 25 = .ok (.putfield 16, 3) := by decide +kernel
theorem dX9_init_28 : decode cX9_init 28 = .ok (.aload_n 0, 1) := by decide +kernel
theorem dX9_init_29 : decode cX9_init 29 = .ok (.bipush 8, 2) := by decide +kernel
theorem dX9_init_31 : decode cX9_init 31 = .ok (.newarray .int, 2) := by decide +kernel
theorem dX9_init_33 : decode cX9_init 33 = .ok (.putfield 19, 3) := by decide +kernel
theorem dX9_init_36 : decode cX9_init 36 = .ok (.aload_n 0, 1) := by decide +kernel
theorem dX9_init_37 : decode cX9_init 37 = .ok (.sipush 512, 3) := by decide +kernel
theorem dX9_init_40 : decode cX9_init 40 = .ok (.newarray .int, 2) := by decide +kernel
theorem dX9_init_42 : decode cX9_init 42 = .ok (.putfield 22, 3) := by decide +kernel
theorem dX9_init_45 : decode cX9_init 45 = .ok (.aload_n 0, 1) := by decide +kernel
theorem dX9_init_46 : decode cX9_init 46 = .ok (.sipush 512, 3) := by decide +kernel
theorem dX9_init_49 : decode cX9_init 49 = .ok (.newarray .int, 2) := by decide +kernel
theorem dX9_init_51 : decode cX9_init 51 = .ok (.putfield 25, 3) := by decide +kernel
theorem dX9_init_54 : decode cX9_init 54 = .ok (.aload_n 0, 1) := by decide +kernel
theorem dX9_init_55 : decode cX9_init 55 = .ok (.sipush 512, 3) := by decide +kernel
theorem dX9_init_58 : decode cX9_init 58 = .ok (.newarray .int, 2) := by decide +kernel
theorem dX9_init_60 : decode cX9_init 60 = .ok (.putfield 28, 3) := by decide +kernel
theorem dX9_init_63 : decode cX9_init 63 = .ok (.aload_n 0, 1) := by decide +kernel
theorem dX9_init_64 : decode cX9_init 64 = .ok (.bipush 64, 2) := by decide +kernel
theorem dX9_init_66 : decode cX9_init 66 = .ok (.newarray .boolean, 2) := by decide +kernel
theorem dX9_init_68 : decode cX9_init 68 = .ok (.putfield 31, 3) := by decide +kernel
theorem dX9_init_71 : decode cX9_init 71 = .ok (.aload_n 0, 1) := by decide +kernel
theorem dX9_init_72 : decode cX9_init 72 = .ok (.bipush 64, 2) := by decide +kernel
theorem dX9_init_74 : decode cX9_init 74 = .ok (.newarray .int, 2) := by decide +kernel
theorem dX9_init_76 : decode cX9_init 76 = .ok (.putfield 35, 3) := by decide +kernel
theorem dX9_init_79 : decode cX9_init 79 = .ok (.aload_n 0, 1) := by decide +kernel
theorem dX9_init_80 : decode cX9_init 80 = .ok (.bipush 64, 2) := by decide +kernel
theorem dX9_init_82 : decode cX9_init 82 = .ok (.newarray .int, 2) := by decide +kernel
theorem dX9_init_84 : decode cX9_init 84 = .ok (.putfield 38, 3) := by decide +kernel
theorem dX9_init_87 : decode cX9_init 87 = .ok (.aload_n 0, 1) := by decide +kernel
theorem dX9_init_88 : decode cX9_init 88 = .ok (.bipush 64, 2) := by decide +kernel
theorem dX9_init_90 : decode cX9_init 90 = .ok (.newarray .int, 2) := by decide +kernel
theorem dX9_init_92 : decode cX9_init 92 = .ok (.putfield 41, 3) := by decide +kernel
theorem dX9_init_95 : decode cX9_init 95 = .ok (.aload_n 0, 1) := by decide +kernel
theorem dX9_init_96 : decode cX9_init 96 = .ok (.bipush 6, 2) := by decide +kernel
theorem dX9_init_98 : decode cX9_init 98 = .ok (.newarray .int, 2) := by decide +kernel
theorem dX9_init_100 : decode cX9_init 100 = .ok (.putfield 44, 3) := by decide +kernel
theorem dX9_init_103 : decode cX9_init 103 = .ok (.aload_n 0, 1) := by decide +kernel
theorem dX9_init_104 : decode cX9_init 104 = .ok (.bipush 6, 2) := by decide +kernel
theorem dX9_init_106 : decode cX9_init 106 = .ok (.newarray .int, 2) := by decide +kernel
theorem dX9_init_108 : decode cX9_init 108 = .ok (.putfield 47, 3) := by decide +kernel
theorem dX9_init_111 : decode cX9_init 111 = .ok (.aload_n 0, 1) := by decide +kernel
theorem dX9_init_112 : decode cX9_init 112 = .ok (.bipush 6, 2) := by decide +kernel
theorem dX9_init_114 : decode cX9_init 114 = .ok (.newarray .boolean, 2) := by decide +kernel
theorem dX9_init_116 : decode cX9_init 116 = .ok (.putfield 50, 3) := by decide +kernel
theorem dX9_init_119 : decode cX9_init 119 = .ok (.aload_n 0, 1) := by decide +kernel
theorem dX9_init_120 : decode cX9_init 120 = .ok (.bipush 36, 2) := by decide +kernel
theorem dX9_init_122 : decode cX9_init 122 = .ok (.newarray .boolean, 2) := by decide +kernel
theorem dX9_init_124 : decode cX9_init 124 = .ok (.putfield 53, 3) := by decide +kernel
theorem dX9_init_127 : decode cX9_init 127 = .ok (.aload_n 0, 1) := by decide +kernel
theorem dX9_init_128 : decode cX9_init 128 = .ok (.bipush 6, 2) := by decide +kernel
theorem dX9_init_130 : decode cX9_init 130 = .ok (.newarray .int, 2) := by decide +kernel
theorem dX9_init_132 : decode cX9_init 132 = .ok (.putfield 56, 3) := by decide +kernel
theorem dX9_init_135 : decode cX9_init 135 = .ok (.aload_n 0, 1) := by decide +kernel
theorem dX9_init_136 : decode cX9_init 136 = .ok (.bipush 32, 2) := by decide +kernel
theorem dX9_init_138 : decode cX9_init 138 = .ok (.newarray .int, 2) := by decide +kernel
theorem dX9_init_140 : decode cX9_init 140 = .ok (.putfield 59, 3) := by decide +kernel
theorem dX9_init_143 : decode cX9_init 143 = .ok (.aload_n 0, 1) := by decide +kernel
theorem dX9_init_144 : decode cX9_init 144 = .ok (.sipush 198, 3) := by decide +kernel
theorem dX9_init_147 : decode cX9_init 147 = .ok (.newarray .int, 2) := by decide +kernel
theorem dX9_init_149 : decode cX9_init 149 = .ok (.putfield 62, 3) := by decide +kernel
theorem dX9_init_152 : decode cX9_init 152 = .ok (.aload_n 0, 1) := by decide +kernel
theorem dX9_init_153 : decode cX9_init 153 = .ok (.bipush 61, 2) := by decide +kernel
theorem dX9_init_155 : decode cX9_init 155 = .ok (.newarray .int, 2) := by decide +kernel
theorem dX9_init_157 : decode cX9_init 157 = .ok (.putfield 65, 3) := by decide +kernel
theorem dX9_init_160 : decode cX9_init 160 = .ok (.aload_n 0, 1) := by decide +kernel
theorem dX9_init_161 : decode cX9_init 161 = .ok (.bipush 61, 2) := by decide +kernel
theorem dX9_init_163 : decode cX9_init 163 = .ok (.newarray .int, 2) := by decide +kernel
theorem dX9_init_165 : decode cX9_init 165 = .ok (.putfield 68, 3) := by decide +kernel
theorem dX9_init_168 : decode cX9_init 168 = .ok (.aload_n 0, 1) := by decide +kernel
theorem dX9_init_169 : decode cX9_init 169 = .ok (.bipush 61, 2) := by decide +kernel
theorem dX9_init_171 : decode cX9_init 171 = .ok (.newarray .int, 2) := by decide +kernel
theorem dX9_init_173 : decode cX9_init 173 = .ok (.putfield 71, 3) := by decide +kernel
theorem dX9_init_176 : decode cX9_init 176 = .ok (.aload_n 0, 1) := by decide +kernel
theorem dX9_init_177 : decode cX9_init 177 = .ok (.bipush 61, 2) := by decide +kernel
theorem dX9_init_179 : decode cX9_init 179 = .ok (.newarray .int, 2) := by decide +kernel
theorem dX9_init_181 : decode cX9_init 181 = .ok (.putfield 74, 3) := by decide +kernel
theorem dX9_init_184 : decode cX9_init 184 = .ok (.aload_n 0, 1) := by decide +kernel
theorem dX9_init_185 : decode cX9_init 185 = .ok (.bipush 61, 2) := by decide +kernel
theorem dX9_init_187 : decode cX9_init 187 = .ok (.newarray .int, 2) := by decide +kernel
theorem dX9_init_189 : decode cX9_init 189 = .ok (.putfield 77, 3) := by decide +kernel
theorem dX9_init_192 : decode cX9_init 192 = .ok (.aload_n 0, 1) := by decide +kernel
theorem dX9_init_193 : decode cX9_init 193 = .ok (.bipush 61, 2) := by decide +kernel
theorem dX9_init_195 : decode cX9_init 195 = .ok (.newarray .int, 2) := by decide +kernel
theorem dX9_init_197 : decode cX9_init 197 = .ok (.putfield 80, 3) := by decide +kernel
theorem dX9_init_200 : decode cX9_init 200 = .ok (.aload_n 0, 1) := by decide +kernel
theorem dX9_init_201 : decode cX9_init 201 = .ok (.bipush 62, 2) := by decide +kernel
theorem dX9_init_203 : decode cX9_init 203 = .ok (.newarray .int, 2) := by decide +kernel
theorem dX9_init_205 : decode cX9_init 205 = .ok (.putfield 83, 3) := by decide +kernel
theorem dX9_init_208 : decode cX9_init 208 = .ok (.aload_n 0, 1) := by decide +kernel
theorem dX9_init_209 : decode cX9_init 209 = .ok (.bipush 62, 2) := by decide +kernel
theorem dX9_init_211 : decode cX9_init 211 = .ok (.newarray .int, 2) := by decide +kernel
theorem dX9_init_213 : decode cX9_init 213 = .ok (.putfield 86, 3) := by decide +kernel
theorem dX9_init_216 : decode cX9_init 216 = .ok (.aload_n 0, 1) := by decide +kernel
theorem dX9_init_217 : decode cX9_init 217 = .ok (.bipush 62, 2) := by decide +kernel
theorem dX9_init_219 : decode cX9_init 219 = .ok (.newarray .int, 2) := by decide +kernel
theorem dX9_init_221 : decode cX9_init 221 = .ok (.putfield 89, 3) := by decide +kernel
theorem dX9_init_224 : decode cX9_init 224 = .ok (.aload_n 0, 1) := by decide +kernel
theorem dX9_init_225 : decode cX9_init 225 = .ok (.bipush 62, 2) := by decide +kernel
theorem dX9_init_227 : decode cX9_init 227 = .ok (.newarray .int, 2) := by decide +kernel
theorem dX9_init_229 : decode cX9_init 229 = .ok (.putfield 92, 3) := by decide +kernel
theorem dX9_init_232 : decode cX9_init 232 = .ok (.aload_n 0, 1) := by decide +kernel
theorem dX9_init_233 : decode cX9_init 233 = .ok (.bipush 62, 2) := by decide +kernel
theorem dX9_init_235 : decode cX9_init 235 = .ok (.newarray .int, 2) := by decide +kernel
theorem dX9_init_237 : decode cX9_init 237 = .ok (.putfield 95, 3) := by decide +kernel
theorem dX9_init_240 : decode cX9_init 240 = .ok (.aload_n 0, 1) := by decide +kernel
theorem dX9_init_241 : decode cX9_init 241 = .ok (.iconst 1, 1) := by decide +kernel
theorem dX9_init_242 : decode cX9_init 242 = .ok (.putfield 98, 3) := by decide +kernel
theorem dX9_init_245 : decode cX9_init 245 = .ok (.aload_n 0, 1) := by decide +kernel
theorem dX9_init_246 : decode cX9_init 246 = .ok (.bipush 24, 2) := by decide +kernel
theorem dX9_init_248 : decode cX9_init 248 = .ok (.newarray .int, 2) := by decide +kernel
theorem dX9_init_250 : decode cX9_init 250 = .ok (.putfield 102, 3) := by decide +kernel
theorem dX9_init_253 : decode cX9_init 253 = .ok (.aload_n 0, 1) := by decide +kernel
theorem dX9_init_254 : decode cX9_init 254 = .ok (.sipush 768, 3) := by decide +kernel
theorem dX9_init_257 : decode cX9_init 257 = .ok (.newarray .int, 2) := by decide +kernel
theorem dX9_init_259 : decode cX9_init 259 = .ok (.putfield 105, 3) := by decide +kernel
theorem dX9_init_262 : decode cX9_init 262 = .ok (.aload_n 0, 1) := by decide +kernel
theorem dX9_init_263 : decode cX9_init 263 = .ok (.bipush 32, 2) := by decide +kernel
theorem dX9_init_265 : decode cX9_init 265 = .ok (.newarray .int, 2) := by decide +kernel
theorem dX9_init_267 : decode cX9_init 267 = .ok (.putfield 108, 3) := by decide +kernel
theorem dX9_init_270 : decode cX9_init 270 = .ok (.aload_n 0, 1) := by decide +kernel
theorem dX9_init_271 : decode cX9_init 271 = .ok (.bipush 32, 2) := by decide +kernel
theorem dX9_init_273 : decode cX9_init 273 = .ok (.newarray .int, 2) := by decide +kernel
theorem dX9_init_275 : decode cX9_init 275 = .ok (.putfield 111, 3) := by decide +kernel
theorem dX9_init_278 : decode cX9_init 278 = .ok (.aload_n 0, 1) := by decide +kernel
theorem dX9_init_279 : decode cX9_init 279 = .ok (.bipush 64, 2) := by decide +kernel
theorem dX9_init_281 : decode cX9_init 281 = .ok (.newarray .int, 2) := by decide +kernel
theorem dX9_init_283 : decode cX9_init 283 = .ok (.putfield 114, 3) := by decide +kernel
theorem dX9_init_286 : decode cX9_init 286 = .ok (.aload_n 0, 1) := by decide +kernel
theorem dX9_init_287 : decode cX9_init 287 = .ok (.bipush 64, 2) := by decide +kernel
theorem dX9_init_289 : decode cX9_init 289 = .ok (.newarray .int, 2) := by decide +kernel
theorem dX9_init_291 : decode cX9_init 291 = .ok (.putfield 117, 3) := by decide +kernel
theorem dX9_init_294 : decode cX9_init 294 = .ok (.aload_n 0, 1) := by decide +kernel
theorem dX9_init_295 : decode cX9_init 295 = .ok (.bipush 61, 2) := by decide +kernel
theorem dX9_init_297 : decode cX9_init 297 = .ok (.newarray .boolean, 2) := by decide +kernel
theorem dX9_init_299 : decode cX9_init 299 = .ok (.putfield 120, 3) := by decide +kernel
theorem dX9_init_302 : decode cX9_init 302 = .ok (.aload_n 0, 1) := by decide +kernel
theorem dX9_init_303 : decode cX9_init 303 = .ok (.bipush 6, 2) := by decide +kernel
theorem dX9_init_305 : decode cX9_init 305 = .ok (.newarray .boolean, 2) := by decide +kernel
theorem dX9_init_307 : decode cX9_init 307 = .ok (.putfield 123, 3) := by decide +kernel
theorem dX9_init_310 : decode cX9_init 310 = .ok (.aload_n 0, 1) := by decide +kernel
theorem dX9_init_311 : decode cX9_init 311 = .ok (.bipush 60, 2) := by decide +kernel
theorem dX9_init_313 : decode cX9_init 313 = .ok (.newarray .int, 2) := by decide +kernel
theorem dX9_init_315 : decode cX9_init 315 = .ok (.putfield 126, 3) := by decide +kernel
theorem dX9_init_318 : decode cX9_init 318 = .ok (.aload_n 0, 1) := by decide +kernel
theorem dX9_init_319 : decode cX9_init 319 = .ok (.bipush 60, 2) := by decide +kernel
theorem dX9_init_321 : decode cX9_init 321 = .ok (.newarray .int, 2) := by decide +kernel
theorem dX9_init_323 : decode cX9_init 323 = .ok (.putfield 129, 3) := by decide +kernel
theorem dX9_init_326 : decode cX9_init 326 = .ok (.aload_n 0, 1) := by decide +kernel
theorem dX9_init_327 : decode cX9_init 327 = .ok (.bipush 60, 2) := by decide +kernel
theorem dX9_init_329 : decode cX9_init 329 = .ok (.newarray .int, 2) := by decide +kernel
theorem dX9_init_331 : decode cX9_init 331 = .ok (.putfield 132, 3) := by decide +kernel
theorem dX9_init_334 : decode cX9_init 334 = .ok (.aload_n 0, 1) := by decide +kernel
theorem dX9_init_335 : decode cX9_init 335 = .ok (.bipush 60, 2) := by decide +kernel
theorem dX9_init_337 : decode cX9_init 337 = .ok (.newarray .int, 2) := by decide +kernel
theorem dX9_init_339 : decode cX9_init 339 = .ok (.putfield 135, 3) := by decide +kernel
theorem dX9_init_342 : decode cX9_init 342 = .ok (.aload_n 0, 1) := by decide +kernel
theorem dX9_init_343 : decode cX9_init 343 = .ok (.bipush 60, 2) := by decide +kernel
theorem dX9_init_345 : decode cX9_init 345 = .ok (.newarray .int, 2) := by decide +kernel
theorem dX9_init_347 : decode cX9_init 347 = .ok (.putfield 138, 3) := by decide +kernel
theorem dX9_init_350 : decode cX9_init 350 = .ok (.return_, 1) := by decide +kernel
theorem dX9_isText_0 : decode cX9_isText 0 = .ok (.iload_n 0, 1) := by decide +kernel
theorem dX9_isText_1 : decode cX9_isText 1 = .ok (.bipush 97, 2) := by decide +kernel
theorem dX9_isText_3 : decode cX9_isText 3 = .ok (.if_icmp .lt 9, 3) := by decide +kernel
theorem dX9_isText_6 : decode cX9_isText 6 = .ok (.iload_n 0, 1) := by decide +kernel
theorem dX9_isText_7 : decode cX9_isText 7 = .ok (.bipush 122, 2) := by decide +kernel
theorem dX9_isText_9 : decode cX9_isText 9 = .ok (.if_icmp .le 45, 3) := by decide +kernel
theorem dX9_isText_12 : decode cX9_isText 12 = .ok (.iload_n 0, 1) := by decide +kernel
theorem dX9_isText_13 : decode cX9_isText 13 = .ok (.bipush 48, 2) := by decide +kernel
theorem dX9_isText_15 : decode cX9_isText 15 = .ok (.if_icmp .lt 9, 3) := by decide +kernel
theorem dX9_isText_18 : decode cX9_isText 18 = .ok (.iload_n 0, 1) := by decide +kernel
theorem dX9_isText_19 : decode cX9_isText 19 = .ok (.bipush 57, 2) := by decide +kernel
theorem dX9_isText_21 : decode cX9_isText 21 = .ok (.if_icmp .le 33, 3) := by decide +kernel
theorem dX9_isText_24 : decode cX9_isText 24 = .ok (.iload_n 0, 1) := by decide +kernel
theorem dX9_isText_25 : decode cX9_isText 25 = .ok (.bipush 32, 2) := by decide +kernel
theorem dX9_isText_27 : decode cX9_isText 27 = .ok (.if_icmp .eq 27, 3) := by decide +kernel
theorem dX9_isText_30 : decode cX9_isText 30 = .ok (.iload_n 0, 1) := by decide +kernel
theorem dX9_isText_31 : decode cX9_isText 31 = .ok (.bipush 44, 2) := by decide +kernel
theorem dX9_isText_33 : decode cX9_isText 33 = .ok (.if_icmp .eq 21, 3) := by decide +kernel
theorem dX9_isText_36 : decode cX9_isText 36 = .ok (.iload_n 0, 1) := by decide +kernel
theorem dX9_isText_37 : decode cX9_isText 37 = .ok (.bipush 45, 2) := by decide +kernel
theorem dX9_isText_39 : decode cX9_isText 39 = .ok (.if_icmp .eq 15, 3) := by decide +kernel
theorem dX9_isText_42 : decode cX9_isText 42 = .ok (.iload_n 0, 1) := by decide +kernel
theorem dX9_isText_43 : decode cX9_isText 43 = .ok (.bipush 40, 2) := by decide +kernel
theorem dX9_isText_45 : decode cX9_isText 45 = .ok (.if_icmp .eq 9, 3) := by decide +kernel
theorem dX9_isText_48 : decode cX9_isText 48 = .ok (.iload_n 0, 1) := by decide +kernel
theorem dX9_isText_49 : decode cX9_isText 49 = .ok (.bipush 41, 2) := by decide +kernel
theorem dX9_isText_51 : decode cX9_isText 51 = .ok (.if_icmp .ne 7, 3) := by decide +kernel
theorem dX9_isText_54 : decode cX9_isText 54 = .ok (.iconst 1, 1) := by decide +kernel
theorem dX9_isText_55 : decode cX9_isText 55 = .ok (.goto 4, 3) := by decide +kernel
theorem dX9_isText_58 : decode cX9_isText 58 = .ok (.iconst 0, 1) := by decide +kernel
theorem dX9_isText_59 : decode cX9_isText 59 = .ok (.ireturn, 1) := by decide +kernel
theorem dX9_isName_0 : decode cX9_isName 0 = .ok (.iload_n 0, 1) := by decide +kernel
theorem dX9_isName_1 : decode cX9_isName 1 = .ok (.bipush 65, 2) := by decide +kernel
theorem dX9_isName_3 : decode cX9_isName 3 = .ok (.if_icmp .lt 13, 3) := by decide +kernel
theorem dX9_isName_6 : decode cX9_isName 6 = .ok (.iload_n 0, 1) := by decide +kernel
theorem dX9_isName_7 : decode cX9_isName 7 = .ok (.bipush 70, 2) := by decide +kernel
theorem dX9_isName_9 : decode cX9_isName 9 = .ok (.if_icmp .gt 7, 3) := by decide +kernel
theorem dX9_isName_12 : decode cX9_isName 12 = .ok (.iconst 1, 1) := by decide +kernel
theorem dX9_isName_13 : decode cX9_isName 13 = .ok (.goto 4, 3) := by decide +kernel
theorem dX9_isName_16 : decode cX9_isName 16 = .ok (.iconst 0, 1) := by decide +kernel
theorem dX9_isName_17 : decode cX9_isName 17 = .ok (.ireturn, 1) := by decide +kernel
theorem dX9_type_0 : decode cX9_type 0 = .ok (.iload_n 1, 1) := by decide +kernel
theorem dX9_type_1 : decode cX9_type 1 = .ok (.invokestatic 141, 3) := by decide +kernel
theorem dX9_type_4 : decode cX9_type 4 = .ok (.ifCond .eq 12, 3) := by decide +kernel
theorem dX9_type_7 : decode cX9_type 7 = .ok (.aload_n 0, 1) := by decide +kernel
theorem dX9_type_8 : decode cX9_type 8 = .ok (.getfield 145, 3) := by decide +kernel
theorem dX9_type_11 : decode cX9_type 11 = .ok (.bipush 32, 2) := by decide +kernel
theorem dX9_type_13 : decode cX9_type 13 = .ok (.if_icmp .ne 5, 3) := by decide +kernel
theorem dX9_type_16 : decode cX9_type 16 = .ok (.iconst 0, 1) := by decide +kernel
theorem dX9_type_17 : decode cX9_type 17 = .ok (.ireturn, 1) := by decide +kernel
theorem dX9_type_18 : decode cX9_type 18 = .ok (.aload_n 0, 1) := by decide +kernel
theorem dX9_type_19 : decode cX9_type 19 = .ok (.getfield 7, 3) := by decide +kernel
theorem dX9_type_22 : decode cX9_type 22 = .ok (.aload_n 0, 1) := by decide +kernel
theorem dX9_type_23 : decode cX9_type 23 = .ok (.getfield 145, 3) := by decide +kernel
theorem dX9_type_26 : decode cX9_type 26 = .ok (.iload_n 1, 1) := by decide +kernel
theorem dX9_type_27 : decode cX9_type 27 = .ok (.iastore, 1) := by decide +kernel
theorem dX9_type_28 : decode cX9_type 28 = .ok (.aload_n 0, 1) := by decide +kernel
theorem dX9_type_29 : decode cX9_type 29 = .ok (.dup, 1) := by decide +kernel
theorem dX9_type_30 : decode cX9_type 30 = .ok (.getfield 145, 3) := by decide +kernel
theorem dX9_type_33 : decode cX9_type 33 = .ok (.iconst 1, 1) := by decide +kernel
theorem dX9_type_34 : decode cX9_type 34 = .ok (.iadd, 1) := by decide +kernel
theorem dX9_type_35 : decode cX9_type 35 = .ok (.putfield 145, 3) := by decide +kernel
theorem dX9_type_38 : decode cX9_type 38 = .ok (.iconst 1, 1) := by decide +kernel
theorem dX9_type_39 : decode cX9_type 39 = .ok (.ireturn, 1) := by decide +kernel
theorem dX9_clear_0 : decode cX9_clear 0 = .ok (.aload_n 0, 1) := by decide +kernel
theorem dX9_clear_1 : decode cX9_clear 1 = .ok (.iconst 0, 1) := by decide +kernel
theorem dX9_clear_2 : decode cX9_clear 2 = .ok (.putfield 145, 3) := by decide +kernel
theorem dX9_clear_5 : decode cX9_clear 5 = .ok (.return_, 1) := by decide +kernel
theorem dX9_write_0 : decode cX9_write 0 = .ok (.iload_n 1, 1) := by decide +kernel
theorem dX9_write_1 : decode cX9_write 1 = .ok (.invokestatic 141, 3) := by decide +kernel
theorem dX9_write_4 : decode cX9_write 4 = .ok (.ifCond .ne 46, 3) := by decide +kernel
theorem dX9_write_7 : decode cX9_write 7 = .ok (.iload_n 1, 1) := by decide +kernel
theorem dX9_write_8 : decode cX9_write 8 = .ok (.invokestatic 149, 3) := by decide +kernel
theorem dX9_write_11 : decode cX9_write 11 = .ok (.ifCond .ne 39, 3) := by decide +kernel
theorem dX9_write_14 : decode cX9_write 14 = .ok (.iload_n 1, 1) := by decide +kernel
theorem dX9_write_15 : decode cX9_write 15 = .ok (.bipush 61, 2) := by decide +kernel
theorem dX9_write_17 : decode cX9_write 17 = .ok (.if_icmp .eq 33, 3) := by decide +kernel
