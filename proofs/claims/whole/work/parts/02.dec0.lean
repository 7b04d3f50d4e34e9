theorem dX0_init_0 : decode cX0_init 0 = .ok (.aload_n 0, 1) := by decide +kernel
theorem dX0_init_1 : decode cX0_init 1 = .ok (.invokespecial 3, 3) := by decide +kernel
theorem dX0_init_4 : decode cX0_init 4 = .ok (.aload_n 0, 1) := by decide +kernel
theorem dX0_init_5 : decode cX0_init 5 = .ok (.bipush 6, 2) := by decide +kernel
theorem dX0_init_7 : decode cX0_init 7 = .ok (.newarray .int, 2) := by decide +kernel
theorem dX0_init_9 : decode cX0_init 9 = .ok (.putfield 9, 3) := by decide +kernel
theorem dX0_init_12 : decode cX0_init 12 = .ok (.aload_n 0, 1) := by decide +kernel
theorem dX0_init_13 : decode cX0_init 13 = .ok (.bipush 60, 2) := by decide +kernel
theorem dX0_init_15 : decode cX0_init 15 = .ok (.newarray .char, 2) := by decide +kernel
theorem dX0_init_17 : decode cX0_init 17 = .ok (.putfield 15, 3) := by decide +kernel
theorem dX0_init_20 : decode cX0_init 20 = .ok (.aload_n 0, 1) := by decide +kernel
theorem dX0_init_21 : decode cX0_init 21 = .ok (.bipush 60, 2) := by decide +kernel
theorem dX0_init_23 : decode cX0_init 23 = .ok (.newarray .char, 2) := by decide +kernel
theorem dX0_init_25 : decode cX0_init 25 = .ok (.putfield 19, 3) := by decide +kernel
theorem dX0_init_28 : decode cX0_init 28 = .ok (.aload_n 0, 1) := by decide +kernel
theorem dX0_init_29 : decode cX0_init 29 = .ok (.bipush 60, 2) := by decide +kernel
theorem dX0_init_31 : decode cX0_init 31 = .ok (.newarray .int, 2) := by decide +kernel
theorem dX0_init_33 : decode cX0_init 33 = .ok (.putfield 22, 3) := by decide +kernel
theorem dX0_init_36 : decode cX0_init 36 = .ok (.aload_n 0, 1) := by decide +kernel
theorem dX0_init_37 : decode cX0_init 37 = .ok (.bipush 61, 2) := by decide +kernel
theorem dX0_init_39 : decode cX0_init 39 = .ok (.newarray .int, 2) := by decide +kernel
theorem dX0_init_41 : decode cX0_init 41 = .ok (.putfield 25, 3) := by decide +kernel
theorem dX0_init_44 : decode cX0_init 44 = .ok (.aload_n 0, 1) := by decide +kernel
theorem dX0_init_45 : decode cX0_init 45 = .ok (.bipush 6, 2) := by decide +kernel
theorem dX0_init_47 : decode cX0_init 47 = .ok (.newarray .int, 2) := by decide +kernel
theorem dX0_init_49 : decode cX0_init 49 = .ok (.putfield 28, 3) := by decide +kernel
theorem dX0_init_52 : decode cX0_init 52 = .ok (.aload_n 0, 1) := by decide +kernel
theorem dX0_init_53 : decode cX0_init 53 = .ok (.bipush 6, 2) := by decide +kernel
theorem dX0_init_55 : decode cX0_init 55 = .ok (.newarray .int, 2) := by decide +kernel
theorem dX0_init_57 : decode cX0_init 57 = .ok (.putfield 31, 3) := by decide +kernel
theorem dX0_init_60 : decode cX0_init 60 = .ok (.aload_n 0, 1) := by decide +kernel
theorem dX0_init_61 : decode cX0_init 61 = .ok (.bipush 6, 2) := by decide +kernel
theorem dX0_init_63 : decode cX0_init 63 = .ok (.newarray .boolean, 2) := by decide +kernel
theorem dX0_init_65 : decode cX0_init 65 = .ok (.putfield 34, 3) := by decide +kernel
theorem dX0_init_68 : decode cX0_init 68 = .ok (.aload_n 0, 1) := by decide +kernel
theorem dX0_init_69 : decode cX0_init 69 = .ok (.bipush 6, 2) := by decide +kernel
theorem dX0_init_71 : decode cX0_init 71 = .ok (.newarray .boolean, 2) := by decide +kernel
theorem dX0_init_73 : decode cX0_init 73 = .ok (.putfield 38, 3) := by decide +kernel
theorem dX0_init_76 : decode cX0_init 76 = .ok (.aload_n 0, 1) := by decide +kernel
theorem dX0_init_77 : decode cX0_init 77 = .ok (.bipush 6, 2) := by decide +kernel
theorem dX0_init_79 : decode cX0_init 79 = .ok (.newarray .boolean, 2) := by decide +kernel
theorem dX0_init_81 : decode cX0_init 81 = .ok (.putfield 41, 3) := by decide +kernel
theorem dX0_init_84 : decode cX0_init 84 = .ok (.return_, 1) := by decide +kernel
theorem dX0_become_0 : decode cX0_become 0 = .ok (.aload_n 0, 1) := by decide +kernel
theorem dX0_become_1 : decode cX0_become 1 = .ok (.invokevirtual 44, 3) := by decide +kernel
theorem dX0_become_4 : decode cX0_become 4 = .ok (.aload_n 0, 1) := by decide +kernel
theorem dX0_become_5 : decode cX0_become 5 = .ok (.aload_n 0, 1) := by decide +kernel
theorem dX0_become_6 : decode cX0_become 6 = .ok (.aload_n 1, 1) := by decide +kernel
theorem dX0_become_7 : decode cX0_become 7 = .ok (.iload_n 2, 1) := by decide +kernel
theorem dX0_become_8 : decode cX0_become 8 = .ok (.invokevirtual 47, 3) := by decide +kernel
theorem dX0_become_11 : decode cX0_become 11 = .ok (.ifCond .eq 14, 3) := by decide +kernel
theorem dX0_become_14 : decode cX0_become 14 = .ok (.aload_n 0, 1) := by decide +kernel
theorem dX0_become_15 : decode cX0_become 15 = .ok (.invokevirtual 51, 3) := by decide +kernel
theorem dX0_become_18 : decode cX0_become 18 = .ok (.ifCond .eq 7, 3) := by decide +kernel
theorem dX0_become_21 : decode cX0_become 21 = .ok (.iconst 1, 1) := by decide +kernel
theorem dX0_become_22 : decode cX0_become 22 = .ok (.goto 4, 3) := by decide +kernel
theorem dX0_become_25 : decode cX0_become 25 = .ok (.iconst 0, 1) := by decide +kernel
theorem dX0_become_26 : decode cX0_become 26 = .ok (.putfield 55, 3) := by decide +kernel
theorem dX0_become_29 : decode cX0_become 29 = .ok (.aload_n 0, 1) := by decide +kernel
theorem dX0_become_30 : decode cX0_become 30 = .ok (.getfield 55, 3) := by decide +kernel
theorem dX0_become_33 : decode cX0_become 33 = .ok (.ifCond .eq 31, 3) := by decide +kernel
theorem dX0_become_36 : decode cX0_become 36 = .ok (.aload_n 0, 1) := by decide +kernel
theorem dX0_become_37 : decode cX0_become 37 = .ok (.invokevirtual 59, 3) := by decide +kernel
theorem dX0_become_40 : decode cX0_become 40 = .ok (.aload_n 0, 1) := by decide +kernel
theorem dX0_become_41 : decode cX0_become 41 = .ok (.invokevirtual 62, 3) := by decide +kernel
theorem dX0_become_44 : decode cX0_become 44 = .ok (.aload_n 0, 1) := by decide +kernel
theorem dX0_become_45 : decode cX0_become 45 = .ok (.aload_n 0, 1) := by decide +kernel
theorem dX0_become_46 : decode cX0_become 46 = .ok (.getfield 65, 3) := by decide +kernel
theorem dX0_become_49 : decode cX0_become 49 = .ok (.aload_n 0, 1) := by decide +kernel
theorem dX0_become_50 : decode cX0_become 50 = .ok (.getfield 69, 3) := by decide +kernel
theorem dX0_become_53 : decode cX0_become 53 = .ok (.if_icmp .ne 7, 3) := by decide +kernel
theorem dX0_become_56 : decode cX0_become 56 = .ok (.iconst 1, 1) := by decide +kernel
theorem dX0_become_57 : decode cX0_become 57 = .ok (.goto 4, 3) := by decide +kernel
theorem dX0_become_60 : decode cX0_become 60 = .ok (.iconst 0, 1) := by decide +kernel
theorem dX0_become_61 : decode cX0_become 61 = .ok (.putfield 55, 3) := by decide +kernel
theorem dX0_become_64 : decode cX0_become 64 = .ok (.return_, 1) := by decide +kernel
theorem dX0_firstOf_0 : decode cX0_firstOf 0 = .ok (.iload_n 1, 1) := by decide +kernel
theorem dX0_firstOf_1 : decode cX0_firstOf 1 = .ok (.ifCond .lt 18, 3) := by decide +kernel
theorem dX0_firstOf_4 : decode cX0_firstOf 4 = .ok (.iload_n 1, 1) := by decide +kernel
theorem dX0_firstOf_5 : decode cX0_firstOf 5 = .ok (.bipush 6, 2) := by decide +kernel
theorem dX0_firstOf_7 : decode cX0_firstOf 7 = .ok (.if_icmp .ge 12, 3) := by decide +kernel
theorem dX0_firstOf_10 : decode cX0_firstOf 10 = .ok (.aload_n 0, 1) := by decide +kernel
theorem dX0_firstOf_11 : decode cX0_firstOf 11 = .ok (.getfield 34, 3) := by decide +kernel
theorem dX0_firstOf_14 : decode cX0_firstOf 14 = .ok (.iload_n 1, 1) := by decide +kernel
theorem dX0_firstOf_15 : decode cX0_firstOf 15 = .ok (.baload, 1) := by decide +kernel
theorem dX0_firstOf_16 : decode cX0_firstOf 16 = .ok (.ifCond .ne 7, 3) := by decide +kernel
theorem dX0_firstOf_19 : decode cX0_firstOf 19 = .ok (.iconst 0, 1) := by decide +kernel
theorem dX0_firstOf_20 : decode cX0_firstOf 20 = .ok (.goto 9, 3) := by decide +kernel
theorem dX0_firstOf_23 : decode cX0_firstOf 23 = .ok (.aload_n 0, 1) := by decide +kernel
theorem dX0_firstOf_24 : decode cX0_firstOf 24 = .ok (.getfield 28, 3) := by decide +kernel
theorem dX0_firstOf_27 : decode cX0_firstOf 27 = .ok (.iload_n 1, 1) := by decide +kernel
theorem dX0_firstOf_28 : decode cX0_firstOf 28 = .ok (.iaload, 1) := by decide +kernel
theorem dX0_firstOf_29 : decode cX0_firstOf 29 = .ok (.ireturn, 1) := by decide +kernel
theorem dX0_endOf_0 : decode cX0_endOf 0 = .ok (.iload_n 1, 1) := by decide +kernel
theorem dX0_endOf_1 : decode cX0_endOf 1 = .ok (.ifCond .lt 18, 3) := by decide +kernel
theorem dX0_endOf_4 : decode cX0_endOf 4 = .ok (.iload_n 1, 1) := by decide +kernel
theorem dX0_endOf_5 : decode cX0_endOf 5 = .ok (.bipush 6, 2) := by decide +kernel
theorem dX0_endOf_7 : decode cX0_endOf 7 = .ok (.if_icmp .ge 12, 3) := by decide +kernel
theorem dX0_endOf_10 : decode cX0_endOf 10 = .ok (.aload_n 0, 1) := by decide +kernel
theorem dX0_endOf_11 : decode cX0_endOf 11 = .ok (.getfield 34, 3) := by decide +kernel
theorem dX0_endOf_14 : decode cX0_endOf 14 = .ok (.iload_n 1, 1) := by decide +kernel
theorem dX0_endOf_15 : decode cX0_endOf 15 = .ok (.baload, 1) := by decide +kernel
theorem dX0_endOf_16 : decode cX0_endOf 16 = .ok (.ifCond .ne 7, 3) := by decide +kernel
theorem dX0_endOf_19 : decode cX0_endOf 19 = .ok (.iconst 0, 1) := by decide +kernel
theorem dX0_endOf_20 : decode cX0_endOf 20 = .ok (.goto 9, 3) := by decide +kernel
theorem dX0_endOf_23 : decode cX0_endOf 23 = .ok (.aload_n 0, 1) := by decide +kernel
theorem dX0_endOf_24 : decode cX0_endOf 24 = .ok (.getfield 31, 3) := by decide +kernel
theorem dX0_endOf_27 : decode cX0_endOf 27 = .ok (.iload_n 1, 1) := by decide +kernel
theorem dX0_endOf_28 : decode cX0_endOf 28 = .ok (.iaload, 1) := by decide +kernel
theorem dX0_endOf_29 : decode cX0_endOf 29 = .ok (.ireturn, 1) := by decide +kernel
theorem dX0_firstItemOf_0 : decode cX0_firstItemOf 0 = .ok (.iload_n 1, 1) := by decide +kernel
theorem dX0_firstItemOf_1 : decode cX0_firstItemOf 1 = .ok (.ifCond .lt 11, 3) := by decide +kernel
theorem dX0_firstItemOf_4 : decode cX0_firstItemOf 4 = .ok (.iload_n 1, 1) := by decide +kernel
theorem dX0_firstItemOf_5 : decode cX0_firstItemOf 5 = .ok (.aload_n 0, 1) := by decide +kernel
theorem dX0_firstItemOf_6 : decode cX0_firstItemOf 6 = .ok (.getfield 72, 3) := by decide +kernel
theorem dX0_firstItemOf_9 : decode cX0_firstItemOf 9 = .ok (.if_icmp .lt 7, 3) := by decide +kernel
theorem dX0_firstItemOf_12 : decode cX0_firstItemOf 12 = .ok (.iconst 0, 1) := by decide +kernel
theorem dX0_firstItemOf_13 : decode cX0_firstItemOf 13 = .ok (.goto 9, 3) := by decide +kernel
theorem dX0_firstItemOf_16 : decode cX0_firstItemOf 16 = .ok (.aload_n 0, 1) := by decide +kernel
theorem dX0_firstItemOf_17 : decode cX0_firstItemOf 17 = .ok (.getfield 25, 3) := by decide +kernel
theorem dX0_firstItemOf_20 : decode cX0_firstItemOf 20 = .ok (.iload_n 1, 1) := by decide +kernel
theorem dX0_firstItemOf_21 : decode cX0_firstItemOf 21 = .ok (.iaload, 1) := by decide +kernel
theorem dX0_firstItemOf_22 : decode cX0_firstItemOf 22 = .ok (.ireturn, 1) := by decide +kernel
theorem dX0_endItemOf_0 : decode cX0_endItemOf 0 = .ok (.iload_n 1, 1) := by decide +kernel
theorem dX0_endItemOf_1 : decode cX0_endItemOf 1 = .ok (.ifCond .lt 11, 3) := by decide +kernel
theorem dX0_endItemOf_4 : decode cX0_endItemOf 4 = .ok (.iload_n 1, 1) := by decide +kernel
theorem dX0_endItemOf_5 : decode cX0_endItemOf 5 = .ok (.aload_n 0, 1) := by decide +kernel
theorem dX0_endItemOf_6 : decode cX0_endItemOf 6 = .ok (.getfield 72, 3) := by decide +kernel
theorem dX0_endItemOf_9 : decode cX0_endItemOf 9 = .ok (.if_icmp .lt 7, 3) := by decide +kernel
theorem dX0_endItemOf_12 : decode cX0_endItemOf 12 = .ok (.iconst 0, 1) := by decide +kernel
theorem dX0_endItemOf_13 : decode cX0_endItemOf 13 = .ok (.goto 11, 3) := by decide +kernel
theorem dX0_endItemOf_16 : decode cX0_endItemOf 16 = .ok (.aload_n 0, 1) := by decide +kernel
theorem dX0_endItemOf_17 : decode cX0_endItemOf 17 = .ok (.getfield 25, 3) := by decide +kernel
theorem dX0_endItemOf_20 : decode cX0_endItemOf 20 = .ok (.iload_n 1, 1) := by decide +kernel
theorem dX0_endItemOf_21 : decode cX0_endItemOf 21 = .ok (.iconst 1, 1) := by decide +kernel
theorem dX0_endItemOf_22 : decode cX0_endItemOf 22 = .ok (.iadd, 1) := by decide +kernel
theorem dX0_endItemOf_23 : decode cX0_endItemOf 23 = .ok (.iaload, 1) := by decide +kernel
theorem dX0_endItemOf_24 : decode cX0_endItemOf 24 = .ok (.ireturn, 1) := by decide +kernel
theorem dX0_whatOf_0 : decode cX0_whatOf 0 = .ok (.iload_n 1, 1) := by decide +kernel
theorem dX0_whatOf_1 : decode cX0_whatOf 1 = .ok (.ifCond .lt 11, 3) := by decide +kernel
theorem dX0_whatOf_4 : decode cX0_whatOf 4 = .ok (.iload_n 1, 1) := by decide +kernel
theorem dX0_whatOf_5 : decode cX0_whatOf 5 = .ok (.aload_n 0, 1) := by decide +kernel
theorem dX0_whatOf_6 : decode cX0_whatOf 6 = .ok (.getfield 75, 3) := by decide +kernel
theorem dX0_whatOf_9 : decode cX0_whatOf 9 = .ok (.if_icmp .lt 8, 3) := by decide +kernel
theorem dX0_whatOf_12 : decode cX0_whatOf 12 = .ok (.bipush 32, 2) := by decide +kernel
theorem dX0_whatOf_14 : decode cX0_whatOf 14 = .ok (.goto 9, 3) := by decide +kernel
theorem dX0_whatOf_17 : decode cX0_whatOf 17 = .ok (.aload_n 0, 1) := by decide +kernel
theorem dX0_whatOf_18 : decode cX0_whatOf 18 = .ok (.getfield 15, 3) := by decide +kernel
theorem dX0_whatOf_21 : decode cX0_whatOf 21 = .ok (.iload_n 1, 1) := by decide +kernel
theorem dX0_whatOf_22 : decode cX0_whatOf 22 = .ok (.caload, 1) := by decide +kernel
theorem dX0_whatOf_23 : decode cX0_whatOf 23 = .ok (.ireturn, 1) := by decide +kernel
theorem dX0_ruleOf_0 : decode cX0_ruleOf 0 = .ok (.iload_n 1, 1) := by decide +kernel
theorem dX0_ruleOf_1 : decode cX0_ruleOf 1 = .ok (.ifCond .lt 11, 3) := by decide +kernel
theorem dX0_ruleOf_4 : decode cX0_ruleOf 4 = .ok (.iload_n 1, 1) := by decide +kernel
theorem dX0_ruleOf_5 : decode cX0_ruleOf 5 = .ok (.aload_n 0, 1) := by decide +kernel
theorem dX0_ruleOf_6 : decode cX0_ruleOf 6 = .ok (.getfield 75, 3) := by decide +kernel
theorem dX0_ruleOf_9 : decode cX0_ruleOf 9 = .ok (.if_icmp .lt 8, 3) := by decide +kernel
theorem dX0_ruleOf_12 : decode cX0_ruleOf 12 = .ok (.bipush 6, 2) := by decide +kernel
theorem dX0_ruleOf_14 : decode cX0_ruleOf 14 = .ok (.goto 9, 3) := by decide +kernel
theorem dX0_ruleOf_17 : decode cX0_ruleOf 17 = .ok (.aload_n 0, 1) := by decide +kernel
theorem dX0_ruleOf_18 : decode cX0_ruleOf 18 = .ok (.getfield 22, 3) := by decide +kernel
theorem dX0_ruleOf_21 : decode cX0_ruleOf 21 = .ok (.iload_n 1, 1) := by decide +kernel
theorem dX0_ruleOf_22 : decode cX0_ruleOf 22 = .ok (.iaload, 1) := by decide +kernel
theorem dX0_ruleOf_23 : decode cX0_ruleOf 23 = .ok (.ireturn, 1) := by decide +kernel
theorem dX0_hasTail_0 : decode cX0_hasTail 0 = .ok (.iload_n 1, 1) := by decide +kernel
theorem dX0_hasTail_1 : decode cX0_hasTail 1 = .ok (.ifCond .lt 26, 3) := by decide +kernel
theorem dX0_hasTail_4 : decode cX0_hasTail 4 = .ok (.iload_n 1, 1) := by decide +kernel
theorem dX0_hasTail_5 : decode cX0_hasTail 5 = .ok (.aload_n 0, 1) := by decide +kernel
theorem dX0_hasTail_6 : decode cX0_hasTail 6 = .ok (.getfield 75, 3) := by decide +kernel
theorem dX0_hasTail_9 : decode cX0_hasTail 9 = .ok (.if_icmp .ge 18, 3) := by decide +kernel
theorem dX0_hasTail_12 : decode cX0_hasTail 12 = .ok (.aload_n 0, 1) := by decide +kernel
theorem dX0_hasTail_13 : decode cX0_hasTail 13 = .ok (.getfield 19, 3) := by decide +kernel
theorem dX0_hasTail_16 : decode cX0_hasTail 16 = .ok (.iload_n 1, 1) := by decide +kernel
theorem dX0_hasTail_17 : decode cX0_hasTail 17 = .ok (.caload, 1) := by decide +kernel
theorem dX0_hasTail_18 : decode cX0_hasTail 18 = .ok (.bipush 32, 2) := by decide +kernel
theorem dX0_hasTail_20 : decode cX0_hasTail 20 = .ok (.if_icmp .eq 7, 3) := by decide +kernel
theorem dX0_hasTail_23 : decode cX0_hasTail 23 = .ok (.iconst 1, 1) := by decide +kernel
theorem dX0_hasTail_24 : decode cX0_hasTail 24 = .ok (.goto 4, 3) := by decide +kernel
theorem dX0_hasTail_27 : decode cX0_hasTail 27 = .ok (.iconst 0, 1) := by decide +kernel
theorem dX0_hasTail_28 : decode cX0_hasTail 28 = .ok (.ireturn, 1) := by decide +kernel
theorem dX0_hasStar_0 : decode cX0_hasStar 0 = .ok (.iload_n 1, 1) := by decide +kernel
theorem dX0_hasStar_1 : decode cX0_hasStar 1 = .ok (.ifCond .lt 26, 3) := by decide +kernel
theorem dX0_hasStar_4 : decode cX0_hasStar 4 = .ok (.iload_n 1, 1) := by decide +kernel
theorem dX0_hasStar_5 : decode cX0_hasStar 5 = .ok (.aload_n 0, 1) := by decide +kernel
theorem dX0_hasStar_6 : decode cX0_hasStar 6 = .ok (.getfield 75, 3) := by decide +kernel
theorem dX0_hasStar_9 : decode cX0_hasStar 9 = .ok (.if_icmp .ge 18, 3) := by decide +kernel
theorem dX0_hasStar_12 : decode cX0_hasStar 12 = .ok (.aload_n 0, 1) := by decide +kernel
theorem dX0_hasStar_13 : decode cX0_hasStar 13 = .ok (.getfield 19, 3) := by decide +kernel
theorem dX0_hasStar_16 : decode cX0_hasStar 16 = .ok (.iload_n 1, 1) := by decide +kernel
theorem dX0_hasStar_17 : decode cX0_hasStar 17 = .ok (.caload, 1) := by decide +kernel
theorem dX0_hasStar_18 : decode cX0_hasStar 18 = .ok (.bipush 42, 2) := by decide +kernel
theorem dX0_hasStar_20 : decode cX0_hasStar 20 = .ok (.if_icmp .ne 7, 3) := by decide +kernel
theorem dX0_hasStar_23 : decode cX0_hasStar 23 = .ok (.iconst 1, 1) := by decide +kernel
theorem dX0_hasStar_24 : decode cX0_hasStar 24 = .ok (.goto 4, 3) := by decide +kernel
theorem dX0_hasStar_27 : decode cX0_hasStar 27 = .ok (.iconst 0, 1) := by decide +kernel
theorem dX0_hasStar_28 : decode cX0_hasStar 28 = .ok (.ireturn, 1) := by decide +kernel
theorem dX0_mayRepeat_0 : decode cX0_mayRepeat 0 = .ok (.iload_n 1, 1) := by decide +kernel
theorem dX0_mayRepeat_1 : decode cX0_mayRepeat 1 = .ok (.ifCond .lt 37, 3) := by decide +kernel
theorem dX0_mayRepeat_4 : decode cX0_mayRepeat 4 = .ok (.iload_n 1, 1) := by decide +kernel
theorem dX0_mayRepeat_5 : decode cX0_mayRepeat 5 = .ok (.aload_n 0, 1) := by decide +kernel
theorem dX0_mayRepeat_6 : decode cX0_mayRepeat 6 = .ok (.getfield 75, 3) := by decide +kernel
theorem dX0_mayRepeat_9 : decode cX0_mayRepeat 9 = .ok (.if_icmp .ge 29, 3) := by decide +kernel
theorem dX0_mayRepeat_12 : decode cX0_mayRepeat 12 = .ok (.aload_n 0, 1) := by decide +kernel
theorem dX0_mayRepeat_13 : decode cX0_mayRepeat 13 = .ok (.getfield 19, 3) := by decide +kernel
theorem dX0_mayRepeat_16 : decode cX0_mayRepeat 16 = .ok (.iload_n 1, 1) := by decide +kernel
theorem dX0_mayRepeat_17 : decode cX0_mayRepeat 17 = .ok (.caload, 1) := by decide +kernel
theorem dX0_mayRepeat_18 : decode cX0_mayRepeat 18 = .ok (.bipush 42, 2) := by decide +kernel
theorem dX0_mayRepeat_20 : decode cX0_mayRepeat 20 = .ok (.if_icmp .eq 14, 3) := by decide +kernel
theorem dX0_mayRepeat_23 : decode cX0_mayRepeat 23 = .ok (.aload_n 0, 1) := by decide +kernel
theorem dX0_mayRepeat_24 : decode cX0_mayRepeat 24 = .ok (.getfield 19, 3) := by decide +kernel
theorem dX0_mayRepeat_27 : decode cX0_mayRepeat 27 = .ok (.iload_n 1, 1) := by decide +kernel
theorem dX0_mayRepeat_28 : decode cX0_mayRepeat 28 = .ok (.caload, 1) := by decide +kernel
theorem dX0_mayRepeat_29 : decode cX0_mayRepeat 29 = .ok (.bipush 43, 2) := by decide +kernel
theorem dX0_mayRepeat_31 : decode cX0_mayRepeat 31 = .ok (.if_icmp .ne 7, 3) := by decide +kernel
theorem dX0_mayRepeat_34 : decode cX0_mayRepeat 34 = .ok (.iconst 1, 1) := by decide +kernel
theorem dX0_mayRepeat_35 : decode cX0_mayRepeat 35 = .ok (.goto 4, 3) := by decide +kernel
theorem dX0_mayRepeat_38 : decode cX0_mayRepeat 38 = .ok (.iconst 0, 1) := by decide +kernel
theorem dX0_mayRepeat_39 : decode cX0_mayRepeat 39 = .ok (.ireturn, 1) := by decide +kernel
theorem dX0_mayBeLeftOut_0 : decode cX0_mayBeLeftOut 0 = .ok (.iload_n 1, 1) := by decide +kernel
theorem dX0_mayBeLeftOut_1 : decode cX0_mayBeLeftOut 1 = .ok (.ifCond .lt 37, 3) := by decide +kernel
theorem dX0_mayBeLeftOut_4 : decode cX0_mayBeLeftOut 4 = .ok (.iload_n 1, 1) := by decide +kernel
theorem dX0_mayBeLeftOut_5 : decode cX0_mayBeLeftOut 5 = .ok (.aload_n 0, 1) := by decide +kernel
theorem dX0_mayBeLeftOut_6 : decode cX0_mayBeLeftOut 6 = .ok (.getfield 75, 3) := by decide +kernel
theorem dX0_mayBeLeftOut_9 : decode cX0_mayBeLeftOut 9 = .ok (.if_icmp .ge 29, 3) := by decide +kernel
theorem dX0_mayBeLeftOut_12 : decode cX0_mayBeLeftOut 12 = .ok (.aload_n 0, 1) := by decide +kernel
theorem dX0_mayBeLeftOut_13 : decode cX0_mayBeLeftOut 13 = .ok (.getfield 19, 3) := by decide +kernel
theorem dX0_mayBeLeftOut_16 : decode cX0_mayBeLeftOut 16 = .ok (.iload_n 1, 1) := by decide +kernel
theorem dX0_mayBeLeftOut_17 : decode cX0_mayBeLeftOut 17 = .ok (.caload, 1) := by decide +kernel
theorem dX0_mayBeLeftOut_18 : decode cX0_mayBeLeftOut 18 = .ok (.bipush 42, 2) := by decide +kernel
theorem dX0_mayBeLeftOut_20 : decode cX0_mayBeLeftOut 20 = .ok (.if_icmp .eq 14, 3) := by decide +kernel
theorem dX0_mayBeLeftOut_23 : decode cX0_mayBeLeftOut 23 = .ok (.aload_n 0, 1) := by decide +kernel
theorem dX0_mayBeLeftOut_24 : decode cX0_mayBeLeftOut 24 = .ok (.getfield 19, 3) := by decide +kernel
theorem dX0_mayBeLeftOut_27 : decode cX0_mayBeLeftOut 27 = .ok (.iload_n 1, 1) := by decide +kernel
theorem dX0_mayBeLeftOut_28 : decode cX0_mayBeLeftOut 28 = .ok (.caload, 1) := by decide +kernel
theorem dX0_mayBeLeftOut_29 : decode cX0_mayBeLeftOut 29 = .ok (.bipush 63, 2) := by decide +kernel
theorem dX0_mayBeLeftOut_31 : decode cX0_mayBeLeftOut 31 = .ok (.if_icmp .ne 7, 3) := by decide +kernel
theorem dX0_mayBeLeftOut_34 : decode cX0_mayBeLeftOut 34 = .ok (.iconst 1, 1) := by decide +kernel
theorem dX0_mayBeLeftOut_35 : decode cX0_mayBeLeftOut 35 = .ok (.goto 4, 3) := by decide +kernel
theorem dX0_mayBeLeftOut_38 : decode cX0_mayBeLeftOut 38 = .ok (.iconst 0, 1) := by decide +kernel
theorem dX0_mayBeLeftOut_39 : decode cX0_mayBeLeftOut 39 = .ok (.ireturn, 1) := by decide +kernel
theorem dX0_forget_0 : decode cX0_forget 0 = .ok (.aload_n 0, 1) := by decide +kernel
theorem dX0_forget_1 : decode cX0_forget 1 = .ok (.iconst 0, 1) := by decide +kernel
theorem dX0_forget_2 : decode cX0_forget 2 = .ok (.putfield 69, 3) := by decide +kernel
theorem dX0_forget_5 : decode cX0_forget 5 = .ok (.aload_n 0, 1) := by decide +kernel
theorem dX0_forget_6 : decode cX0_forget 6 = .ok (.iconst 0, 1) := by decide +kernel
theorem dX0_forget_7 : decode cX0_forget 7 = .ok (.putfield 65, 3) := by decide +kernel
theorem dX0_forget_10 : decode cX0_forget 10 = .ok (.aload_n 0, 1) := by decide +kernel
theorem dX0_forget_11 : decode cX0_forget 11 = .ok (.iconst 0, 1) := by decide +kernel
theorem dX0_forget_12 : decode cX0_forget 12 = .ok (.putfield 75, 3) := by decide +kernel
theorem dX0_forget_15 : decode cX0_forget 15 = .ok (.aload_n 0, 1) := by decide +kernel
theorem dX0_forget_16 : decode cX0_forget 16 = .ok (.iconst 0, 1) := by decide +kernel
theorem dX0_forget_17 : decode cX0_forget 17 = .ok (.putfield 72, 3) := by decide +kernel
theorem dX0_forget_20 : decode cX0_forget 20 = .ok (.iconst 0, 1) := by decide +kernel
theorem dX0_forget_21 : decode cX0_forget 21 = .ok (.istore_n 1, 1) := by decide +kernel
theorem dX0_forget_22 : decode cX0_forget 22 = .ok (.iload_n 1, 1) := by decide +kernel
theorem dX0_forget_23 : decode cX0_forget 23 = .ok (.bipush 6, 2) := by decide +kernel
theorem dX0_forget_25 : decode cX0_forget 25 = .ok (.if_icmp .ge 30, 3) := by decide +kernel
theorem dX0_forget_28 : decode cX0_forget 28 = .ok (.aload_n 0, 1) := by decide +kernel
theorem dX0_forget_29 : decode cX0_forget 29 = .ok (.getfield 34, 3) := by decide +kernel
theorem dX0_forget_32 : decode cX0_forget 32 = .ok (.iload_n 1, 1) := by decide +kernel
theorem dX0_forget_33 : decode cX0_forget 33 = .ok (.iconst 0, 1) := by decide +kernel
theorem dX0_forget_34 : decode cX0_forget 34 = .ok (.bastore, 1) := by decide +kernel
theorem dX0_forget_35 : decode cX0_forget 35 = .ok (.aload_n 0, 1) := by decide +kernel
theorem dX0_forget_36 : decode cX0_forget 36 = .ok (.getfield 38, 3) := by decide +kernel
theorem dX0_forget_39 : decode cX0_forget 39 = .ok (.iload_n 1, 1) := by decide +kernel
theorem dX0_forget_40 : decode cX0_forget 40 = .ok (.iconst 0, 1) := by decide +kernel
theorem dX0_forget_41 : decode cX0_forget 41 = .ok (.bastore, 1) := by decide +kernel
theorem dX0_forget_42 : decode cX0_forget 42 = .ok (.aload_n 0, 1) := by decide +kernel
theorem dX0_forget_43 : decode cX0_forget 43 = .ok (.getfield 41, 3) := by decide +kernel
theorem dX0_forget_46 : decode cX0_forget 46 = .ok (.iload_n 1, 1) := by decide +kernel
theorem dX0_forget_47 : decode cX0_forget 47 = .ok (.iconst 0, 1) := by decide +kernel
theorem dX0_forget_48 : decode cX0_forget 48 = .ok (.bastore, 1) := by decide +kernel
theorem dX0_forget_49 : decode cX0_forget 49 = .ok (.iinc 1 1, 3) := by decide +kernel
theorem dX0_forget_52 : decode cX0_forget 52 = .ok (.goto (-30), 3) := by decide +kernel
theorem dX0_forget_55 : decode cX0_forget 55 = .ok (.return_, 1) := by decide +kernel
theorem dX0_isCut_0 : decode cX0_isCut 0 = .ok (.iconst 0, 1) := by decide +kernel
theorem dX0_isCut_1 : decode cX0_isCut 1 = .ok (.istore_n 3, 1) := by decide +kernel
theorem dX0_isCut_2 : decode cX0_isCut 2 = .ok (.iconst 0, 1) := by decide +kernel
theorem dX0_isCut_3 : decode cX0_isCut 3 = .ok (.istore 4, 2) := by decide +kernel
theorem dX0_isCut_5 : decode cX0_isCut 5 = .ok (.iload 4, 2) := by decide +kernel
theorem dX0_isCut_7 : decode cX0_isCut 7 = .ok (.iload_n 2, 1) := by decide +kernel
theorem dX0_isCut_8 : decode cX0_isCut 8 = .ok (.if_icmp .ge 33, 3) := by decide +kernel
theorem dX0_isCut_11 : decode cX0_isCut 11 = .ok (.iload 4, 2) := by decide +kernel
theorem dX0_isCut_13 : decode cX0_isCut 13 = .ok (.aload_n 1, 1) := by decide +kernel
theorem dX0_isCut_14 : decode cX0_isCut 14 = .ok (.arraylength, 1) := by decide +kernel
theorem dX0_isCut_15 : decode cX0_isCut 15 = .ok (.if_icmp .ge 26, 3) := by decide +kernel
theorem dX0_isCut_18 : decode cX0_isCut 18 = .ok (.aload_n 0, 1) := by decide +kernel
theorem dX0_isCut_19 : decode cX0_isCut 19 = .ok (.iload_n 3, 1) := by decide +kernel
theorem dX0_isCut_20 : decode cX0_isCut 20 = .ok (.aload_n 1, 1) := by decide +kernel
theorem dX0_isCut_21 : decode cX0_isCut 21 = .ok (.iload 4, 2) := by decide +kernel
theorem dX0_isCut_23 : decode cX0_isCut 23 = .ok (.caload, 1) := by decide +kernel
theorem dX0_isCut_24 : decode cX0_isCut 24 = .ok (.invokevirtual 78, 3) := by decide +kernel
theorem dX0_isCut_27 : decode cX0_isCut 27 = .ok (.istore_n 3, 1) := by decide +kernel
theorem dX0_isCut_28 : decode cX0_isCut 28 = .ok (.iload_n 3, 1) := by decide +kernel
theorem dX0_isCut_29 : decode cX0_isCut 29 = .ok (.iconst (-1), 1) := by decide +kernel
theorem dX0_isCut_30 : decode cX0_isCut 30 = .ok (.if_icmp .ne 5, 3) := by decide +kernel
theorem dX0_isCut_33 : decode cX0_isCut 33 = .ok (.iconst 0, 1) := by decide +kernel
theorem dX0_isCut_34 : decode cX0_isCut 34 = .ok (.ireturn, 1) := by decide +kernel
theorem dX0_isCut_35 : decode cX0_isCut 35 = .ok (.iinc 4 1, 3) := by decide +kernel
theorem dX0_isCut_38 : decode cX0_isCut 38 = .ok (.goto (-33), 3) := by decide +kernel
theorem dX0_isCut_41 : decode cX0_isCut 41 = .ok (.aload_n 0, 1) := by decide +kernel
theorem dX0_isCut_42 : decode cX0_isCut 42 = .ok (.getfield 25, 3) := by decide +kernel
theorem dX0_isCut_45 : decode cX0_isCut 45 = .ok (.aload_n 0, 1) := by decide +kernel
theorem dX0_isCut_46 : decode cX0_isCut 46 = .ok (.getfield 72, 3) := by decide +kernel
theorem dX0_isCut_49 : decode cX0_isCut 49 = .ok (.aload_n 0, 1) := by decide +kernel
theorem dX0_isCut_50 : decode cX0_isCut 50 = .ok (.getfield 75, 3) := by decide +kernel
theorem dX0_isCut_53 : decode cX0_isCut 53 = .ok (.iastore, 1) := by decide +kernel
theorem dX0_isCut_54 : decode cX0_isCut 54 = .ok (.iload_n 3, 1) := by decide +kernel
theorem dX0_isCut_55 : decode cX0_isCut 55 = .ok (.ifCond .ne 14, 3) := by decide +kernel
theorem dX0_isCut_58 : decode cX0_isCut 58 = .ok (.aload_n 0, 1) := by decide +kernel
theorem dX0_isCut_59 : decode cX0_isCut 59 = .ok (.getfield 69, 3) := by decide +kernel
theorem dX0_isCut_62 : decode cX0_isCut 62 = .ok (.ifCond .le 7, 3) := by decide +kernel
theorem dX0_isCut_65 : decode cX0_isCut 65 = .ok (.iconst 1, 1) := by decide +kernel
theorem dX0_isCut_66 : decode cX0_isCut 66 = .ok (.goto 4, 3) := by decide +kernel
theorem dX0_isCut_69 : decode cX0_isCut 69 = .ok (.iconst 0, 1) := by decide +kernel
theorem dX0_isCut_70 : decode cX0_isCut 70 = .ok (.ireturn, 1) := by decide +kernel
theorem dX0_step_0 : decode cX0_step 0 = .ok (.iload_n 1, 1) := by decide +kernel
theorem dX0_step_1 : decode cX0_step 1 = .ok (.ifCond .ne 17, 3) := by decide +kernel
theorem dX0_step_4 : decode cX0_step 4 = .ok (.aload_n 0, 1) := by decide +kernel
theorem dX0_step_5 : decode cX0_step 5 = .ok (.iload_n 2, 1) := by decide +kernel
theorem dX0_step_6 : decode cX0_step 6 = .ok (.invokevirtual 82, 3) := by decide +kernel
theorem dX0_step_9 : decode cX0_step 9 = .ok (.ifCond .eq 7, 3) := by decide +kernel
theorem dX0_step_12 : decode cX0_step 12 = .ok (.iconst 1, 1) := by decide +kernel
theorem dX0_step_13 : decode cX0_step 13 = .ok (.goto 4, 3) := by decide +kernel
theorem dX0_step_16 : decode cX0_step 16 = .ok (.iconst (-1), 1) := by decide +kernel
theorem dX0_step_17 : decode cX0_step 17 = .ok (.ireturn, 1) := by decide +kernel
theorem dX0_step_18 : decode cX0_step 18 = .ok (.iload_n 1, 1) := by decide +kernel
theorem dX0_step_19 : decode cX0_step 19 = .ok (.iconst 1, 1) := by decide +kernel
theorem dX0_step_20 : decode cX0_step 20 = .ok (.if_icmp .ne 15, 3) := by decide +kernel
theorem dX0_step_23 : decode cX0_step 23 = .ok (.iload_n 2, 1) := by decide +kernel
theorem dX0_step_24 : decode cX0_step 24 = .ok (.bipush 61, 2) := by decide +kernel
theorem dX0_step_26 : decode cX0_step 26 = .ok (.if_icmp .ne 7, 3) := by decide +kernel
theorem dX0_step_29 : decode cX0_step 29 = .ok (.iconst 2, 1) := by decide +kernel
theorem dX0_step_30 : decode cX0_step 30 = .ok (.goto 4, 3) := by decide +kernel
theorem dX0_step_33 : decode cX0_step 33 = .ok (.iconst (-1), 1) := by decide +kernel
theorem dX0_step_34 : decode cX0_step 34 = .ok (.ireturn, 1) := by decide +kernel
theorem dX0_step_35 : decode cX0_step 35 = .ok (.iload_n 2, 1) := by decide +kernel
theorem dX0_step_36 : decode cX0_step 36 = .ok (.bipush 59, 2) := by decide +kernel
theorem dX0_step_38 : decode cX0_step 38 = .ok (.if_icmp .ne 18, 3) := by decide +kernel
theorem dX0_step_41 : decode cX0_step 41 = .ok (.aload_n 0, 1) := by decide +kernel
theorem dX0_step_42 : decode cX0_step 42 = .ok (.getfield 31, 3) := by decide +kernel
theorem dX0_step_45 : decode cX0_step 45 = .ok (.aload_n 0, 1) := by decide +kernel
theorem dX0_step_46 : decode cX0_step 46 = .ok (.getfield 86, 3) := by decide +kernel
theorem dX0_step_49 : decode cX0_step 49 = .ok (.aload_n 0, 1) := by decide +kernel
theorem dX0_step_50 : decode cX0_step 50 = .ok (.getfield 72, 3) := by decide +kernel
theorem dX0_step_53 : decode cX0_step 53 = .ok (.iastore, 1) := by decide +kernel
theorem dX0_step_54 : decode cX0_step 54 = .ok (.iconst 0, 1) := by decide +kernel
theorem dX0_step_55 : decode cX0_step 55 = .ok (.ireturn, 1) := by decide +kernel
theorem dX0_step_56 : decode cX0_step 56 = .ok (.iload_n 2, 1) := by decide +kernel
theorem dX0_step_57 : decode cX0_step 57 = .ok (.bipush 47, 2) := by decide +kernel
theorem dX0_step_59 : decode cX0_step 59 = .ok (.if_icmp .ne 9, 3) := by decide +kernel
theorem dX0_step_62 : decode cX0_step 62 = .ok (.aload_n 0, 1) := by decide +kernel
theorem dX0_step_63 : decode cX0_step 63 = .ok (.invokevirtual 89, 3) := by decide +kernel
theorem dX0_step_66 : decode cX0_step 66 = .ok (.iconst 2, 1) := by decide +kernel
theorem dX0_step_67 : decode cX0_step 67 = .ok (.ireturn, 1) := by decide +kernel
theorem dX0_step_68 : decode cX0_step 68 = .ok (.iload_n 2, 1) := by decide +kernel
theorem dX0_step_69 : decode cX0_step 69 = .ok (.invokestatic 92, 3) := by decide +kernel
theorem dX0_step_72 : decode cX0_step 72 = .ok (.ifCond .eq 32, 3) := by decide +kernel
theorem dX0_step_75 : decode cX0_step 75 = .ok (.iload_n 1, 1) := by decide +kernel
theorem dX0_step_76 : decode cX0_step 76 = .ok (.iconst 3, 1) := by decide +kernel
theorem dX0_step_77 : decode cX0_step 77 = .ok (.if_icmp .ne 11, 3) := by decide +kernel
theorem dX0_step_80 : decode cX0_step 80 = .ok (.aload_n 0, 1) := by decide +kernel
theorem dX0_step_81 : decode cX0_step 81 = .ok (.getfield 75, 3) := by decide +kernel
theorem dX0_step_84 : decode cX0_step 84 = .ok (.iconst 1, 1) := by decide +kernel
theorem dX0_step_85 : decode cX0_step 85 = .ok (.if_icmp .ge 5, 3) := by decide +kernel
theorem dX0_step_88 : decode cX0_step 88 = .ok (.iconst (-1), 1) := by decide +kernel
theorem dX0_step_89 : decode cX0_step 89 = .ok (.ireturn, 1) := by decide +kernel
theorem dX0_step_90 : decode cX0_step 90 = .ok (.aload_n 0, 1) := by decide +kernel
theorem dX0_step_91 : decode cX0_step 91 = .ok (.getfield 19, 3) := by decide +kernel
theorem dX0_step_94 : decode cX0_step 94 = .ok (.aload_n 0, 1) := by decide +kernel
theorem dX0_step_95 : decode cX0_step 95 = .ok (.getfield 75, 3) := by decide +kernel
theorem dX0_step_98 : decode cX0_step 98 = .ok (.iconst 1, 1) := by decide +kernel
theorem dX0_step_99 : decode cX0_step 99 = .ok (.isub, 1) := by decide +kernel
theorem dX0_step_100 : decode cX0_step 100 = .ok (.iload_n 2, 1) := by decide +kernel
theorem dX0_step_101 : decode cX0_step 101 = .ok (.castore, 1) := by decide +kernel
theorem dX0_step_102 : decode cX0_step 102 = .ok (.iconst 2, 1) := by decide +kernel
theorem dX0_step_103 : decode cX0_step 103 = .ok (.ireturn, 1) := by decide +kernel
theorem dX0_step_104 : decode cX0_step 104 = .ok (.iload_n 2, 1) := by decide +kernel
theorem dX0_step_105 : decode cX0_step 105 = .ok (.bipush 61, 2) := by decide +kernel
theorem dX0_step_107 : decode cX0_step 107 = .ok (.if_icmp .eq 15, 3) := by decide +kernel
theorem dX0_step_110 : decode cX0_step 110 = .ok (.aload_n 0, 1) := by decide +kernel
theorem dX0_step_111 : decode cX0_step 111 = .ok (.iload_n 2, 1) := by decide +kernel
theorem dX0_step_112 : decode cX0_step 112 = .ok (.invokevirtual 95, 3) := by decide +kernel
theorem dX0_step_115 : decode cX0_step 115 = .ok (.ifCond .eq 7, 3) := by decide +kernel
theorem dX0_step_118 : decode cX0_step 118 = .ok (.iconst 3, 1) := by decide +kernel
theorem dX0_step_119 : decode cX0_step 119 = .ok (.goto 4, 3) := by decide +kernel
theorem dX0_step_122 : decode cX0_step 122 = .ok (.iconst (-1), 1) := by decide +kernel
theorem dX0_step_123 : decode cX0_step 123 = .ok (.ireturn, 1) := by decide +kernel
theorem dX0_opens_0 : decode cX0_opens 0 = .ok (.iload_n 1, 1) := by decide +kernel
theorem dX0_opens_1 : decode cX0_opens 1 = .ok (.invokestatic 98, 3) := by decide +kernel
theorem dX0_opens_4 : decode cX0_opens 4 = .ok (.ifCond .eq 15, 3) := by decide +kernel
theorem dX0_opens_7 : decode cX0_opens 7 = .ok (.aload_n 0, 1) := by decide +kernel
theorem dX0_opens_8 : decode cX0_opens 8 = .ok (.getfield 34, 3) := by decide +kernel
theorem dX0_opens_11 : decode cX0_opens 11 = .ok (.iload_n 1, 1) := by decide +kernel
theorem dX0_opens_12 : decode cX0_opens 12 = .ok (.bipush 65, 2) := by decide +kernel
theorem dX0_opens_14 : decode cX0_opens 14 = .ok (.isub, 1) := by decide +kernel
theorem dX0_opens_15 : decode cX0_opens 15 = .ok (.baload, 1) := by decide +kernel
theorem dX0_opens_16 : decode cX0_opens 16 = .ok (.ifCond .eq 5, 3) := by decide +kernel
theorem dX0_opens_19 : decode cX0_opens 19 = .ok (.iconst 0, 1) := by decide +kernel
theorem dX0_opens_20 : decode cX0_opens 20 = .ok (.ireturn, 1) := by decide +kernel
theorem dX0_opens_21 : decode cX0_opens 21 = .ok (.aload_n 0, 1) := by decide +kernel
theorem dX0_opens_22 : decode cX0_opens 22 = .ok (.iload_n 1, 1) := by decide +kernel
theorem dX0_opens_23 : decode cX0_opens 23 = .ok (.bipush 65, 2) := by decide +kernel
theorem dX0_opens_25 : decode cX0_opens 25 = .ok (.isub, 1) := by decide +kernel
theorem dX0_opens_26 : decode cX0_opens 26 = .ok (.putfield 86, 3) := by decide +kernel
theorem dX0_opens_29 : decode cX0_opens 29 = .ok (.aload_n 0, 1) := by decide +kernel
theorem dX0_opens_30 : decode cX0_opens 30 = .ok (.getfield 34, 3) := by decide +kernel
theorem dX0_opens_33 : decode cX0_opens 33 = .ok (.aload_n 0, 1) := by decide +kernel
theorem dX0_opens_34 : decode cX0_opens 34 = .ok (.getfield 86, 3) := by decide +kernel
theorem dX0_opens_37 : decode cX0_opens 37 = .ok (.iconst 1, 1) := by decide +kernel
theorem dX0_opens_38 : decode cX0_opens 38 = .ok (.bastore, 1) := by decide +kernel
theorem dX0_opens_39 : decode cX0_opens 39 = .ok (.aload_n 0, 1) := by decide +kernel
theorem dX0_opens_40 : decode cX0_opens 40 = .ok (.getfield 69, 3) := by decide +kernel
theorem dX0_opens_43 : decode cX0_opens 43 = .ok (.ifCond .ne 11, 3) := by decide +kernel
theorem dX0_opens_46 : decode cX0_opens 46 = .ok (.aload_n 0, 1) := by decide +kernel
theorem dX0_opens_47 : decode cX0_opens 47 = .ok (.aload_n 0, 1) := by decide +kernel
theorem dX0_opens_48 : decode cX0_opens 48 = .ok (.getfield 86, 3) := by decide +kernel
theorem dX0_opens_51 : decode cX0_opens 51 = .ok (.putfield 101, 3) := by decide +kernel
theorem dX0_opens_54 : decode cX0_opens 54 = .ok (.aload_n 0, 1) := by decide +kernel
theorem dX0_opens_55 : decode cX0_opens 55 = .ok (.dup, 1) := by decide +kernel
theorem dX0_opens_56 : decode cX0_opens 56 = .ok (.getfield 69, 3) := by decide +kernel
theorem dX0_opens_59 : decode cX0_opens 59 = .ok (.iconst 1, 1) := by decide +kernel
theorem dX0_opens_60 : decode cX0_opens 60 = .ok (.iadd, 1) := by decide +kernel
theorem dX0_opens_61 : decode cX0_opens 61 = .ok (.putfield 69, 3) := by decide +kernel
theorem dX0_opens_64 : decode cX0_opens 64 = .ok (.aload_n 0, 1) := by decide +kernel
theorem dX0_opens_65 : decode cX0_opens 65 = .ok (.getfield 28, 3) := by decide +kernel
theorem dX0_opens_68 : decode cX0_opens 68 = .ok (.aload_n 0, 1) := by decide +kernel
theorem dX0_opens_69 : decode cX0_opens 69 = .ok (.getfield 86, 3) := by decide +kernel
theorem dX0_opens_72 : decode cX0_opens 72 = .ok (.aload_n 0, 1) := by decide +kernel
theorem dX0_opens_73 : decode cX0_opens 73 = .ok (.getfield 72, 3) := by decide +kernel
theorem dX0_opens_76 : decode cX0_opens 76 = .ok (.iastore, 1) := by decide +kernel
theorem dX0_opens_77 : decode cX0_opens 77 = .ok (.aload_n 0, 1) := by decide +kernel
theorem dX0_opens_78 : decode cX0_opens 78 = .ok (.invokevirtual 89, 3) := by decide +kernel
theorem dX0_opens_81 : decode cX0_opens 81 = .ok (.iconst 1, 1) := by decide +kernel
theorem dX0_opens_82 : decode cX0_opens 82 = .ok (.ireturn, 1) := by decide +kernel
theorem dX0_addAlternative_0 : decode cX0_addAlternative 0 = .ok (.aload_n 0, 1) := by decide +kernel
theorem dX0_addAlternative_1 : decode cX0_addAlternative 1 = .ok (.getfield 72, 3) := by decide +kernel
theorem dX0_addAlternative_4 : decode cX0_addAlternative 4 = .ok (.bipush 60, 2) := by decide +kernel
theorem dX0_addAlternative_6 : decode cX0_addAlternative 6 = .ok (.if_icmp .ge 26, 3) := by decide +kernel
theorem dX0_addAlternative_9 : decode cX0_addAlternative 9 = .ok (.aload_n 0, 1) := by decide +kernel
theorem dX0_addAlternative_10 : decode cX0_addAlternative 10 = .ok (.getfield 25, 3) := by decide +kernel
theorem dX0_addAlternative_13 : decode cX0_addAlternative 13 = .ok (.aload_n 0, 1) := by decide +kernel
theorem dX0_addAlternative_14 : decode cX0_addAlternative 14 = .ok (.getfield 72, 3) := by decide +kernel
theorem dX0_addAlternative_17 : decode cX0_addAlternative 17 = .ok (.aload_n 0, 1) := by decide +kernel
theorem dX0_addAlternative_18 : decode cX0_addAlternative 18 = .ok (.getfield 75, 3) := by decide +kernel
theorem dX0_addAlternative_21 : decode cX0_addAlternative 21 = .ok (.iastore, 1) := by decide +kernel
theorem dX0_addAlternative_22 : decode cX0_addAlternative 22 = .ok (.aload_n 0, 1) := by decide +kernel
theorem dX0_addAlternative_23 : decode cX0_addAlternative 23 = .ok (.dup, 1) := by decide +kernel
theorem dX0_addAlternative_24 : decode cX0_addAlternative 24 = .ok (.getfield 72, 3) := by decide +kernel
theorem dX0_addAlternative_27 : decode cX0_addAlternative 27 = .ok (.iconst 1, 1) := by decide +kernel
theorem dX0_addAlternative_28 : decode cX0_addAlternative 28 = .ok (.iadd, 1) := by decide +kernel
theorem dX0_addAlternative_29 : decode cX0_addAlternative 29 = .ok (.putfield 72, 3) := by decide +kernel
theorem dX0_addAlternative_32 : decode cX0_addAlternative 32 = .ok (.return_, 1) := by decide +kernel
theorem dX0_addsItem_0 : decode cX0_addsItem 0 = .ok (.aload_n 0, 1) := by decide +kernel
theorem dX0_addsItem_1 : decode cX0_addsItem 1 = .ok (.getfield 75, 3) := by decide +kernel
theorem dX0_addsItem_4 : decode cX0_addsItem 4 = .ok (.bipush 60, 2) := by decide +kernel
theorem dX0_addsItem_6 : decode cX0_addsItem 6 = .ok (.if_icmp .lt 5, 3) := by decide +kernel
theorem dX0_addsItem_9 : decode cX0_addsItem 9 = .ok (.iconst 0, 1) := by decide +kernel
theorem dX0_addsItem_10 : decode cX0_addsItem 10 = .ok (.ireturn, 1) := by decide +kernel
theorem dX0_addsItem_11 : decode cX0_addsItem 11 = .ok (.aload_n 0, 1) := by decide +kernel
theorem dX0_addsItem_12 : decode cX0_addsItem 12 = .ok (.getfield 15, 3) := by decide +kernel
theorem dX0_addsItem_15 : decode cX0_addsItem 15 = .ok (.aload_n 0, 1) := by decide +kernel
theorem dX0_addsItem_16 : decode cX0_addsItem 16 = .ok (.getfield 75, 3) := by decide +kernel
theorem dX0_addsItem_19 : decode cX0_addsItem 19 = .ok (.iload_n 1, 1) := by decide +kernel
theorem dX0_addsItem_20 : decode cX0_addsItem 20 = .ok (.castore, 1) := by decide +kernel
theorem dX0_addsItem_21 : decode cX0_addsItem 21 = .ok (.aload_n 0, 1) := by decide +kernel
theorem dX0_addsItem_22 : decode cX0_addsItem 22 = .ok (.getfield 19, 3) := by decide +kernel
theorem dX0_addsItem_25 : decode cX0_addsItem 25 = .ok (.aload_n 0, 1) := by decide +kernel
theorem dX0_addsItem_26 : decode cX0_addsItem 26 = .ok (.getfield 75, 3) := by decide +kernel
theorem dX0_addsItem_29 : decode cX0_addsItem 29 = .ok (.bipush 32, 2) := by decide +kernel
theorem dX0_addsItem_31 : decode cX0_addsItem 31 = .ok (.castore, 1) := by decide +kernel
theorem dX0_addsItem_32 : decode cX0_addsItem 32 = .ok (.aload_n 0, 1) := by decide +kernel
theorem dX0_addsItem_33 : decode cX0_addsItem 33 = .ok (.getfield 22, 3) := by decide +kernel
theorem dX0_addsItem_36 : decode cX0_addsItem 36 = .ok (.aload_n 0, 1) := by decide +kernel
theorem dX0_addsItem_37 : decode cX0_addsItem 37 = .ok (.getfield 75, 3) := by decide +kernel
theorem dX0_addsItem_40 : decode cX0_addsItem 40 = .ok (.iload_n 1, 1) := by decide +kernel
theorem dX0_addsItem_41 : decode cX0_addsItem 41 = .ok (.invokestatic 98, 3) := by decide +kernel
theorem dX0_addsItem_44 : decode cX0_addsItem 44 = .ok (.ifCond .eq 10, 3) := by decide +kernel
theorem dX0_addsItem_47 : decode cX0_addsItem 47 = .ok (.iload_n 1, 1) := by decide +kernel
theorem dX0_addsItem_48 : decode cX0_addsItem 48 = .ok (.bipush 65, 2) := by decide +kernel
theorem dX0_addsItem_50 : decode cX0_addsItem 50 = .ok (.isub, 1) := by decide +kernel
theorem dX0_addsItem_51 : decode cX0_addsItem 51 = .ok (.goto 5, 3) := by decide +kernel
theorem dX0_addsItem_54 : decode cX0_addsItem 54 = .ok (.bipush 6, 2) := by decide +kernel
theorem dX0_addsItem_56 : decode cX0_addsItem 56 = .ok (.iastore, 1) := by decide +kernel
theorem dX0_addsItem_57 : decode cX0_addsItem 57 = .ok (.aload_n 0, 1) := by decide +kernel
theorem dX0_addsItem_58 : decode cX0_addsItem 58 = .ok (.dup, 1) := by decide +kernel
theorem dX0_addsItem_59 : decode cX0_addsItem 59 = .ok (.getfield 75, 3) := by decide +kernel
theorem dX0_addsItem_62 : decode cX0_addsItem 62 = .ok (.iconst 1, 1) := by decide +kernel
theorem dX0_addsItem_63 : decode cX0_addsItem 63 = .ok (.iadd, 1) := by decide +kernel
theorem dX0_addsItem_64 : decode cX0_addsItem 64 = .ok (.putfield 75, 3) := by decide +kernel
theorem dX0_addsItem_67 : decode cX0_addsItem 67 = .ok (.iconst 1, 1) := by decide +kernel
theorem dX0_addsItem_68 : decode cX0_addsItem 68 = .ok (.ireturn, 1) := by decide +kernel
theorem dX0_isEveryNameDefined_0 : decode cX0_isEveryNameDefined 0 = .ok (.iconst 0, 1) := by decide +kernel
theorem dX0_isEveryNameDefined_1 : decode cX0_isEveryNameDefined 1 = .ok (.istore_n 1, 1) := by decide +kernel
theorem dX0_isEveryNameDefined_2 : decode cX0_isEveryNameDefined 2 = .ok (.iload_n 1, 1) := by decide +kernel
theorem dX0_isEveryNameDefined_3 : decode cX0_isEveryNameDefined 3 = .ok (.aload_n 0, 1) := by decide +kernel
theorem dX0_isEveryNameDefined_4 : decode cX0_isEveryNameDefined 4 = .ok (.getfield 75, 3) := by decide +kernel
theorem dX0_isEveryNameDefined_7 : decode cX0_isEveryNameDefined 7 = .ok (.if_icmp .ge 32, 3) := by decide +kernel
theorem dX0_isEveryNameDefined_10 : decode cX0_isEveryNameDefined 10 = .ok (.aload_n 0, 1) := by decide +kernel
theorem dX0_isEveryNameDefined_11 : decode cX0_isEveryNameDefined 11 = .ok (.iload_n 1, 1) := by decide +kernel
theorem dX0_isEveryNameDefined_12 : decode cX0_isEveryNameDefined 12 = .ok (.invokevirtual 104, 3) := by decide +kernel
theorem dX0_isEveryNameDefined_15 : decode cX0_isEveryNameDefined 15 = .ok (.istore_n 2, 1) := by decide +kernel
theorem dX0_isEveryNameDefined_16 : decode cX0_isEveryNameDefined 16 = .ok (.iload_n 2, 1) := by decide +kernel
theorem dX0_isEveryNameDefined_17 : decode cX0_isEveryNameDefined 17 = .ok (.bipush 6, 2) := by decide +kernel
theorem dX0_isEveryNameDefined_19 : decode cX0_isEveryNameDefined 19 = .ok (.if_icmp .ge 14, 3) := by decide +kernel
theorem dX0_isEveryNameDefined_22 : decode cX0_isEveryNameDefined 22 = .ok (.aload_n 0, 1) := by decide +kernel
theorem dX0_isEveryNameDefined_23 : decode cX0_isEveryNameDefined 23 = .ok (.getfield 34, 3) := by decide +kernel
theorem dX0_isEveryNameDefined_26 : decode cX0_isEveryNameDefined 26 = .ok (.iload_n 2, 1) := by decide +kernel
theorem dX0_isEveryNameDefined_27 : decode cX0_isEveryNameDefined 27 = .ok (.baload, 1) := by decide +kernel
theorem dX0_isEveryNameDefined_28 : decode cX0_isEveryNameDefined 28 = .ok (.ifCond .ne 5, 3) := by decide +kernel
theorem dX0_isEveryNameDefined_31 : decode cX0_isEveryNameDefined 31 = .ok (.iconst 0, 1) := by decide +kernel
theorem dX0_isEveryNameDefined_32 : decode cX0_isEveryNameDefined 32 = .ok (.ireturn, 1) := by decide +kernel
theorem dX0_isEveryNameDefined_33 : decode cX0_isEveryNameDefined 33 = .ok (.iinc 1 1, 3) := by decide +kernel
theorem dX0_isEveryNameDefined_36 : decode cX0_isEveryNameDefined 36 = .ok (.goto (-34), 3) := by decide +kernel
theorem dX0_isEveryNameDefined_39 : decode cX0_isEveryNameDefined 39 = .ok (.iconst 1, 1) := by decide +kernel
theorem dX0_isEveryNameDefined_40 : decode cX0_isEveryNameDefined 40 = .ok (.ireturn, 1) := by decide +kernel
theorem dX0_findEmptiable_0 : decode cX0_findEmptiable 0 = .ok (.iconst 0, 1) := by decide +kernel
theorem dX0_findEmptiable_1 : decode cX0_findEmptiable 1 = .ok (.istore_n 1, 1) := by decide +kernel
theorem dX0_findEmptiable_2 : decode cX0_findEmptiable 2 = .ok (.iload_n 1, 1) := by decide +kernel
theorem dX0_findEmptiable_3 : decode cX0_findEmptiable 3 = .ok (.bipush 6, 2) := by decide +kernel
theorem dX0_findEmptiable_5 : decode cX0_findEmptiable 5 = .ok (.if_icmp .ge 51, 3) := by decide +kernel
theorem dX0_findEmptiable_8 : decode cX0_findEmptiable 8 = .ok (.iconst 0, 1) := by decide +kernel
theorem dX0_findEmptiable_9 : decode cX0_findEmptiable 9 = .ok (.istore_n 2, 1) := by decide +kernel
theorem dX0_findEmptiable_10 : decode cX0_findEmptiable 10 = .ok (.iload_n 2, 1) := by decide +kernel
theorem dX0_findEmptiable_11 : decode cX0_findEmptiable 11 = .ok (.bipush 6, 2) := by decide +kernel
theorem dX0_findEmptiable_13 : decode cX0_findEmptiable 13 = .ok (.if_icmp .ge 37, 3) := by decide +kernel
theorem dX0_findEmptiable_16 : decode cX0_findEmptiable 16 = .ok (.aload_n 0, 1) := by decide +kernel
theorem dX0_findEmptiable_17 : decode cX0_findEmptiable 17 = .ok (.getfield 38, 3) := by decide +kernel
theorem dX0_findEmptiable_20 : decode cX0_findEmptiable 20 = .ok (.iload_n 2, 1) := by decide +kernel
theorem dX0_findEmptiable_21 : decode cX0_findEmptiable 21 = .ok (.aload_n 0, 1) := by decide +kernel
theorem dX0_findEmptiable_22 : decode cX0_findEmptiable 22 = .ok (.getfield 38, 3) := by decide +kernel
theorem dX0_findEmptiable_25 : decode cX0_findEmptiable 25 = .ok (.iload_n 2, 1) := by decide +kernel
theorem dX0_findEmptiable_26 : decode cX0_findEmptiable 26 = .ok (.baload, 1) := by decide +kernel
theorem dX0_findEmptiable_27 : decode cX0_findEmptiable 27 = .ok (.ifCond .ne 11, 3) := by decide +kernel
theorem dX0_findEmptiable_30 : decode cX0_findEmptiable 30 = .ok (.aload_n 0, 1) := by decide +kernel
theorem dX0_findEmptiable_31 : decode cX0_findEmptiable 31 = .ok (.iload_n 2, 1) := by decide +kernel
theorem dX0_findEmptiable_32 : decode cX0_findEmptiable 32 = .ok (.invokevirtual 108, 3) := by decide +kernel
theorem dX0_findEmptiable_35 : decode cX0_findEmptiable 35 = .ok (.ifCond .eq 7, 3) := by decide +kernel
theorem dX0_findEmptiable_38 : decode cX0_findEmptiable 38 = .ok (.iconst 1, 1) := by decide +kernel
theorem dX0_findEmptiable_39 : decode cX0_findEmptiable 39 = .ok (.goto 4, 3) := by decide +kernel
theorem dX0_findEmptiable_42 : decode cX0_findEmptiable 42 = .ok (.iconst 0, 1) := by decide +kernel
theorem dX0_findEmptiable_43 : decode cX0_findEmptiable 43 = .ok (.bastore, 1) := by decide +kernel
theorem dX0_findEmptiable_44 : decode cX0_findEmptiable 44 = .ok (.iinc 2 1, 3) := by decide +kernel
theorem dX0_findEmptiable_47 : decode cX0_findEmptiable 47 = .ok (.goto (-37), 3) := by decide +kernel
theorem dX0_findEmptiable_50 : decode cX0_findEmptiable 50 = .ok (.iinc 1 1, 3) := by decide +kernel
theorem dX0_findEmptiable_53 : decode cX0_findEmptiable 53 = .ok (.goto (-51), 3) := by decide +kernel
theorem dX0_findEmptiable_56 : decode cX0_findEmptiable 56 = .ok (.return_, 1) := by decide +kernel
theorem dX0_isEmptiable_0 : decode cX0_isEmptiable 0 = .ok (.aload_n 0, 1) := by decide +kernel
theorem dX0_isEmptiable_1 : decode cX0_isEmptiable 1 = .ok (.iload_n 1, 1) := by decide +kernel
theorem dX0_isEmptiable_2 : decode cX0_isEmptiable 2 = .ok (.invokevirtual 112, 3) := by decide +kernel
theorem dX0_isEmptiable_5 : decode cX0_isEmptiable 5 = .ok (.istore_n 2, 1) := by decide +kernel
theorem dX0_isEmptiable_6 : decode cX0_isEmptiable 6 = .ok (.iload_n 2, 1) := by decide +kernel
theorem dX0_isEmptiable_7 : decode cX0_isEmptiable 7 = .ok (.aload_n 0, 1) := by decide +kernel
theorem dX0_isEmptiable_8 : decode cX0_isEmptiable 8 = .ok (.iload_n 1, 1) := by decide +kernel
theorem dX0_isEmptiable_9 : decode cX0_isEmptiable 9 = .ok (.invokevirtual 115, 3) := by decide +kernel
theorem dX0_isEmptiable_12 : decode cX0_isEmptiable 12 = .ok (.if_icmp .ge 59, 3) := by decide +kernel
theorem dX0_isEmptiable_15 : decode cX0_isEmptiable 15 = .ok (.iconst 1, 1) := by decide +kernel
theorem dX0_isEmptiable_16 : decode cX0_isEmptiable 16 = .ok (.istore_n 3, 1) := by decide +kernel
theorem dX0_isEmptiable_17 : decode cX0_isEmptiable 17 = .ok (.aload_n 0, 1) := by decide +kernel
theorem dX0_isEmptiable_18 : decode cX0_isEmptiable 18 = .ok (.iload_n 2, 1) := by decide +kernel
theorem dX0_isEmptiable_19 : decode cX0_isEmptiable 19 = .ok (.invokevirtual 118, 3) := by decide +kernel
theorem dX0_isEmptiable_22 : decode cX0_isEmptiable 22 = .ok (.istore 4, 2) := by decide +kernel
theorem dX0_isEmptiable_24 : decode cX0_isEmptiable 24 = .ok (.iload 4, 2) := by decide +kernel
theorem dX0_isEmptiable_26 : decode cX0_isEmptiable 26 = .ok (.aload_n 0, 1) := by decide +kernel
theorem dX0_isEmptiable_27 : decode cX0_isEmptiable 27 = .ok (.iload_n 2, 1) := by decide +kernel
theorem dX0_isEmptiable_28 : decode cX0_isEmptiable 28 = .ok (.invokevirtual 121, 3) := by decide +kernel
theorem dX0_isEmptiable_31 : decode cX0_isEmptiable 31 = .ok (.if_icmp .ge 28, 3) := by decide +kernel
theorem dX0_isEmptiable_34 : decode cX0_isEmptiable 34 = .ok (.iload_n 3, 1) := by decide +kernel
theorem dX0_isEmptiable_35 : decode cX0_isEmptiable 35 = .ok (.ifCond .eq 16, 3) := by decide +kernel
theorem dX0_isEmptiable_38 : decode cX0_isEmptiable 38 = .ok (.aload_n 0, 1) := by decide +kernel
theorem dX0_isEmptiable_39 : decode cX0_isEmptiable 39 = .ok (.iload 4, 2) := by decide +kernel
theorem dX0_isEmptiable_41 : decode cX0_isEmptiable 41 = .ok (.invokevirtual 124, 3) := by decide +kernel
theorem dX0_isEmptiable_44 : decode cX0_isEmptiable 44 = .ok (.ifCond .eq 7, 3) := by decide +kernel
theorem dX0_isEmptiable_47 : decode cX0_isEmptiable 47 = .ok (.iconst 1, 1) := by decide +kernel
theorem dX0_isEmptiable_48 : decode cX0_isEmptiable 48 = .ok (.goto 4, 3) := by decide +kernel
theorem dX0_isEmptiable_51 : decode cX0_isEmptiable 51 = .ok (.iconst 0, 1) := by decide +kernel
theorem dX0_isEmptiable_52 : decode cX0_isEmptiable 52 = .ok (.istore_n 3, 1) := by decide +kernel
theorem dX0_isEmptiable_53 : decode cX0_isEmptiable 53 = .ok (.iinc 4 1, 3) := by decide +kernel
theorem dX0_isEmptiable_56 : decode cX0_isEmptiable 56 = .ok (.goto (-32), 3) := by decide +kernel
theorem dX0_isEmptiable_59 : decode cX0_isEmptiable 59 = .ok (.iload_n 3, 1) := by decide +kernel
theorem dX0_isEmptiable_60 : decode cX0_isEmptiable 60 = .ok (.ifCond .eq 5, 3) := by decide +kernel
theorem dX0_isEmptiable_63 : decode cX0_isEmptiable 63 = .ok (.iconst 1, 1) := by decide +kernel
theorem dX0_isEmptiable_64 : decode cX0_isEmptiable 64 = .ok (.ireturn, 1) := by decide +kernel
theorem dX0_isEmptiable_65 : decode cX0_isEmptiable 65 = .ok (.iinc 2 1, 3) := by decide +kernel
theorem dX0_isEmptiable_68 : decode cX0_isEmptiable 68 = .ok (.goto (-62), 3) := by decide +kernel
theorem dX0_isEmptiable_71 : decode cX0_isEmptiable 71 = .ok (.iconst 0, 1) := by decide +kernel
theorem dX0_isEmptiable_72 : decode cX0_isEmptiable 72 = .ok (.ireturn, 1) := by decide +kernel
theorem dX0_mayBeEmpty_0 : decode cX0_mayBeEmpty 0 = .ok (.aload_n 0, 1) := by decide +kernel
theorem dX0_mayBeEmpty_1 : decode cX0_mayBeEmpty 1 = .ok (.iload_n 1, 1) := by decide +kernel
theorem dX0_mayBeEmpty_2 : decode cX0_mayBeEmpty 2 = .ok (.invokevirtual 104, 3) := by decide +kernel
theorem dX0_mayBeEmpty_5 : decode cX0_mayBeEmpty 5 = .ok (.istore_n 2, 1) := by decide +kernel
theorem dX0_mayBeEmpty_6 : decode cX0_mayBeEmpty 6 = .ok (.aload_n 0, 1) := by decide +kernel
theorem dX0_mayBeEmpty_7 : decode cX0_mayBeEmpty 7 = .ok (.iload_n 1, 1) := by decide +kernel
theorem dX0_mayBeEmpty_8 : decode cX0_mayBeEmpty 8 = .ok (.invokevirtual 127, 3) := by decide +kernel
theorem dX0_mayBeEmpty_11 : decode cX0_mayBeEmpty 11 = .ok (.ifCond .ne 18, 3) := by decide +kernel
theorem dX0_mayBeEmpty_14 : decode cX0_mayBeEmpty 14 = .ok (.iload_n 2, 1) := by decide +kernel
theorem dX0_mayBeEmpty_15 : decode cX0_mayBeEmpty 15 = .ok (.bipush 6, 2) := by decide +kernel
theorem dX0_mayBeEmpty_17 : decode cX0_mayBeEmpty 17 = .ok (.if_icmp .ge 16, 3) := by decide +kernel
theorem dX0_mayBeEmpty_20 : decode cX0_mayBeEmpty 20 = .ok (.aload_n 0, 1) := by decide +kernel
theorem dX0_mayBeEmpty_21 : decode cX0_mayBeEmpty 21 = .ok (.getfield 38, 3) := by decide +kernel
theorem dX0_mayBeEmpty_24 : decode cX0_mayBeEmpty 24 = .ok (.iload_n 2, 1) := by decide +kernel
theorem dX0_mayBeEmpty_25 : decode cX0_mayBeEmpty 25 = .ok (.baload, 1) := by decide +kernel
theorem dX0_mayBeEmpty_26 : decode cX0_mayBeEmpty 26 = .ok (.ifCond .eq 7, 3) := by decide +kernel
theorem dX0_mayBeEmpty_29 : decode cX0_mayBeEmpty 29 = .ok (.iconst 1, 1) := by decide +kernel
theorem dX0_mayBeEmpty_30 : decode cX0_mayBeEmpty 30 = .ok (.goto 4, 3) := by decide +kernel
theorem dX0_mayBeEmpty_33 : decode cX0_mayBeEmpty 33 = .ok (.iconst 0, 1) := by decide +kernel
theorem dX0_mayBeEmpty_34 : decode cX0_mayBeEmpty 34 = .ok (.ireturn, 1) := by decide +kernel
theorem dX0_findOrder_0 : decode cX0_findOrder 0 = .ok (.iconst 0, 1) := by decide +kernel
theorem dX0_findOrder_1 : decode cX0_findOrder 1 = .ok (.istore_n 1, 1) := by decide +kernel
theorem dX0_findOrder_2 : decode cX0_findOrder 2 = .ok (.iload_n 1, 1) := by decide +kernel
theorem dX0_findOrder_3 : decode cX0_findOrder 3 = .ok (.bipush 6, 2) := by decide +kernel
theorem dX0_findOrder_5 : decode cX0_findOrder 5 = .ok (.if_icmp .ge 85, 3) := by decide +kernel
theorem dX0_findOrder_8 : decode cX0_findOrder 8 = .ok (.iconst 0, 1) := by decide +kernel
theorem dX0_findOrder_9 : decode cX0_findOrder 9 = .ok (.istore_n 2, 1) := by decide +kernel
theorem dX0_findOrder_10 : decode cX0_findOrder 10 = .ok (.iload_n 2, 1) := by decide +kernel
theorem dX0_findOrder_11 : decode cX0_findOrder 11 = .ok (.bipush 6, 2) := by decide +kernel
theorem dX0_findOrder_13 : decode cX0_findOrder 13 = .ok (.if_icmp .ge 71, 3) := by decide +kernel
theorem dX0_findOrder_16 : decode cX0_findOrder 16 = .ok (.aload_n 0, 1) := by decide +kernel
theorem dX0_findOrder_17 : decode cX0_findOrder 17 = .ok (.getfield 34, 3) := by decide +kernel
theorem dX0_findOrder_20 : decode cX0_findOrder 20 = .ok (.iload_n 2, 1) := by decide +kernel
theorem dX0_findOrder_21 : decode cX0_findOrder 21 = .ok (.baload, 1) := by decide +kernel
theorem dX0_findOrder_22 : decode cX0_findOrder 22 = .ok (.ifCond .eq 56, 3) := by decide +kernel
theorem dX0_findOrder_25 : decode cX0_findOrder 25 = .ok (.aload_n 0, 1) := by decide +kernel
theorem dX0_findOrder_26 : decode cX0_findOrder 26 = .ok (.getfield 41, 3) := by decide +kernel
theorem dX0_findOrder_29 : decode cX0_findOrder 29 = .ok (.iload_n 2, 1) := by decide +kernel
theorem dX0_findOrder_30 : decode cX0_findOrder 30 = .ok (.baload, 1) := by decide +kernel
theorem dX0_findOrder_31 : decode cX0_findOrder 31 = .ok (.ifCond .ne 47, 3) := by decide +kernel
theorem dX0_findOrder_34 : decode cX0_findOrder 34 = .ok (.aload_n 0, 1) := by decide +kernel
theorem dX0_findOrder_35 : decode cX0_findOrder 35 = .ok (.getfield 65, 3) := by decide +kernel
theorem dX0_findOrder_38 : decode cX0_findOrder 38 = .ok (.bipush 6, 2) := by decide +kernel
theorem dX0_findOrder_40 : decode cX0_findOrder 40 = .ok (.if_icmp .ge 38, 3) := by decide +kernel
theorem dX0_findOrder_43 : decode cX0_findOrder 43 = .ok (.aload_n 0, 1) := by decide +kernel
theorem dX0_findOrder_44 : decode cX0_findOrder 44 = .ok (.iload_n 2, 1) := by decide +kernel
theorem dX0_findOrder_45 : decode cX0_findOrder 45 = .ok (.invokevirtual 130, 3) := by decide +kernel
theorem dX0_findOrder_48 : decode cX0_findOrder 48 = .ok (.ifCond .eq 30, 3) := by decide +kernel
theorem dX0_findOrder_51 : decode cX0_findOrder 51 = .ok (.aload_n 0, 1) := by decide +kernel
theorem dX0_findOrder_52 : decode cX0_findOrder 52 = .ok (.getfield 9, 3) := by decide +kernel
theorem dX0_findOrder_55 : decode cX0_findOrder 55 = .ok (.aload_n 0, 1) := by decide +kernel
theorem dX0_findOrder_56 : decode cX0_findOrder 56 = .ok (.getfield 65, 3) := by decide +kernel
theorem dX0_findOrder_59 : decode cX0_findOrder 59 = .ok (.iload_n 2, 1) := by decide +kernel
theorem dX0_findOrder_60 : decode cX0_findOrder 60 = .ok (.iastore, 1) := by decide +kernel
theorem dX0_findOrder_61 : decode cX0_findOrder 61 = .ok (.aload_n 0, 1) := by decide +kernel
theorem dX0_findOrder_62 : decode cX0_findOrder 62 = .ok (.dup, 1) := by decide +kernel
theorem dX0_findOrder_63 : decode cX0_findOrder 63 = .ok (.getfield 65, 3) := by decide +kernel
theorem dX0_findOrder_66 : decode cX0_findOrder 66 = .ok (.iconst 1, 1) := by decide +kernel
theorem dX0_findOrder_67 : decode cX0_findOrder 67 = .ok (.iadd, 1) := by decide +kernel
theorem dX0_findOrder_68 : decode cX0_findOrder 68 = .ok (.putfield 65, 3) := by decide +kernel
theorem dX0_findOrder_71 : decode cX0_findOrder 71 = .ok (.aload_n 0, 1) := by decide +kernel
theorem dX0_findOrder_72 : decode cX0_findOrder 72 = .ok (.getfield 41, 3) := by decide +kernel
theorem dX0_findOrder_75 : decode cX0_findOrder 75 = .ok (.iload_n 2, 1) := by decide +kernel
theorem dX0_findOrder_76 : decode cX0_findOrder 76 = .ok (.iconst 1, 1) := by decide +kernel
theorem dX0_findOrder_77 : decode cX0_findOrder 77 = .ok (.bastore, 1) := by decide +kernel
theorem dX0_findOrder_78 : decode cX0_findOrder 78 = .ok (.iinc 2 1, 3) := by decide +kernel
theorem dX0_findOrder_81 : decode cX0_findOrder 81 = .ok (.goto (-71), 3) := by decide +kernel
theorem dX0_findOrder_84 : decode cX0_findOrder 84 = .ok (.iinc 1 1, 3) := by decide +kernel
theorem dX0_findOrder_87 : decode cX0_findOrder 87 = .ok (.goto (-85), 3) := by decide +kernel
theorem dX0_findOrder_90 : decode cX0_findOrder 90 = .ok (.return_, 1) := by decide +kernel
theorem dX0_leadsToPlaced_0 : decode cX0_leadsToPlaced 0 = .ok (.aload_n 0, 1) := by decide +kernel
theorem dX0_leadsToPlaced_1 : decode cX0_leadsToPlaced 1 = .ok (.iload_n 1, 1) := by decide +kernel
theorem dX0_leadsToPlaced_2 : decode cX0_leadsToPlaced 2 = .ok (.invokevirtual 112, 3) := by decide +kernel
theorem dX0_leadsToPlaced_5 : decode cX0_leadsToPlaced 5 = .ok (.istore_n 2, 1) := by decide +kernel
theorem dX0_leadsToPlaced_6 : decode cX0_leadsToPlaced 6 = .ok (.iload_n 2, 1) := by decide +kernel
theorem dX0_leadsToPlaced_7 : decode cX0_leadsToPlaced 7 = .ok (.aload_n 0, 1) := by decide +kernel
theorem dX0_leadsToPlaced_8 : decode cX0_leadsToPlaced 8 = .ok (.iload_n 1, 1) := by decide +kernel
theorem dX0_leadsToPlaced_9 : decode cX0_leadsToPlaced 9 = .ok (.invokevirtual 115, 3) := by decide +kernel
theorem dX0_leadsToPlaced_12 : decode cX0_leadsToPlaced 12 = .ok (.if_icmp .ge 72, 3) := by decide +kernel
theorem dX0_leadsToPlaced_15 : decode cX0_leadsToPlaced 15 = .ok (.iconst 1, 1) := by decide +kernel
theorem dX0_leadsToPlaced_16 : decode cX0_leadsToPlaced 16 = .ok (.istore_n 3, 1) := by decide +kernel
theorem dX0_leadsToPlaced_17 : decode cX0_leadsToPlaced 17 = .ok (.aload_n 0, 1) := by decide +kernel
theorem dX0_leadsToPlaced_18 : decode cX0_leadsToPlaced 18 = .ok (.iload_n 2, 1) := by decide +kernel
theorem dX0_leadsToPlaced_19 : decode cX0_leadsToPlaced 19 = .ok (.invokevirtual 118, 3) := by decide +kernel
theorem dX0_leadsToPlaced_22 : decode cX0_leadsToPlaced 22 = .ok (.istore 4, 2) := by decide +kernel
theorem dX0_leadsToPlaced_24 : decode cX0_leadsToPlaced 24 = .ok (.iload_n 3, 1) := by decide +kernel
theorem dX0_leadsToPlaced_25 : decode cX0_leadsToPlaced 25 = .ok (.ifCond .eq 53, 3) := by decide +kernel
theorem dX0_leadsToPlaced_28 : decode cX0_leadsToPlaced 28 = .ok (.iload 4, 2) := by decide +kernel
theorem dX0_leadsToPlaced_30 : decode cX0_leadsToPlaced 30 = .ok (.aload_n 0, 1) := by decide +kernel
theorem dX0_leadsToPlaced_31 : decode cX0_leadsToPlaced 31 = .ok (.iload_n 2, 1) := by decide +kernel
theorem dX0_leadsToPlaced_32 : decode cX0_leadsToPlaced 32 = .ok (.invokevirtual 121, 3) := by decide +kernel
theorem dX0_leadsToPlaced_35 : decode cX0_leadsToPlaced 35 = .ok (.if_icmp .ge 43, 3) := by decide +kernel
theorem dX0_leadsToPlaced_38 : decode cX0_leadsToPlaced 38 = .ok (.aload_n 0, 1) := by decide +kernel
theorem dX0_leadsToPlaced_39 : decode cX0_leadsToPlaced 39 = .ok (.iload 4, 2) := by decide +kernel
theorem dX0_leadsToPlaced_41 : decode cX0_leadsToPlaced 41 = .ok (.invokevirtual 104, 3) := by decide +kernel
theorem dX0_leadsToPlaced_44 : decode cX0_leadsToPlaced 44 = .ok (.istore 5, 2) := by decide +kernel
theorem dX0_leadsToPlaced_46 : decode cX0_leadsToPlaced 46 = .ok (.iload 5, 2) := by decide +kernel
theorem dX0_leadsToPlaced_48 : decode cX0_leadsToPlaced 48 = .ok (.bipush 6, 2) := by decide +kernel
theorem dX0_leadsToPlaced_50 : decode cX0_leadsToPlaced 50 = .ok (.if_icmp .ge 15, 3) := by decide +kernel
theorem dX0_leadsToPlaced_53 : decode cX0_leadsToPlaced 53 = .ok (.aload_n 0, 1) := by decide +kernel
theorem dX0_leadsToPlaced_54 : decode cX0_leadsToPlaced 54 = .ok (.getfield 41, 3) := by decide +kernel
theorem dX0_leadsToPlaced_57 : decode cX0_leadsToPlaced 57 = .ok (.iload 5, 2) := by decide +kernel
theorem dX0_leadsToPlaced_59 : decode cX0_leadsToPlaced 59 = .ok (.baload, 1) := by decide +kernel
theorem dX0_leadsToPlaced_60 : decode cX0_leadsToPlaced 60 = .ok (.ifCond .ne 5, 3) := by decide +kernel
theorem dX0_leadsToPlaced_63 : decode cX0_leadsToPlaced 63 = .ok (.iconst 0, 1) := by decide +kernel
theorem dX0_leadsToPlaced_64 : decode cX0_leadsToPlaced 64 = .ok (.ireturn, 1) := by decide +kernel
theorem dX0_leadsToPlaced_65 : decode cX0_leadsToPlaced 65 = .ok (.aload_n 0, 1) := by decide +kernel
theorem dX0_leadsToPlaced_66 : decode cX0_leadsToPlaced 66 = .ok (.iload 4, 2) := by decide +kernel
theorem dX0_leadsToPlaced_68 : decode cX0_leadsToPlaced 68 = .ok (.invokevirtual 124, 3) := by decide +kernel
theorem dX0_leadsToPlaced_71 : decode cX0_leadsToPlaced 71 = .ok (.istore_n 3, 1) := by decide +kernel
theorem dX0_leadsToPlaced_72 : decode cX0_leadsToPlaced 72 = .ok (.iinc 4 1, 3) := by decide +kernel
theorem dX0_leadsToPlaced_75 : decode cX0_leadsToPlaced 75 = .ok (.goto (-51), 3) := by decide +kernel
theorem dX0_leadsToPlaced_78 : decode cX0_leadsToPlaced 78 = .ok (.iinc 2 1, 3) := by decide +kernel
theorem dX0_leadsToPlaced_81 : decode cX0_leadsToPlaced 81 = .ok (.goto (-75), 3) := by decide +kernel
theorem dX0_leadsToPlaced_84 : decode cX0_leadsToPlaced 84 = .ok (.iconst 1, 1) := by decide +kernel
theorem dX0_leadsToPlaced_85 : decode cX0_leadsToPlaced 85 = .ok (.ireturn, 1) := by decide +kernel
theorem dX1_init_0 : decode cX1_init 0 = .ok (.aload_n 0, 1) := by decide +kernel
theorem dX1_init_1 : decode cX1_init 1 = .ok (.invokespecial 3, 3) := by decide +kernel
theorem dX1_init_4 : decode cX1_init 4 = .ok (.aload_n 0, 1) := by decide +kernel
theorem dX1_init_5 : decode cX1_init 5 = .ok (.iconst 1, 1) := by decide +kernel
theorem dX1_init_6 : decode cX1_init 6 = .ok (.putfield 9, 3) := by decide +kernel
theorem dX1_init_9 : decode cX1_init 9 = .ok (.aload_n 0, 1) := by decide +kernel
theorem dX1_init_10 : decode cX1_init 10 = .ok (.sipush 768, 3) := by decide +kernel
theorem dX1_init_13 : decode cX1_init 13 = .ok (.newarray .char, 2) := by decide +kernel
theorem dX1_init_15 : decode cX1_init 15 = .ok (.putfield 15, 3) := by decide +kernel
theorem dX1_init_18 : decode cX1_init 18 = .ok (.aload_n 0, 1) := by decide +kernel
theorem dX1_init_19 : decode cX1_init 19 = .ok (.bipush 24, 2) := by decide +kernel
theorem dX1_init_21 : decode cX1_init 21 = .ok (.newarray .int, 2) := by decide +kernel
theorem dX1_init_23 : decode cX1_init 23 = .ok (.putfield 19, 3) := by decide +kernel
theorem dX1_init_26 : decode cX1_init 26 = .ok (.return_, 1) := by decide +kernel
theorem dX1_verdict_0 : decode cX1_verdict 0 = .ok (.aload_n 0, 1) := by decide +kernel
theorem dX1_verdict_1 : decode cX1_verdict 1 = .ok (.getfield 23, 3) := by decide +kernel
theorem dX1_verdict_4 : decode cX1_verdict 4 = .ok (.aload_n 1, 1) := by decide +kernel
theorem dX1_verdict_5 : decode cX1_verdict 5 = .ok (.iconst 1, 1) := by decide +kernel
theorem dX1_verdict_6 : decode cX1_verdict 6 = .ok (.invokestatic 27, 3) := by decide +kernel
theorem dX1_verdict_9 : decode cX1_verdict 9 = .ok (.ifCond .eq 5, 3) := by decide +kernel
theorem dX1_verdict_12 : decode cX1_verdict 12 = .ok (.iconst 1, 1) := by decide +kernel
theorem dX1_verdict_13 : decode cX1_verdict 13 = .ok (.ireturn, 1) := by decide +kernel
theorem dX1_verdict_14 : decode cX1_verdict 14 = .ok (.aload_n 0, 1) := by decide +kernel
theorem dX1_verdict_15 : decode cX1_verdict 15 = .ok (.getfield 31, 3) := by decide +kernel
theorem dX1_verdict_18 : decode cX1_verdict 18 = .ok (.aload_n 1, 1) := by decide +kernel
theorem dX1_verdict_19 : decode cX1_verdict 19 = .ok (.iconst 1, 1) := by decide +kernel
theorem dX1_verdict_20 : decode cX1_verdict 20 = .ok (.invokestatic 27, 3) := by decide +kernel
theorem dX1_verdict_23 : decode cX1_verdict 23 = .ok (.ifCond .eq 7, 3) := by decide +kernel
theorem dX1_verdict_26 : decode cX1_verdict 26 = .ok (.iconst 2, 1) := by decide +kernel
theorem dX1_verdict_27 : decode cX1_verdict 27 = .ok (.goto 4, 3) := by decide +kernel
theorem dX1_verdict_30 : decode cX1_verdict 30 = .ok (.iconst 0, 1) := by decide +kernel
theorem dX1_verdict_31 : decode cX1_verdict 31 = .ok (.ireturn, 1) := by decide +kernel
theorem dX1_allow_0 : decode cX1_allow 0 = .ok (.aload_n 0, 1) := by decide +kernel
theorem dX1_allow_1 : decode cX1_allow 1 = .ok (.iload_n 1, 1) := by decide +kernel
theorem dX1_allow_2 : decode cX1_allow 2 = .ok (.putfield 34, 3) := by decide +kernel
theorem dX1_allow_5 : decode cX1_allow 5 = .ok (.aload_n 0, 1) := by decide +kernel
theorem dX1_allow_6 : decode cX1_allow 6 = .ok (.iconst 0, 1) := by decide +kernel
theorem dX1_allow_7 : decode cX1_allow 7 = .ok (.putfield 38, 3) := by decide +kernel
theorem dX1_allow_10 : decode cX1_allow 10 = .ok (.return_, 1) := by decide +kernel
theorem dX1_forget_0 : decode cX1_forget 0 = .ok (.aload_n 0, 1) := by decide +kernel
theorem dX1_forget_1 : decode cX1_forget 1 = .ok (.iconst 0, 1) := by decide +kernel
theorem dX1_forget_2 : decode cX1_forget 2 = .ok (.putfield 41, 3) := by decide +kernel
theorem dX1_forget_5 : decode cX1_forget 5 = .ok (.aload_n 0, 1) := by decide +kernel
theorem dX1_forget_6 : decode cX1_forget 6 = .ok (.iconst 0, 1) := by decide +kernel
theorem dX1_forget_7 : decode cX1_forget 7 = .ok (.putfield 44, 3) := by decide +kernel
theorem dX1_forget_10 : decode cX1_forget 10 = .ok (.return_, 1) := by decide +kernel
theorem dX1_ask_0 : decode cX1_ask 0 = .ok (.aload_n 0, 1) := by decide +kernel
theorem dX1_ask_1 : decode cX1_ask 1 = .ok (.getfield 38, 3) := by decide +kernel
theorem dX1_ask_4 : decode cX1_ask 4 = .ok (.ifCond .eq 5, 3) := by decide +kernel
theorem dX1_ask_7 : decode cX1_ask 7 = .ok (.iconst 0, 1) := by decide +kernel
theorem dX1_ask_8 : decode cX1_ask 8 = .ok (.ireturn, 1) := by decide +kernel
theorem dX1_ask_9 : decode cX1_ask 9 = .ok (.aload_n 0, 1) := by decide +kernel
theorem dX1_ask_10 : decode cX1_ask 10 = .ok (.aload_n 1, 1) := by decide +kernel
theorem dX1_ask_11 : decode cX1_ask 11 = .ok (.invokevirtual 47, 3) := by decide +kernel
theorem dX1_ask_14 : decode cX1_ask 14 = .ok (.ifCond .eq 19, 3) := by decide +kernel
theorem dX1_ask_17 : decode cX1_ask 17 = .ok (.aload_n 0, 1) := by decide +kernel
theorem dX1_ask_18 : decode cX1_ask 18 = .ok (.dup, 1) := by decide +kernel
theorem dX1_ask_19 : decode cX1_ask 19 = .ok (.getfield 51, 3) := by decide +kernel
theorem dX1_ask_22 : decode cX1_ask 22 = .ok (.iconst 1, 1) := by decide +kernel
theorem dX1_ask_23 : decode cX1_ask 23 = .ok (.iadd, 1) := by decide +kernel
theorem dX1_ask_24 : decode cX1_ask 24 = .ok (.putfield 51, 3) := by decide +kernel
theorem dX1_ask_27 : decode cX1_ask 27 = .ok (.aload_n 0, 1) := by decide +kernel
theorem dX1_ask_28 : decode cX1_ask 28 = .ok (.aload_n 1, 1) := by decide +kernel
theorem dX1_ask_29 : decode cX1_ask 29 = .ok (.invokevirtual 54, 3) := by decide +kernel
theorem dX1_ask_32 : decode cX1_ask 32 = .ok (.ireturn, 1) := by decide +kernel
theorem dX1_ask_33 : decode cX1_ask 33 = .ok (.aload_n 0, 1) := by decide +kernel
theorem dX1_ask_34 : decode cX1_ask 34 = .ok (.getfield 34, 3) := by decide +kernel
theorem dX1_ask_37 : decode cX1_ask 37 = .ok (.ifCond .gt 10, 3) := by decide +kernel
theorem dX1_ask_40 : decode cX1_ask 40 = .ok (.aload_n 0, 1) := by decide +kernel
theorem dX1_ask_41 : decode cX1_ask 41 = .ok (.iconst 1, 1) := by decide +kernel
theorem dX1_ask_42 : decode cX1_ask 42 = .ok (.putfield 38, 3) := by decide +kernel
theorem dX1_ask_45 : decode cX1_ask 45 = .ok (.iconst 0, 1) := by decide +kernel
theorem dX1_ask_46 : decode cX1_ask 46 = .ok (.ireturn, 1) := by decide +kernel
theorem dX1_ask_47 : decode cX1_ask 47 = .ok (.aload_n 0, 1) := by decide +kernel
theorem dX1_ask_48 : decode cX1_ask 48 = .ok (.dup, 1) := by decide +kernel
theorem dX1_ask_49 : decode cX1_ask 49 = .ok (.getfield 34, 3) := by decide +kernel
theorem dX1_ask_52 : decode cX1_ask 52 = .ok (.iconst 1, 1) := by decide +kernel
theorem dX1_ask_53 : decode cX1_ask 53 = .ok (.isub, 1) := by decide +kernel
theorem dX1_ask_54 : decode cX1_ask 54 = .ok (.putfield 34, 3) := by decide +kernel
theorem dX1_ask_57 : decode cX1_ask 57 = .ok (.aload_n 0, 1) := by decide +kernel
theorem dX1_ask_58 : decode cX1_ask 58 = .ok (.dup, 1) := by decide +kernel
theorem dX1_ask_59 : decode cX1_ask 59 = .ok (.getfield 58, 3) := by decide +kernel
theorem dX1_ask_62 : decode cX1_ask 62 = .ok (.iconst 1, 1) := by decide +kernel
theorem dX1_ask_63 : decode cX1_ask 63 = .ok (.iadd, 1) := by decide +kernel
theorem dX1_ask_64 : decode cX1_ask 64 = .ok (.putfield 58, 3) := by decide +kernel
theorem dX1_ask_67 : decode cX1_ask 67 = .ok (.aload_n 0, 1) := by decide +kernel
theorem dX1_ask_68 : decode cX1_ask 68 = .ok (.getfield 9, 3) := by decide +kernel
theorem dX1_ask_71 : decode cX1_ask 71 = .ok (.ifCond .eq 8, 3) := by decide +kernel
theorem dX1_ask_74 : decode cX1_ask 74 = .ok (.aload_n 0, 1) := by decide +kernel
theorem dX1_ask_75 : decode cX1_ask 75 = .ok (.aload_n 1, 1) := by decide +kernel
theorem dX1_ask_76 : decode cX1_ask 76 = .ok (.invokevirtual 61, 3) := by decide +kernel
theorem dX1_ask_79 : decode cX1_ask 79 = .ok (.aload_n 0, 1) := by decide +kernel
theorem dX1_ask_80 : decode cX1_ask 80 = .ok (.aload_n 1, 1) := by decide +kernel
theorem dX1_ask_81 : decode cX1_ask 81 = .ok (.invokevirtual 54, 3) := by decide +kernel
theorem dX1_ask_84 : decode cX1_ask 84 = .ok (.ireturn, 1) := by decide +kernel
theorem dX1_isHeld_0 : decode cX1_isHeld 0 = .ok (.iconst 0, 1) := by decide +kernel
theorem dX1_isHeld_1 : decode cX1_isHeld 1 = .ok (.istore_n 2, 1) := by decide +kernel
theorem dX1_isHeld_2 : decode cX1_isHeld 2 = .ok (.iload_n 2, 1) := by decide +kernel
theorem dX1_isHeld_3 : decode cX1_isHeld 3 = .ok (.aload_n 0, 1) := by decide +kernel
theorem dX1_isHeld_4 : decode cX1_isHeld 4 = .ok (.getfield 41, 3) := by decide +kernel
theorem dX1_isHeld_7 : decode cX1_isHeld 7 = .ok (.if_icmp .ge 33, 3) := by decide +kernel
theorem dX1_isHeld_10 : decode cX1_isHeld 10 = .ok (.aload_n 0, 1) := by decide +kernel
theorem dX1_isHeld_11 : decode cX1_isHeld 11 = .ok (.getfield 19, 3) := by decide +kernel
theorem dX1_isHeld_14 : decode cX1_isHeld 14 = .ok (.iload_n 2, 1) := by decide +kernel
theorem dX1_isHeld_15 : decode cX1_isHeld 15 = .ok (.iaload, 1) := by decide +kernel
theorem dX1_isHeld_16 : decode cX1_isHeld 16 = .ok (.aload_n 1, 1) := by decide +kernel
theorem dX1_isHeld_17 : decode cX1_isHeld 17 = .ok (.getfield 65, 3) := by decide +kernel
theorem dX1_isHeld_20 : decode cX1_isHeld 20 = .ok (.if_icmp .ne 14, 3) := by decide +kernel
theorem dX1_isHeld_23 : decode cX1_isHeld 23 = .ok (.aload_n 0, 1) := by decide +kernel
theorem dX1_isHeld_24 : decode cX1_isHeld 24 = .ok (.iload_n 2, 1) := by decide +kernel
theorem dX1_isHeld_25 : decode cX1_isHeld 25 = .ok (.aload_n 1, 1) := by decide +kernel
theorem dX1_isHeld_26 : decode cX1_isHeld 26 = .ok (.invokevirtual 70, 3) := by decide +kernel
theorem dX1_isHeld_29 : decode cX1_isHeld 29 = .ok (.ifCond .eq 5, 3) := by decide +kernel
theorem dX1_isHeld_32 : decode cX1_isHeld 32 = .ok (.iconst 1, 1) := by decide +kernel
theorem dX1_isHeld_33 : decode cX1_isHeld 33 = .ok (.ireturn, 1) := by decide +kernel
theorem dX1_isHeld_34 : decode cX1_isHeld 34 = .ok (.iinc 2 1, 3) := by decide +kernel
theorem dX1_isHeld_37 : decode cX1_isHeld 37 = .ok (.goto (-35), 3) := by decide +kernel
theorem dX1_isHeld_40 : decode cX1_isHeld 40 = .ok (.iconst 0, 1) := by decide +kernel
theorem dX1_isHeld_41 : decode cX1_isHeld 41 = .ok (.ireturn, 1) := by decide +kernel
theorem dX1_isHeldAt_0 : decode cX1_isHeldAt 0 = .ok (.iload_n 1, 1) := by decide +kernel
theorem dX1_isHeldAt_1 : decode cX1_isHeldAt 1 = .ok (.bipush 32, 2) := by decide +kernel
theorem dX1_isHeldAt_3 : decode cX1_isHeldAt 3 = .ok (.imul, 1) := by decide +kernel
theorem dX1_isHeldAt_4 : decode cX1_isHeldAt 4 = .ok (.istore_n 3, 1) := by decide +kernel
theorem dX1_isHeldAt_5 : decode cX1_isHeldAt 5 = .ok (.iconst 0, 1) := by decide +kernel
theorem dX1_isHeldAt_6 : decode cX1_isHeldAt 6 = .ok (.istore 4, 2) := by decide +kernel
theorem dX1_isHeldAt_8 : decode cX1_isHeldAt 8 = .ok (.iload 4, 2) := by decide +kernel
theorem dX1_isHeldAt_10 : decode cX1_isHeldAt 10 = .ok (.aload_n 2, 1) := by decide +kernel
theorem dX1_isHeldAt_11 : decode cX1_isHeldAt 11 = .ok (.getfield 65, 3) := by decide +kernel
theorem dX1_isHeldAt_14 : decode cX1_isHeldAt 14 = .ok (.if_icmp .ge 30, 3) := by decide +kernel
theorem dX1_isHeldAt_17 : decode cX1_isHeldAt 17 = .ok (.aload_n 0, 1) := by decide +kernel
theorem dX1_isHeldAt_18 : decode cX1_isHeldAt 18 = .ok (.getfield 15, 3) := by decide +kernel
theorem dX1_isHeldAt_21 : decode cX1_isHeldAt 21 = .ok (.iload_n 3, 1) := by decide +kernel
theorem dX1_isHeldAt_22 : decode cX1_isHeldAt 22 = .ok (.iload 4, 2) := by decide +kernel
theorem dX1_isHeldAt_24 : decode cX1_isHeldAt 24 = .ok (.iadd, 1) := by decide +kernel
theorem dX1_isHeldAt_25 : decode cX1_isHeldAt 25 = .ok (.caload, 1) := by decide +kernel
theorem dX1_isHeldAt_26 : decode cX1_isHeldAt 26 = .ok (.aload_n 2, 1) := by decide +kernel
theorem dX1_isHeldAt_27 : decode cX1_isHeldAt 27 = .ok (.getfield 74, 3) := by decide +kernel
theorem dX1_isHeldAt_30 : decode cX1_isHeldAt 30 = .ok (.iload 4, 2) := by decide +kernel
theorem dX1_isHeldAt_32 : decode cX1_isHeldAt 32 = .ok (.caload, 1) := by decide +kernel
theorem dX1_isHeldAt_33 : decode cX1_isHeldAt 33 = .ok (.if_icmp .eq 5, 3) := by decide +kernel
theorem dX1_isHeldAt_36 : decode cX1_isHeldAt 36 = .ok (.iconst 0, 1) := by decide +kernel
theorem dX1_isHeldAt_37 : decode cX1_isHeldAt 37 = .ok (.ireturn, 1) := by decide +kernel
theorem dX1_isHeldAt_38 : decode cX1_isHeldAt 38 = .ok (.iinc 4 1, 3) := by decide +kernel
theorem dX1_isHeldAt_41 : decode cX1_isHeldAt 41 = .ok (.goto (-33), 3) := by decide +kernel
theorem dX1_isHeldAt_44 : decode cX1_isHeldAt 44 = .ok (.iconst 1, 1) := by decide +kernel
theorem dX1_isHeldAt_45 : decode cX1_isHeldAt 45 = .ok (.ireturn, 1) := by decide +kernel
theorem dX1_hold_0 : decode cX1_hold 0 = .ok (.aload_n 0, 1) := by decide +kernel
theorem dX1_hold_1 : decode cX1_hold 1 = .ok (.getfield 41, 3) := by decide +kernel
theorem dX1_hold_4 : decode cX1_hold 4 = .ok (.istore_n 2, 1) := by decide +kernel
theorem dX1_hold_5 : decode cX1_hold 5 = .ok (.aload_n 0, 1) := by decide +kernel
theorem dX1_hold_6 : decode cX1_hold 6 = .ok (.getfield 41, 3) := by decide +kernel
theorem dX1_hold_9 : decode cX1_hold 9 = .ok (.bipush 24, 2) := by decide +kernel
theorem dX1_hold_11 : decode cX1_hold 11 = .ok (.if_icmp .ge 16, 3) := by decide +kernel
theorem dX1_hold_14 : decode cX1_hold 14 = .ok (.aload_n 0, 1) := by decide +kernel
theorem dX1_hold_15 : decode cX1_hold 15 = .ok (.dup, 1) := by decide +kernel
theorem dX1_hold_16 : decode cX1_hold 16 = .ok (.getfield 41, 3) := by decide +kernel
theorem dX1_hold_19 : decode cX1_hold 19 = .ok (.iconst 1, 1) := by decide +kernel
theorem dX1_hold_20 : decode cX1_hold 20 = .ok (.iadd, 1) := by decide +kernel
theorem dX1_hold_21 : decode cX1_hold 21 = .ok (.putfield 41, 3) := by decide +kernel
theorem dX1_hold_24 : decode cX1_hold 24 = .ok (.goto 21, 3) := by decide +kernel
theorem dX1_hold_27 : decode cX1_hold 27 = .ok (.aload_n 0, 1) := by decide +kernel
theorem dX1_hold_28 : decode cX1_hold 28 = .ok (.getfield 44, 3) := by decide +kernel
theorem dX1_hold_31 : decode cX1_hold 31 = .ok (.istore_n 2, 1) := by decide +kernel
theorem dX1_hold_32 : decode cX1_hold 32 = .ok (.aload_n 0, 1) := by decide +kernel
theorem dX1_hold_33 : decode cX1_hold 33 = .ok (.aload_n 0, 1) := by decide +kernel
theorem dX1_hold_34 : decode cX1_hold 34 = .ok (.getfield 44, 3) := by decide +kernel
theorem dX1_hold_37 : decode cX1_hold 37 = .ok (.iconst 1, 1) := by decide +kernel
theorem dX1_hold_38 : decode cX1_hold 38 = .ok (.iadd, 1) := by decide +kernel
theorem dX1_hold_39 : decode cX1_hold 39 = .ok (.bipush 24, 2) := by decide +kernel
theorem dX1_hold_41 : decode cX1_hold 41 = .ok (.irem, 1) := by decide +kernel
theorem dX1_hold_42 : decode cX1_hold 42 = .ok (.putfield 44, 3) := by decide +kernel
theorem dX1_hold_45 : decode cX1_hold 45 = .ok (.aload_n 0, 1) := by decide +kernel
theorem dX1_hold_46 : decode cX1_hold 46 = .ok (.getfield 19, 3) := by decide +kernel
theorem dX1_hold_49 : decode cX1_hold 49 = .ok (.iload_n 2, 1) := by decide +kernel
theorem dX1_hold_50 : decode cX1_hold 50 = .ok (.aload_n 1, 1) := by decide +kernel
theorem dX1_hold_51 : decode cX1_hold 51 = .ok (.getfield 65, 3) := by decide +kernel
theorem dX1_hold_54 : decode cX1_hold 54 = .ok (.iastore, 1) := by decide +kernel
theorem dX1_hold_55 : decode cX1_hold 55 = .ok (.iconst 0, 1) := by decide +kernel
theorem dX1_hold_56 : decode cX1_hold 56 = .ok (.istore_n 3, 1) := by decide +kernel
theorem dX1_hold_57 : decode cX1_hold 57 = .ok (.iload_n 3, 1) := by decide +kernel
theorem dX1_hold_58 : decode cX1_hold 58 = .ok (.aload_n 1, 1) := by decide +kernel
theorem dX1_hold_59 : decode cX1_hold 59 = .ok (.getfield 65, 3) := by decide +kernel
theorem dX1_hold_62 : decode cX1_hold 62 = .ok (.if_icmp .ge 26, 3) := by decide +kernel
theorem dX1_hold_65 : decode cX1_hold 65 = .ok (.aload_n 0, 1) := by decide +kernel
theorem dX1_hold_66 : decode cX1_hold 66 = .ok (.getfield 15, 3) := by decide +kernel
theorem dX1_hold_69 : decode cX1_hold 69 = .ok (.iload_n 2, 1) := by decide +kernel
theorem dX1_hold_70 : decode cX1_hold 70 = .ok (.bipush 32, 2) := by decide +kernel
theorem dX1_hold_72 : decode cX1_hold 72 = .ok (.imul, 1) := by decide +kernel
theorem dX1_hold_73 : decode cX1_hold 73 = .ok (.iload_n 3, 1) := by decide +kernel
theorem dX1_hold_74 : decode cX1_hold 74 = .ok (.iadd, 1) := by decide +kernel
theorem dX1_hold_75 : decode cX1_hold 75 = .ok (.aload_n 1, 1) := by decide +kernel
theorem dX1_hold_76 : decode cX1_hold 76 = .ok (.getfield 74, 3) := by decide +kernel
theorem dX1_hold_79 : decode cX1_hold 79 = .ok (.iload_n 3, 1) := by decide +kernel
theorem dX1_hold_80 : decode cX1_hold 80 = .ok (.caload, 1) := by decide +kernel
theorem dX1_hold_81 : decode cX1_hold 81 = .ok (.castore, 1) := by decide +kernel
theorem dX1_hold_82 : decode cX1_hold 82 = .ok (.iinc 3 1, 3) := by decide +kernel
theorem dX1_hold_85 : decode cX1_hold 85 = .ok (.goto (-28), 3) := by decide +kernel
theorem dX1_hold_88 : decode cX1_hold 88 = .ok (.return_, 1) := by decide +kernel
theorem dX1_holds_0 : decode cX1_holds 0 = .ok (.aload_n 0, 1) := by decide +kernel
theorem dX1_holds_1 : decode cX1_holds 1 = .ok (.ifnull 9, 3) := by decide +kernel
theorem dX1_holds_4 : decode cX1_holds 4 = .ok (.iload_n 2, 1) := by decide +kernel
theorem dX1_holds_5 : decode cX1_holds 5 = .ok (.bipush 6, 2) := by decide +kernel
theorem dX1_holds_7 : decode cX1_holds 7 = .ok (.if_icmp .le 5, 3) := by decide +kernel
theorem dX1_holds_10 : decode cX1_holds 10 = .ok (.iconst 0, 1) := by decide +kernel
theorem dX1_holds_11 : decode cX1_holds 11 = .ok (.ireturn, 1) := by decide +kernel
theorem dX1_holds_12 : decode cX1_holds 12 = .ok (.aload_n 0, 1) := by decide +kernel
theorem dX1_holds_13 : decode cX1_holds 13 = .ok (.getfield 77, 3) := by decide +kernel
theorem dX1_holds_16 : decode cX1_holds 16 = .ok (.tableswitch 171 0 6 #[44, 57, 71, 85, 102, 117, 137], 44) := by decide +kernel
theorem dX1_holds_60 : decode cX1_holds 60 = .ok (.aload_n 1, 1) := by decide +kernel
theorem dX1_holds_61 : decode cX1_holds 61 = .ok (.aload_n 0, 1) := by decide +kernel
theorem dX1_holds_62 : decode cX1_holds 62 = .ok (.getfield 82, 3) := by decide +kernel
theorem dX1_holds_65 : decode cX1_holds 65 = .ok (.aload_n 0, 1) := by decide +kernel
theorem dX1_holds_66 : decode cX1_holds 66 = .ok (.getfield 86, 3) := by decide +kernel
theorem dX1_holds_69 : decode cX1_holds 69 = .ok (.invokevirtual 89, 3) := by decide +kernel
theorem dX1_holds_72 : decode cX1_holds 72 = .ok (.ireturn, 1) := by decide +kernel
theorem dX1_holds_73 : decode cX1_holds 73 = .ok (.aload_n 1, 1) := by decide +kernel
theorem dX1_holds_74 : decode cX1_holds 74 = .ok (.aload_n 0, 1) := by decide +kernel
theorem dX1_holds_75 : decode cX1_holds 75 = .ok (.getfield 82, 3) := by decide +kernel
theorem dX1_holds_78 : decode cX1_holds 78 = .ok (.aload_n 0, 1) := by decide +kernel
theorem dX1_holds_79 : decode cX1_holds 79 = .ok (.getfield 93, 3) := by decide +kernel
theorem dX1_holds_82 : decode cX1_holds 82 = .ok (.iconst 0, 1) := by decide +kernel
theorem dX1_holds_83 : decode cX1_holds 83 = .ok (.invokevirtual 96, 3) := by decide +kernel
theorem dX1_holds_86 : decode cX1_holds 86 = .ok (.ireturn, 1) := by decide +kernel
theorem dX1_holds_87 : decode cX1_holds 87 = .ok (.aload_n 1, 1) := by decide +kernel
theorem dX1_holds_88 : decode cX1_holds 88 = .ok (.aload_n 0, 1) := by decide +kernel
theorem dX1_holds_89 : decode cX1_holds 89 = .ok (.getfield 82, 3) := by decide +kernel
theorem dX1_holds_92 : decode cX1_holds 92 = .ok (.aload_n 0, 1) := by decide +kernel
theorem dX1_holds_93 : decode cX1_holds 93 = .ok (.getfield 93, 3) := by decide +kernel
theorem dX1_holds_96 : decode cX1_holds 96 = .ok (.iconst 1, 1) := by decide +kernel
theorem dX1_holds_97 : decode cX1_holds 97 = .ok (.invokevirtual 96, 3) := by decide +kernel
theorem dX1_holds_100 : decode cX1_holds 100 = .ok (.ireturn, 1) := by decide +kernel
theorem dX1_holds_101 : decode cX1_holds 101 = .ok (.aload_n 1, 1) := by decide +kernel
theorem dX1_holds_102 : decode cX1_holds 102 = .ok (.getfield 65, 3) := by decide +kernel
theorem dX1_holds_105 : decode cX1_holds 105 = .ok (.aload_n 0, 1) := by decide +kernel
theorem dX1_holds_106 : decode cX1_holds 106 = .ok (.getfield 86, 3) := by decide +kernel
theorem dX1_holds_109 : decode cX1_holds 109 = .ok (.if_icmp .lt 7, 3) := by decide +kernel
theorem dX1_holds_112 : decode cX1_holds 112 = .ok (.iconst 1, 1) := by decide +kernel
theorem dX1_holds_113 : decode cX1_holds 113 = .ok (.goto 4, 3) := by decide +kernel
theorem dX1_holds_116 : decode cX1_holds 116 = .ok (.iconst 0, 1) := by decide +kernel
theorem dX1_holds_117 : decode cX1_holds 117 = .ok (.ireturn, 1) := by decide +kernel
theorem dX1_holds_118 : decode cX1_holds 118 = .ok (.aload_n 1, 1) := by decide +kernel
theorem dX1_holds_119 : decode cX1_holds 119 = .ok (.getfield 65, 3) := by decide +kernel
theorem dX1_holds_122 : decode cX1_holds 122 = .ok (.iconst 2, 1) := by decide +kernel
theorem dX1_holds_123 : decode cX1_holds 123 = .ok (.irem, 1) := by decide +kernel
theorem dX1_holds_124 : decode cX1_holds 124 = .ok (.ifCond .ne 7, 3) := by decide +kernel
theorem dX1_holds_127 : decode cX1_holds 127 = .ok (.iconst 1, 1) := by decide +kernel
theorem dX1_holds_128 : decode cX1_holds 128 = .ok (.goto 4, 3) := by decide +kernel
theorem dX1_holds_131 : decode cX1_holds 131 = .ok (.iconst 0, 1) := by decide +kernel
theorem dX1_holds_132 : decode cX1_holds 132 = .ok (.ireturn, 1) := by decide +kernel
theorem dX1_holds_133 : decode cX1_holds 133 = .ok (.aload_n 0, 1) := by decide +kernel
theorem dX1_holds_134 : decode cX1_holds 134 = .ok (.getfield 100, 3) := by decide +kernel
theorem dX1_holds_137 : decode cX1_holds 137 = .ok (.aload_n 1, 1) := by decide +kernel
theorem dX1_holds_138 : decode cX1_holds 138 = .ok (.iload_n 2, 1) := by decide +kernel
theorem dX1_holds_139 : decode cX1_holds 139 = .ok (.iconst 1, 1) := by decide +kernel
theorem dX1_holds_140 : decode cX1_holds 140 = .ok (.iadd, 1) := by decide +kernel
theorem dX1_holds_141 : decode cX1_holds 141 = .ok (.invokestatic 27, 3) := by decide +kernel
theorem dX1_holds_144 : decode cX1_holds 144 = .ok (.ifCond .ne 7, 3) := by decide +kernel
theorem dX1_holds_147 : decode cX1_holds 147 = .ok (.iconst 1, 1) := by decide +kernel
theorem dX1_holds_148 : decode cX1_holds 148 = .ok (.goto 4, 3) := by decide +kernel
theorem dX1_holds_151 : decode cX1_holds 151 = .ok (.iconst 0, 1) := by decide +kernel
theorem dX1_holds_152 : decode cX1_holds 152 = .ok (.ireturn, 1) := by decide +kernel
theorem dX1_holds_153 : decode cX1_holds 153 = .ok (.aload_n 0, 1) := by decide +kernel
theorem dX1_holds_154 : decode cX1_holds 154 = .ok (.getfield 100, 3) := by decide +kernel
theorem dX1_holds_157 : decode cX1_holds 157 = .ok (.aload_n 1, 1) := by decide +kernel
theorem dX1_holds_158 : decode cX1_holds 158 = .ok (.iload_n 2, 1) := by decide +kernel
theorem dX1_holds_159 : decode cX1_holds 159 = .ok (.iconst 1, 1) := by decide +kernel
theorem dX1_holds_160 : decode cX1_holds 160 = .ok (.iadd, 1) := by decide +kernel
theorem dX1_holds_161 : decode cX1_holds 161 = .ok (.invokestatic 27, 3) := by decide +kernel
theorem dX1_holds_164 : decode cX1_holds 164 = .ok (.ifCond .eq 21, 3) := by decide +kernel
theorem dX1_holds_167 : decode cX1_holds 167 = .ok (.aload_n 0, 1) := by decide +kernel
theorem dX1_holds_168 : decode cX1_holds 168 = .ok (.getfield 103, 3) := by decide +kernel
theorem dX1_holds_171 : decode cX1_holds 171 = .ok (.aload_n 1, 1) := by decide +kernel
theorem dX1_holds_172 : decode cX1_holds 172 = .ok (.iload_n 2, 1) := by decide +kernel
theorem dX1_holds_173 : decode cX1_holds 173 = .ok (.iconst 1, 1) := by decide +kernel
theorem dX1_holds_174 : decode cX1_holds 174 = .ok (.iadd, 1) := by decide +kernel
theorem dX1_holds_175 : decode cX1_holds 175 = .ok (.invokestatic 27, 3) := by decide +kernel
theorem dX1_holds_178 : decode cX1_holds 178 = .ok (.ifCond .eq 7, 3) := by decide +kernel
theorem dX1_holds_181 : decode cX1_holds 181 = .ok (.iconst 1, 1) := by decide +kernel
theorem dX1_holds_182 : decode cX1_holds 182 = .ok (.goto 4, 3) := by decide +kernel
theorem dX1_holds_185 : decode cX1_holds 185 = .ok (.iconst 0, 1) := by decide +kernel
theorem dX1_holds_186 : decode cX1_holds 186 = .ok (.ireturn, 1) := by decide +kernel
theorem dX1_holds_187 : decode cX1_holds 187 = .ok (.aload_n 0, 1) := by decide +kernel
theorem dX1_holds_188 : decode cX1_holds 188 = .ok (.getfield 100, 3) := by decide +kernel
theorem dX1_holds_191 : decode cX1_holds 191 = .ok (.aload_n 1, 1) := by decide +kernel
theorem dX1_holds_192 : decode cX1_holds 192 = .ok (.iload_n 2, 1) := by decide +kernel
theorem dX1_holds_193 : decode cX1_holds 193 = .ok (.iconst 1, 1) := by decide +kernel
theorem dX1_holds_194 : decode cX1_holds 194 = .ok (.iadd, 1) := by decide +kernel
theorem dX1_holds_195 : decode cX1_holds 195 = .ok (.invokestatic 27, 3) := by decide +kernel
theorem dX1_holds_198 : decode cX1_holds 198 = .ok (.ifCond .ne 17, 3) := by decide +kernel
theorem dX1_holds_201 : decode cX1_holds 201 = .ok (.aload_n 0, 1) := by decide +kernel
theorem dX1_holds_202 : decode cX1_holds 202 = .ok (.getfield 103, 3) := by decide +kernel
theorem dX1_holds_205 : decode cX1_holds 205 = .ok (.aload_n 1, 1) := by decide +kernel
theorem dX1_holds_206 : decode cX1_holds 206 = .ok (.iload_n 2, 1) := by decide +kernel
theorem dX1_holds_207 : decode cX1_holds 207 = .ok (.iconst 1, 1) := by decide +kernel
theorem dX1_holds_208 : decode cX1_holds 208 = .ok (.iadd, 1) := by decide +kernel
theorem dX1_holds_209 : decode cX1_holds 209 = .ok (.invokestatic 27, 3) := by decide +kernel
theorem dX1_holds_212 : decode cX1_holds 212 = .ok (.ifCond .eq 7, 3) := by decide +kernel
theorem dX1_holds_215 : decode cX1_holds 215 = .ok (.iconst 1, 1) := by decide +kernel
theorem dX1_holds_216 : decode cX1_holds 216 = .ok (.goto 4, 3) := by decide +kernel
theorem dX1_holds_219 : decode cX1_holds 219 = .ok (.iconst 0, 1) := by decide +kernel
theorem dX1_holds_220 : decode cX1_holds 220 = .ok (.ireturn, 1) := by decide +kernel
theorem dX2_init_0 : decode cX2_init 0 = .ok (.aload_n 0, 1) := by decide +kernel
theorem dX2_init_1 : decode cX2_init 1 = .ok (.invokespecial 3, 3) := by decide +kernel
theorem dX2_init_4 : decode cX2_init 4 = .ok (.aload_n 0, 1) := by decide +kernel
theorem dX2_init_5 : decode cX2_init 5 = .ok (.new 9, 3) := by decide +kernel
theorem dX2_init_8 : decode cX2_init 8 = .ok (.dup, 1) := by decide +kernel
theorem dX2_init_9 : decode cX2_init 9 = .ok (.invokespecial 11, 3) := by decide +kernel
theorem dX2_init_12 : decode cX2_init 12 = .ok (.putfield 12, 3) := by decide +kernel
theorem dX2_init_15 : decode cX2_init 15 = .ok (.aload_n 0, 1) := by decide +kernel
theorem dX2_init_16 : decode cX2_init 16 = .ok (.new 9, 3) := by decide +kernel
theorem dX2_init_19 : decode cX2_init 19 = .ok (.dup, 1) := by decide +kernel
theorem dX2_init_20 : decode cX2_init 20 = .ok (.invokespecial 11, 3) := by decide +kernel
theorem dX2_init_23 : decode cX2_init 23 = .ok (.putfield 18, 3) := by decide +kernel
theorem dX2_init_26 : decode cX2_init 26 = .ok (.aload_n 0, 1) := by decide +kernel
theorem dX2_init_27 : decode cX2_init 27 = .ok (.bipush 32, 2) := by decide +kernel
theorem dX2_init_29 : decode cX2_init 29 = .ok (.newarray .boolean, 2) := by decide +kernel
theorem dX2_init_31 : decode cX2_init 31 = .ok (.putfield 21, 3) := by decide +kernel
theorem dX2_init_34 : decode cX2_init 34 = .ok (.aload_n 0, 1) := by decide +kernel
theorem dX2_init_35 : decode cX2_init 35 = .ok (.bipush 32, 2) := by decide +kernel
theorem dX2_init_37 : decode cX2_init 37 = .ok (.newarray .boolean, 2) := by decide +kernel
theorem dX2_init_39 : decode cX2_init 39 = .ok (.putfield 25, 3) := by decide +kernel
theorem dX2_init_42 : decode cX2_init 42 = .ok (.aload_n 0, 1) := by decide +kernel
theorem dX2_init_43 : decode cX2_init 43 = .ok (.bipush 60, 2) := by decide +kernel
theorem dX2_init_45 : decode cX2_init 45 = .ok (.newarray .int, 2) := by decide +kernel
theorem dX2_init_47 : decode cX2_init 47 = .ok (.putfield 28, 3) := by decide +kernel
theorem dX2_init_50 : decode cX2_init 50 = .ok (.aload_n 0, 1) := by decide +kernel
theorem dX2_init_51 : decode cX2_init 51 = .ok (.bipush 60, 2) := by decide +kernel
theorem dX2_init_53 : decode cX2_init 53 = .ok (.newarray .int, 2) := by decide +kernel
theorem dX2_init_55 : decode cX2_init 55 = .ok (.putfield 32, 3) := by decide +kernel
theorem dX2_init_58 : decode cX2_init 58 = .ok (.aload_n 0, 1) := by decide +kernel
theorem dX2_init_59 : decode cX2_init 59 = .ok (.bipush 60, 2) := by decide +kernel
theorem dX2_init_61 : decode cX2_init 61 = .ok (.newarray .int, 2) := by decide +kernel
theorem dX2_init_63 : decode cX2_init 63 = .ok (.putfield 35, 3) := by decide +kernel
theorem dX2_init_66 : decode cX2_init 66 = .ok (.aload_n 0, 1) := by decide +kernel
theorem dX2_init_67 : decode cX2_init 67 = .ok (.aload_n 1, 1) := by decide +kernel
theorem dX2_init_68 : decode cX2_init 68 = .ok (.putfield 38, 3) := by decide +kernel
theorem dX2_init_71 : decode cX2_init 71 = .ok (.aload_n 0, 1) := by decide +kernel
theorem dX2_init_72 : decode cX2_init 72 = .ok (.aload_n 2, 1) := by decide +kernel
theorem dX2_init_73 : decode cX2_init 73 = .ok (.putfield 41, 3) := by decide +kernel
theorem dX2_init_76 : decode cX2_init 76 = .ok (.return_, 1) := by decide +kernel
theorem dX2_begin_0 : decode cX2_begin 0 = .ok (.aload_n 0, 1) := by decide +kernel
theorem dX2_begin_1 : decode cX2_begin 1 = .ok (.getfield 12, 3) := by decide +kernel
theorem dX2_begin_4 : decode cX2_begin 4 = .ok (.aload_n 0, 1) := by decide +kernel
theorem dX2_begin_5 : decode cX2_begin 5 = .ok (.getfield 38, 3) := by decide +kernel
theorem dX2_begin_8 : decode cX2_begin 8 = .ok (.invokevirtual 45, 3) := by decide +kernel
theorem dX2_begin_11 : decode cX2_begin 11 = .ok (.iconst 0, 1) := by decide +kernel
theorem dX2_begin_12 : decode cX2_begin 12 = .ok (.istore_n 1, 1) := by decide +kernel
theorem dX2_begin_13 : decode cX2_begin 13 = .ok (.iload_n 1, 1) := by decide +kernel
theorem dX2_begin_14 : decode cX2_begin 14 = .ok (.bipush 32, 2) := by decide +kernel
theorem dX2_begin_16 : decode cX2_begin 16 = .ok (.if_icmp .ge 16, 3) := by decide +kernel
theorem dX2_begin_19 : decode cX2_begin 19 = .ok (.aload_n 0, 1) := by decide +kernel
theorem dX2_begin_20 : decode cX2_begin 20 = .ok (.getfield 21, 3) := by decide +kernel
theorem dX2_begin_23 : decode cX2_begin 23 = .ok (.iload_n 1, 1) := by decide +kernel
theorem dX2_begin_24 : decode cX2_begin 24 = .ok (.iconst 0, 1) := by decide +kernel
theorem dX2_begin_25 : decode cX2_begin 25 = .ok (.bastore, 1) := by decide +kernel
theorem dX2_begin_26 : decode cX2_begin 26 = .ok (.iinc 1 1, 3) := by decide +kernel
theorem dX2_begin_29 : decode cX2_begin 29 = .ok (.goto (-16), 3) := by decide +kernel
theorem dX2_begin_32 : decode cX2_begin 32 = .ok (.aload_n 0, 1) := by decide +kernel
theorem dX2_begin_33 : decode cX2_begin 33 = .ok (.iconst 0, 1) := by decide +kernel
theorem dX2_begin_34 : decode cX2_begin 34 = .ok (.putfield 49, 3) := by decide +kernel
theorem dX2_begin_37 : decode cX2_begin 37 = .ok (.return_, 1) := by decide +kernel
theorem dX2_addUnit_0 : decode cX2_addUnit 0 = .ok (.aload_n 0, 1) := by decide +kernel
theorem dX2_addUnit_1 : decode cX2_addUnit 1 = .ok (.getfield 49, 3) := by decide +kernel
theorem dX2_addUnit_4 : decode cX2_addUnit 4 = .ok (.bipush 60, 2) := by decide +kernel
theorem dX2_addUnit_6 : decode cX2_addUnit 6 = .ok (.if_icmp .ge 43, 3) := by decide +kernel
theorem dX2_addUnit_9 : decode cX2_addUnit 9 = .ok (.aload_n 0, 1) := by decide +kernel
theorem dX2_addUnit_10 : decode cX2_addUnit 10 = .ok (.getfield 28, 3) := by decide +kernel
theorem dX2_addUnit_13 : decode cX2_addUnit 13 = .ok (.aload_n 0, 1) := by decide +kernel
theorem dX2_addUnit_14 : decode cX2_addUnit 14 = .ok (.getfield 49, 3) := by decide +kernel
theorem dX2_addUnit_17 : decode cX2_addUnit 17 = .ok (.iload_n 1, 1) := by decide +kernel
theorem dX2_addUnit_18 : decode cX2_addUnit 18 = .ok (.iastore, 1) := by decide +kernel
theorem dX2_addUnit_19 : decode cX2_addUnit 19 = .ok (.aload_n 0, 1) := by decide +kernel
theorem dX2_addUnit_20 : decode cX2_addUnit 20 = .ok (.getfield 32, 3) := by decide +kernel
theorem dX2_addUnit_23 : decode cX2_addUnit 23 = .ok (.aload_n 0, 1) := by decide +kernel
theorem dX2_addUnit_24 : decode cX2_addUnit 24 = .ok (.getfield 49, 3) := by decide +kernel
theorem dX2_addUnit_27 : decode cX2_addUnit 27 = .ok (.iload_n 2, 1) := by decide +kernel
theorem dX2_addUnit_28 : decode cX2_addUnit 28 = .ok (.iastore, 1) := by decide +kernel
theorem dX2_addUnit_29 : decode cX2_addUnit 29 = .ok (.aload_n 0, 1) := by decide +kernel
theorem dX2_addUnit_30 : decode cX2_addUnit 30 = .ok (.getfield 35, 3) := by decide +kernel
theorem dX2_addUnit_33 : decode cX2_addUnit 33 = .ok (.aload_n 0, 1) := by decide +kernel
theorem dX2_addUnit_34 : decode cX2_addUnit 34 = .ok (.getfield 49, 3) := by decide +kernel
theorem dX2_addUnit_37 : decode cX2_addUnit 37 = .ok (.iload_n 3, 1) := by decide +kernel
theorem dX2_addUnit_38 : decode cX2_addUnit 38 = .ok (.iastore, 1) := by decide +kernel
theorem dX2_addUnit_39 : decode cX2_addUnit 39 = .ok (.aload_n 0, 1) := by decide +kernel
theorem dX2_addUnit_40 : decode cX2_addUnit 40 = .ok (.dup, 1) := by decide +kernel
theorem dX2_addUnit_41 : decode cX2_addUnit 41 = .ok (.getfield 49, 3) := by decide +kernel
theorem dX2_addUnit_44 : decode cX2_addUnit 44 = .ok (.iconst 1, 1) := by decide +kernel
theorem dX2_addUnit_45 : decode cX2_addUnit 45 = .ok (.iadd, 1) := by decide +kernel
theorem dX2_addUnit_46 : decode cX2_addUnit 46 = .ok (.putfield 49, 3) := by decide +kernel
theorem dX2_addUnit_49 : decode cX2_addUnit 49 = .ok (.return_, 1) := by decide +kernel
theorem dX2_lessen_0 : decode cX2_lessen 0 = .ok (.iconst 2, 1) := by decide +kernel
theorem dX2_lessen_1 : decode cX2_lessen 1 = .ok (.aload_n 0, 1) := by decide +kernel
theorem dX2_lessen_2 : decode cX2_lessen 2 = .ok (.getfield 49, 3) := by decide +kernel
theorem dX2_lessen_5 : decode cX2_lessen 5 = .ok (.invokestatic 53, 3) := by decide +kernel
theorem dX2_lessen_8 : decode cX2_lessen 8 = .ok (.istore_n 1, 1) := by decide +kernel
theorem dX2_lessen_9 : decode cX2_lessen 9 = .ok (.iconst 0, 1) := by decide +kernel
theorem dX2_lessen_10 : decode cX2_lessen 10 = .ok (.istore_n 2, 1) := by decide +kernel
theorem dX2_lessen_11 : decode cX2_lessen 11 = .ok (.aload_n 0, 1) := by decide +kernel
theorem dX2_lessen_12 : decode cX2_lessen 12 = .ok (.getfield 49, 3) := by decide +kernel
theorem dX2_lessen_15 : decode cX2_lessen 15 = .ok (.ifCond .le 103, 3) := by decide +kernel
theorem dX2_lessen_18 : decode cX2_lessen 18 = .ok (.aload_n 0, 1) := by decide +kernel
theorem dX2_lessen_19 : decode cX2_lessen 19 = .ok (.getfield 41, 3) := by decide +kernel
theorem dX2_lessen_22 : decode cX2_lessen 22 = .ok (.getfield 59, 3) := by decide +kernel
theorem dX2_lessen_25 : decode cX2_lessen 25 = .ok (.ifCond .ne 93, 3) := by decide +kernel
theorem dX2_lessen_28 : decode cX2_lessen 28 = .ok (.iload_n 2, 1) := by decide +kernel
theorem dX2_lessen_29 : decode cX2_lessen 29 = .ok (.ldc 65, 2) := by decide +kernel
theorem dX2_lessen_31 : decode cX2_lessen 31 = .ok (.if_icmp .ge 87, 3) := by decide +kernel
theorem dX2_lessen_34 : decode cX2_lessen 34 = .ok (.iload_n 1, 1) := by decide +kernel
theorem dX2_lessen_35 : decode cX2_lessen 35 = .ok (.iconst 2, 1) := by decide +kernel
theorem dX2_lessen_36 : decode cX2_lessen 36 = .ok (.if_icmp .lt 24, 3) := by decide +kernel
theorem dX2_lessen_39 : decode cX2_lessen 39 = .ok (.aload_n 0, 1) := by decide +kernel
theorem dX2_lessen_40 : decode cX2_lessen 40 = .ok (.iload_n 1, 1) := by decide +kernel
theorem dX2_lessen_41 : decode cX2_lessen 41 = .ok (.iconst 1, 1) := by decide +kernel
theorem dX2_lessen_42 : decode cX2_lessen 42 = .ok (.invokevirtual 66, 3) := by decide +kernel
theorem dX2_lessen_45 : decode cX2_lessen 45 = .ok (.ifCond .eq 15, 3) := by decide +kernel
theorem dX2_lessen_48 : decode cX2_lessen 48 = .ok (.iconst 2, 1) := by decide +kernel
theorem dX2_lessen_49 : decode cX2_lessen 49 = .ok (.aload_n 0, 1) := by decide +kernel
theorem dX2_lessen_50 : decode cX2_lessen 50 = .ok (.getfield 49, 3) := by decide +kernel
theorem dX2_lessen_53 : decode cX2_lessen 53 = .ok (.invokestatic 53, 3) := by decide +kernel
theorem dX2_lessen_56 : decode cX2_lessen 56 = .ok (.istore_n 1, 1) := by decide +kernel
theorem dX2_lessen_57 : decode cX2_lessen 57 = .ok (.goto 55, 3) := by decide +kernel
theorem dX2_lessen_60 : decode cX2_lessen 60 = .ok (.iload_n 1, 1) := by decide +kernel
theorem dX2_lessen_61 : decode cX2_lessen 61 = .ok (.iconst 2, 1) := by decide +kernel
theorem dX2_lessen_62 : decode cX2_lessen 62 = .ok (.if_icmp .eq 30, 3) := by decide +kernel
theorem dX2_lessen_65 : decode cX2_lessen 65 = .ok (.aload_n 0, 1) := by decide +kernel
theorem dX2_lessen_66 : decode cX2_lessen 66 = .ok (.iload_n 1, 1) := by decide +kernel
theorem dX2_lessen_67 : decode cX2_lessen 67 = .ok (.iconst 0, 1) := by decide +kernel
theorem dX2_lessen_68 : decode cX2_lessen 68 = .ok (.invokevirtual 66, 3) := by decide +kernel
theorem dX2_lessen_71 : decode cX2_lessen 71 = .ok (.ifCond .eq 21, 3) := by decide +kernel
theorem dX2_lessen_74 : decode cX2_lessen 74 = .ok (.iconst 2, 1) := by decide +kernel
theorem dX2_lessen_75 : decode cX2_lessen 75 = .ok (.iload_n 1, 1) := by decide +kernel
theorem dX2_lessen_76 : decode cX2_lessen 76 = .ok (.iconst 1, 1) := by decide +kernel
theorem dX2_lessen_77 : decode cX2_lessen 77 = .ok (.isub, 1) := by decide +kernel
theorem dX2_lessen_78 : decode cX2_lessen 78 = .ok (.invokestatic 70, 3) := by decide +kernel
theorem dX2_lessen_81 : decode cX2_lessen 81 = .ok (.aload_n 0, 1) := by decide +kernel
theorem dX2_lessen_82 : decode cX2_lessen 82 = .ok (.getfield 49, 3) := by decide +kernel
theorem dX2_lessen_85 : decode cX2_lessen 85 = .ok (.invokestatic 53, 3) := by decide +kernel
theorem dX2_lessen_88 : decode cX2_lessen 88 = .ok (.istore_n 1, 1) := by decide +kernel
theorem dX2_lessen_89 : decode cX2_lessen 89 = .ok (.goto 23, 3) := by decide +kernel
theorem dX2_lessen_92 : decode cX2_lessen 92 = .ok (.iload_n 1, 1) := by decide +kernel
theorem dX2_lessen_93 : decode cX2_lessen 93 = .ok (.aload_n 0, 1) := by decide +kernel
theorem dX2_lessen_94 : decode cX2_lessen 94 = .ok (.getfield 49, 3) := by decide +kernel
theorem dX2_lessen_97 : decode cX2_lessen 97 = .ok (.if_icmp .lt 4, 3) := by decide +kernel
theorem dX2_lessen_100 : decode cX2_lessen 100 = .ok (.return_, 1) := by decide +kernel
theorem dX2_lessen_101 : decode cX2_lessen 101 = .ok (.iconst 2, 1) := by decide +kernel
theorem dX2_lessen_102 : decode cX2_lessen 102 = .ok (.iload_n 1, 1) := by decide +kernel
theorem dX2_lessen_103 : decode cX2_lessen 103 = .ok (.imul, 1) := by decide +kernel
theorem dX2_lessen_104 : decode cX2_lessen 104 = .ok (.aload_n 0, 1) := by decide +kernel
theorem dX2_lessen_105 : decode cX2_lessen 105 = .ok (.getfield 49, 3) := by decide +kernel
theorem dX2_lessen_108 : decode cX2_lessen 108 = .ok (.invokestatic 53, 3) := by decide +kernel
theorem dX2_lessen_111 : decode cX2_lessen 111 = .ok (.istore_n 1, 1) := by decide +kernel
theorem dX2_lessen_112 : decode cX2_lessen 112 = .ok (.iinc 2 1, 3) := by decide +kernel
theorem dX2_lessen_115 : decode cX2_lessen 115 = .ok (.goto (-104), 3) := by decide +kernel
theorem dX2_lessen_118 : decode cX2_lessen 118 = .ok (.return_, 1) := by decide +kernel
theorem dX2_takes_0 : decode cX2_takes 0 = .ok (.iconst 0, 1) := by decide +kernel
theorem dX2_takes_1 : decode cX2_takes 1 = .ok (.istore_n 3, 1) := by decide +kernel
theorem dX2_takes_2 : decode cX2_takes 2 = .ok (.iload_n 3, 1) := by decide +kernel
theorem dX2_takes_3 : decode cX2_takes 3 = .ok (.iload_n 1, 1) := by decide +kernel
theorem dX2_takes_4 : decode cX2_takes 4 = .ok (.if_icmp .ge 87, 3) := by decide +kernel
theorem dX2_takes_7 : decode cX2_takes 7 = .ok (.aload_n 0, 1) := by decide +kernel
theorem dX2_takes_8 : decode cX2_takes 8 = .ok (.getfield 41, 3) := by decide +kernel
theorem dX2_takes_11 : decode cX2_takes 11 = .ok (.getfield 59, 3) := by decide +kernel
theorem dX2_takes_14 : decode cX2_takes 14 = .ok (.ifCond .ne 77, 3) := by decide +kernel
theorem dX2_takes_17 : decode cX2_takes 17 = .ok (.iload_n 3, 1) := by decide +kernel
theorem dX2_takes_18 : decode cX2_takes 18 = .ok (.aload_n 0, 1) := by decide +kernel
theorem dX2_takes_19 : decode cX2_takes 19 = .ok (.getfield 49, 3) := by decide +kernel
theorem dX2_takes_22 : decode cX2_takes 22 = .ok (.imul, 1) := by decide +kernel
theorem dX2_takes_23 : decode cX2_takes 23 = .ok (.iload_n 1, 1) := by decide +kernel
theorem dX2_takes_24 : decode cX2_takes 24 = .ok (.idiv, 1) := by decide +kernel
theorem dX2_takes_25 : decode cX2_takes 25 = .ok (.istore 4, 2) := by decide +kernel
theorem dX2_takes_27 : decode cX2_takes 27 = .ok (.iload_n 3, 1) := by decide +kernel
theorem dX2_takes_28 : decode cX2_takes 28 = .ok (.iconst 1, 1) := by decide +kernel
theorem dX2_takes_29 : decode cX2_takes 29 = .ok (.iadd, 1) := by decide +kernel
theorem dX2_takes_30 : decode cX2_takes 30 = .ok (.aload_n 0, 1) := by decide +kernel
theorem dX2_takes_31 : decode cX2_takes 31 = .ok (.getfield 49, 3) := by decide +kernel
theorem dX2_takes_34 : decode cX2_takes 34 = .ok (.imul, 1) := by decide +kernel
theorem dX2_takes_35 : decode cX2_takes 35 = .ok (.iload_n 1, 1) := by decide +kernel
theorem dX2_takes_36 : decode cX2_takes 36 = .ok (.idiv, 1) := by decide +kernel
theorem dX2_takes_37 : decode cX2_takes 37 = .ok (.istore 5, 2) := by decide +kernel
theorem dX2_takes_39 : decode cX2_takes 39 = .ok (.aload_n 0, 1) := by decide +kernel
theorem dX2_takes_40 : decode cX2_takes 40 = .ok (.iload 4, 2) := by decide +kernel
theorem dX2_takes_42 : decode cX2_takes 42 = .ok (.iload 5, 2) := by decide +kernel
theorem dX2_takes_44 : decode cX2_takes 44 = .ok (.iload_n 2, 1) := by decide +kernel
theorem dX2_takes_45 : decode cX2_takes 45 = .ok (.invokevirtual 73, 3) := by decide +kernel
theorem dX2_takes_48 : decode cX2_takes 48 = .ok (.aload_n 0, 1) := by decide +kernel
theorem dX2_takes_49 : decode cX2_takes 49 = .ok (.getfield 41, 3) := by decide +kernel
theorem dX2_takes_52 : decode cX2_takes 52 = .ok (.aload_n 0, 1) := by decide +kernel
theorem dX2_takes_53 : decode cX2_takes 53 = .ok (.getfield 18, 3) := by decide +kernel
theorem dX2_takes_56 : decode cX2_takes 56 = .ok (.invokevirtual 77, 3) := by decide +kernel
theorem dX2_takes_59 : decode cX2_takes 59 = .ok (.iconst 1, 1) := by decide +kernel
theorem dX2_takes_60 : decode cX2_takes 60 = .ok (.if_icmp .ne 25, 3) := by decide +kernel
theorem dX2_takes_63 : decode cX2_takes 63 = .ok (.aload_n 0, 1) := by decide +kernel
theorem dX2_takes_64 : decode cX2_takes 64 = .ok (.getfield 38, 3) := by decide +kernel
theorem dX2_takes_67 : decode cX2_takes 67 = .ok (.aload_n 0, 1) := by decide +kernel
theorem dX2_takes_68 : decode cX2_takes 68 = .ok (.getfield 18, 3) := by decide +kernel
theorem dX2_takes_71 : decode cX2_takes 71 = .ok (.invokevirtual 45, 3) := by decide +kernel
theorem dX2_takes_74 : decode cX2_takes 74 = .ok (.aload_n 0, 1) := by decide +kernel
theorem dX2_takes_75 : decode cX2_takes 75 = .ok (.iload 4, 2) := by decide +kernel
theorem dX2_takes_77 : decode cX2_takes 77 = .ok (.iload 5, 2) := by decide +kernel
theorem dX2_takes_79 : decode cX2_takes 79 = .ok (.iload_n 2, 1) := by decide +kernel
theorem dX2_takes_80 : decode cX2_takes 80 = .ok (.invokevirtual 81, 3) := by decide +kernel
theorem dX2_takes_83 : decode cX2_takes 83 = .ok (.iconst 1, 1) := by decide +kernel
theorem dX2_takes_84 : decode cX2_takes 84 = .ok (.ireturn, 1) := by decide +kernel
theorem dX2_takes_85 : decode cX2_takes 85 = .ok (.iinc 3 1, 3) := by decide +kernel
theorem dX2_takes_88 : decode cX2_takes 88 = .ok (.goto (-86), 3) := by decide +kernel
theorem dX2_takes_91 : decode cX2_takes 91 = .ok (.iconst 0, 1) := by decide +kernel
theorem dX2_takes_92 : decode cX2_takes 92 = .ok (.ireturn, 1) := by decide +kernel
theorem dX2_makeTrial_0 : decode cX2_makeTrial 0 = .ok (.iconst 0, 1) := by decide +kernel
theorem dX2_makeTrial_1 : decode cX2_makeTrial 1 = .ok (.istore 4, 2) := by decide +kernel
theorem dX2_makeTrial_3 : decode cX2_makeTrial 3 = .ok (.iload 4, 2) := by decide +kernel
theorem dX2_makeTrial_5 : decode cX2_makeTrial 5 = .ok (.bipush 32, 2) := by decide +kernel
theorem dX2_makeTrial_7 : decode cX2_makeTrial 7 = .ok (.if_icmp .ge 23, 3) := by decide +kernel
theorem dX2_makeTrial_10 : decode cX2_makeTrial 10 = .ok (.aload_n 0, 1) := by decide +kernel
theorem dX2_makeTrial_11 : decode cX2_makeTrial 11 = .ok (.getfield 25, 3) := by decide +kernel
theorem dX2_makeTrial_14 : decode cX2_makeTrial 14 = .ok (.iload 4, 2) := by decide +kernel
theorem dX2_makeTrial_16 : decode cX2_makeTrial 16 = .ok (.aload_n 0, 1) := by decide +kernel
theorem dX2_makeTrial_17 : decode cX2_makeTrial 17 = .ok (.getfield 21, 3) := by decide +kernel
theorem dX2_makeTrial_20 : decode cX2_makeTrial 20 = .ok (.iload 4, 2) := by decide +kernel
theorem dX2_makeTrial_22 : decode cX2_makeTrial 22 = .ok (.baload, 1) := by decide +kernel
theorem dX2_makeTrial_23 : decode cX2_makeTrial 23 = .ok (.bastore, 1) := by decide +kernel
theorem dX2_makeTrial_24 : decode cX2_makeTrial 24 = .ok (.iinc 4 1, 3) := by decide +kernel
theorem dX2_makeTrial_27 : decode cX2_makeTrial 27 = .ok (.goto (-24), 3) := by decide +kernel
theorem dX2_makeTrial_30 : decode cX2_makeTrial 30 = .ok (.iconst 0, 1) := by decide +kernel
theorem dX2_makeTrial_31 : decode cX2_makeTrial 31 = .ok (.istore 4, 2) := by decide +kernel
theorem dX2_makeTrial_33 : decode cX2_makeTrial 33 = .ok (.iload 4, 2) := by decide +kernel
theorem dX2_makeTrial_35 : decode cX2_makeTrial 35 = .ok (.aload_n 0, 1) := by decide +kernel
theorem dX2_makeTrial_36 : decode cX2_makeTrial 36 = .ok (.getfield 49, 3) := by decide +kernel
theorem dX2_makeTrial_39 : decode cX2_makeTrial 39 = .ok (.if_icmp .ge 69, 3) := by decide +kernel
theorem dX2_makeTrial_42 : decode cX2_makeTrial 42 = .ok (.iload 4, 2) := by decide +kernel
theorem dX2_makeTrial_44 : decode cX2_makeTrial 44 = .ok (.iload_n 1, 1) := by decide +kernel
theorem dX2_makeTrial_45 : decode cX2_makeTrial 45 = .ok (.if_icmp .lt 13, 3) := by decide +kernel
theorem dX2_makeTrial_48 : decode cX2_makeTrial 48 = .ok (.iload 4, 2) := by decide +kernel
theorem dX2_makeTrial_50 : decode cX2_makeTrial 50 = .ok (.iload_n 2, 1) := by decide +kernel
theorem dX2_makeTrial_51 : decode cX2_makeTrial 51 = .ok (.if_icmp .ge 7, 3) := by decide +kernel
theorem dX2_makeTrial_54 : decode cX2_makeTrial 54 = .ok (.iconst 1, 1) := by decide +kernel
theorem dX2_makeTrial_55 : decode cX2_makeTrial 55 = .ok (.goto 4, 3) := by decide +kernel
theorem dX2_makeTrial_58 : decode cX2_makeTrial 58 = .ok (.iconst 0, 1) := by decide +kernel
theorem dX2_makeTrial_59 : decode cX2_makeTrial 59 = .ok (.istore 5, 2) := by decide +kernel
theorem dX2_makeTrial_61 : decode cX2_makeTrial 61 = .ok (.aload_n 0, 1) := by decide +kernel
theorem dX2_makeTrial_62 : decode cX2_makeTrial 62 = .ok (.getfield 28, 3) := by decide +kernel
theorem dX2_makeTrial_65 : decode cX2_makeTrial 65 = .ok (.iload 4, 2) := by decide +kernel
theorem dX2_makeTrial_67 : decode cX2_makeTrial 67 = .ok (.iaload, 1) := by decide +kernel
theorem dX2_makeTrial_68 : decode cX2_makeTrial 68 = .ok (.istore 6, 2) := by decide +kernel
theorem dX2_makeTrial_70 : decode cX2_makeTrial 70 = .ok (.iload 5, 2) := by decide +kernel
theorem dX2_makeTrial_72 : decode cX2_makeTrial 72 = .ok (.iload_n 3, 1) := by decide +kernel
theorem dX2_makeTrial_73 : decode cX2_makeTrial 73 = .ok (.if_icmp .eq 29, 3) := by decide +kernel
theorem dX2_makeTrial_76 : decode cX2_makeTrial 76 = .ok (.iload 6, 2) := by decide +kernel
theorem dX2_makeTrial_78 : decode cX2_makeTrial 78 = .ok (.aload_n 0, 1) := by decide +kernel
theorem dX2_makeTrial_79 : decode cX2_makeTrial 79 = .ok (.getfield 32, 3) := by decide +kernel
theorem dX2_makeTrial_82 : decode cX2_makeTrial 82 = .ok (.iload 4, 2) := by decide +kernel
theorem dX2_makeTrial_84 : decode cX2_makeTrial 84 = .ok (.iaload, 1) := by decide +kernel
theorem dX2_makeTrial_85 : decode cX2_makeTrial 85 = .ok (.if_icmp .ge 17, 3) := by decide +kernel
theorem dX2_makeTrial_88 : decode cX2_makeTrial 88 = .ok (.aload_n 0, 1) := by decide +kernel
theorem dX2_makeTrial_89 : decode cX2_makeTrial 89 = .ok (.getfield 25, 3) := by decide +kernel
theorem dX2_makeTrial_92 : decode cX2_makeTrial 92 = .ok (.iload 6, 2) := by decide +kernel
theorem dX2_makeTrial_94 : decode cX2_makeTrial 94 = .ok (.iconst 1, 1) := by decide +kernel
theorem dX2_makeTrial_95 : decode cX2_makeTrial 95 = .ok (.bastore, 1) := by decide +kernel
theorem dX2_makeTrial_96 : decode cX2_makeTrial 96 = .ok (.iinc 6 1, 3) := by decide +kernel
theorem dX2_makeTrial_99 : decode cX2_makeTrial 99 = .ok (.goto (-29), 3) := by decide +kernel
theorem dX2_makeTrial_102 : decode cX2_makeTrial 102 = .ok (.iinc 4 1, 3) := by decide +kernel
theorem dX2_makeTrial_105 : decode cX2_makeTrial 105 = .ok (.goto (-72), 3) := by decide +kernel
theorem dX2_makeTrial_108 : decode cX2_makeTrial 108 = .ok (.aload_n 0, 1) := by decide +kernel
theorem dX2_makeTrial_109 : decode cX2_makeTrial 109 = .ok (.getfield 18, 3) := by decide +kernel
theorem dX2_makeTrial_112 : decode cX2_makeTrial 112 = .ok (.iconst 0, 1) := by decide +kernel
theorem dX2_makeTrial_113 : decode cX2_makeTrial 113 = .ok (.putfield 84, 3) := by decide +kernel
theorem dX2_makeTrial_116 : decode cX2_makeTrial 116 = .ok (.iconst 0, 1) := by decide +kernel
theorem dX2_makeTrial_117 : decode cX2_makeTrial 117 = .ok (.istore 4, 2) := by decide +kernel
theorem dX2_makeTrial_119 : decode cX2_makeTrial 119 = .ok (.iload 4, 2) := by decide +kernel
theorem dX2_makeTrial_121 : decode cX2_makeTrial 121 = .ok (.aload_n 0, 1) := by decide +kernel
theorem dX2_makeTrial_122 : decode cX2_makeTrial 122 = .ok (.getfield 12, 3) := by decide +kernel
theorem dX2_makeTrial_125 : decode cX2_makeTrial 125 = .ok (.getfield 84, 3) := by decide +kernel
theorem dX2_makeTrial_128 : decode cX2_makeTrial 128 = .ok (.if_icmp .ge 37, 3) := by decide +kernel
theorem dX2_makeTrial_131 : decode cX2_makeTrial 131 = .ok (.aload_n 0, 1) := by decide +kernel
theorem dX2_makeTrial_132 : decode cX2_makeTrial 132 = .ok (.getfield 25, 3) := by decide +kernel
theorem dX2_makeTrial_135 : decode cX2_makeTrial 135 = .ok (.iload 4, 2) := by decide +kernel
theorem dX2_makeTrial_137 : decode cX2_makeTrial 137 = .ok (.baload, 1) := by decide +kernel
theorem dX2_makeTrial_138 : decode cX2_makeTrial 138 = .ok (.ifCond .ne 21, 3) := by decide +kernel
theorem dX2_makeTrial_141 : decode cX2_makeTrial 141 = .ok (.aload_n 0, 1) := by decide +kernel
theorem dX2_makeTrial_142 : decode cX2_makeTrial 142 = .ok (.getfield 18, 3) := by decide +kernel
theorem dX2_makeTrial_145 : decode cX2_makeTrial 145 = .ok (.aload_n 0, 1) := by decide +kernel
theorem dX2_makeTrial_146 : decode cX2_makeTrial 146 = .ok (.getfield 12, 3) := by decide +kernel
theorem dX2_makeTrial_149 : decode cX2_makeTrial 149 = .ok (.getfield 87, 3) := by decide +kernel
theorem dX2_makeTrial_152 : decode cX2_makeTrial 152 = .ok (.iload 4, 2) := by decide +kernel
theorem dX2_makeTrial_154 : decode cX2_makeTrial 154 = .ok (.caload, 1) := by decide +kernel
theorem dX2_makeTrial_155 : decode cX2_makeTrial 155 = .ok (.invokevirtual 91, 3) := by decide +kernel
theorem dX2_makeTrial_158 : decode cX2_makeTrial 158 = .ok (.pop, 1) := by decide +kernel
theorem dX2_makeTrial_159 : decode cX2_makeTrial 159 = .ok (.iinc 4 1, 3) := by decide +kernel
theorem dX2_makeTrial_162 : decode cX2_makeTrial 162 = .ok (.goto (-43), 3) := by decide +kernel
theorem dX2_makeTrial_165 : decode cX2_makeTrial 165 = .ok (.return_, 1) := by decide +kernel
theorem dX2_keepTrial_0 : decode cX2_keepTrial 0 = .ok (.iconst 0, 1) := by decide +kernel
theorem dX2_keepTrial_1 : decode cX2_keepTrial 1 = .ok (.istore 4, 2) := by decide +kernel
theorem dX2_keepTrial_3 : decode cX2_keepTrial 3 = .ok (.iload 4, 2) := by decide +kernel
theorem dX2_keepTrial_5 : decode cX2_keepTrial 5 = .ok (.bipush 32, 2) := by decide +kernel
theorem dX2_keepTrial_7 : decode cX2_keepTrial 7 = .ok (.if_icmp .ge 23, 3) := by decide +kernel
theorem dX2_keepTrial_10 : decode cX2_keepTrial 10 = .ok (.aload_n 0, 1) := by decide +kernel
theorem dX2_keepTrial_11 : decode cX2_keepTrial 11 = .ok (.getfield 21, 3) := by decide +kernel
theorem dX2_keepTrial_14 : decode cX2_keepTrial 14 = .ok (.iload 4, 2) := by decide +kernel
theorem dX2_keepTrial_16 : decode cX2_keepTrial 16 = .ok (.aload_n 0, 1) := by decide +kernel
theorem dX2_keepTrial_17 : decode cX2_keepTrial 17 = .ok (.getfield 25, 3) := by decide +kernel
theorem dX2_keepTrial_20 : decode cX2_keepTrial 20 = .ok (.iload 4, 2) := by decide +kernel
theorem dX2_keepTrial_22 : decode cX2_keepTrial 22 = .ok (.baload, 1) := by decide +kernel
theorem dX2_keepTrial_23 : decode cX2_keepTrial 23 = .ok (.bastore, 1) := by decide +kernel
theorem dX2_keepTrial_24 : decode cX2_keepTrial 24 = .ok (.iinc 4 1, 3) := by decide +kernel
theorem dX2_keepTrial_27 : decode cX2_keepTrial 27 = .ok (.goto (-24), 3) := by decide +kernel
theorem dX2_keepTrial_30 : decode cX2_keepTrial 30 = .ok (.aload_n 0, 1) := by decide +kernel
theorem dX2_keepTrial_31 : decode cX2_keepTrial 31 = .ok (.getfield 49, 3) := by decide +kernel
theorem dX2_keepTrial_34 : decode cX2_keepTrial 34 = .ok (.istore 4, 2) := by decide +kernel
theorem dX2_keepTrial_36 : decode cX2_keepTrial 36 = .ok (.aload_n 0, 1) := by decide +kernel
theorem dX2_keepTrial_37 : decode cX2_keepTrial 37 = .ok (.iconst 0, 1) := by decide +kernel
theorem dX2_keepTrial_38 : decode cX2_keepTrial 38 = .ok (.putfield 49, 3) := by decide +kernel
theorem dX2_keepTrial_41 : decode cX2_keepTrial 41 = .ok (.iconst 0, 1) := by decide +kernel
theorem dX2_keepTrial_42 : decode cX2_keepTrial 42 = .ok (.istore 5, 2) := by decide +kernel
theorem dX2_keepTrial_44 : decode cX2_keepTrial 44 = .ok (.iload 5, 2) := by decide +kernel
theorem dX2_keepTrial_46 : decode cX2_keepTrial 46 = .ok (.iload 4, 2) := by decide +kernel
theorem dX2_keepTrial_48 : decode cX2_keepTrial 48 = .ok (.if_icmp .ge 59, 3) := by decide +kernel
theorem dX2_keepTrial_51 : decode cX2_keepTrial 51 = .ok (.iload 5, 2) := by decide +kernel
theorem dX2_keepTrial_53 : decode cX2_keepTrial 53 = .ok (.iload_n 1, 1) := by decide +kernel
theorem dX2_keepTrial_54 : decode cX2_keepTrial 54 = .ok (.if_icmp .lt 13, 3) := by decide +kernel
theorem dX2_keepTrial_57 : decode cX2_keepTrial 57 = .ok (.iload 5, 2) := by decide +kernel
theorem dX2_keepTrial_59 : decode cX2_keepTrial 59 = .ok (.iload_n 2, 1) := by decide +kernel
theorem dX2_keepTrial_60 : decode cX2_keepTrial 60 = .ok (.if_icmp .ge 7, 3) := by decide +kernel
theorem dX2_keepTrial_63 : decode cX2_keepTrial 63 = .ok (.iconst 1, 1) := by decide +kernel
theorem dX2_keepTrial_64 : decode cX2_keepTrial 64 = .ok (.goto 4, 3) := by decide +kernel
theorem dX2_keepTrial_67 : decode cX2_keepTrial 67 = .ok (.iconst 0, 1) := by decide +kernel
theorem dX2_keepTrial_68 : decode cX2_keepTrial 68 = .ok (.istore 6, 2) := by decide +kernel
theorem dX2_keepTrial_70 : decode cX2_keepTrial 70 = .ok (.iload 6, 2) := by decide +kernel
theorem dX2_keepTrial_72 : decode cX2_keepTrial 72 = .ok (.iload_n 3, 1) := by decide +kernel
theorem dX2_keepTrial_73 : decode cX2_keepTrial 73 = .ok (.if_icmp .ne 28, 3) := by decide +kernel
theorem dX2_keepTrial_76 : decode cX2_keepTrial 76 = .ok (.aload_n 0, 1) := by decide +kernel
theorem dX2_keepTrial_77 : decode cX2_keepTrial 77 = .ok (.aload_n 0, 1) := by decide +kernel
theorem dX2_keepTrial_78 : decode cX2_keepTrial 78 = .ok (.getfield 28, 3) := by decide +kernel
theorem dX2_keepTrial_81 : decode cX2_keepTrial 81 = .ok (.iload 5, 2) := by decide +kernel
theorem dX2_keepTrial_83 : decode cX2_keepTrial 83 = .ok (.iaload, 1) := by decide +kernel
theorem dX2_keepTrial_84 : decode cX2_keepTrial 84 = .ok (.aload_n 0, 1) := by decide +kernel
theorem dX2_keepTrial_85 : decode cX2_keepTrial 85 = .ok (.getfield 32, 3) := by decide +kernel
theorem dX2_keepTrial_88 : decode cX2_keepTrial 88 = .ok (.iload 5, 2) := by decide +kernel
theorem dX2_keepTrial_90 : decode cX2_keepTrial 90 = .ok (.iaload, 1) := by decide +kernel
theorem dX2_keepTrial_91 : decode cX2_keepTrial 91 = .ok (.aload_n 0, 1) := by decide +kernel
theorem dX2_keepTrial_92 : decode cX2_keepTrial 92 = .ok (.getfield 35, 3) := by decide +kernel
theorem dX2_keepTrial_95 : decode cX2_keepTrial 95 = .ok (.iload 5, 2) := by decide +kernel
theorem dX2_keepTrial_97 : decode cX2_keepTrial 97 = .ok (.iaload, 1) := by decide +kernel
theorem dX2_keepTrial_98 : decode cX2_keepTrial 98 = .ok (.invokevirtual 95, 3) := by decide +kernel
theorem dX2_keepTrial_101 : decode cX2_keepTrial 101 = .ok (.iinc 5 1, 3) := by decide +kernel
theorem dX2_keepTrial_104 : decode cX2_keepTrial 104 = .ok (.goto (-60), 3) := by decide +kernel
theorem dX2_keepTrial_107 : decode cX2_keepTrial 107 = .ok (.return_, 1) := by decide +kernel
theorem dX3_init_0 : decode cX3_init 0 = .ok (.aload_n 0, 1) := by decide +kernel
theorem dX3_init_1 : decode cX3_init 1 = .ok (.invokespecial 3, 3) := by decide +kernel
theorem dX3_init_4 : decode cX3_init 4 = .ok (.aload_n 0, 1) := by decide +kernel
theorem dX3_init_5 : decode cX3_init 5 = .ok (.bipush 32, 2) := by decide +kernel
theorem dX3_init_7 : decode cX3_init 7 = .ok (.newarray .char, 2) := by decide +kernel
theorem dX3_init_9 : decode cX3_init 9 = .ok (.putfield 9, 3) := by decide +kernel
theorem dX3_init_12 : decode cX3_init 12 = .ok (.aload_n 0, 1) := by decide +kernel
theorem dX3_init_13 : decode cX3_init 13 = .ok (.sipush 198, 3) := by decide +kernel
theorem dX3_init_16 : decode cX3_init 16 = .ok (.newarray .int, 2) := by decide +kernel
theorem dX3_init_18 : decode cX3_init 18 = .ok (.putfield 15, 3) := by decide +kernel
theorem dX3_init_21 : decode cX3_init 21 = .ok (.aload_n 0, 1) := by decide +kernel
theorem dX3_init_22 : decode cX3_init 22 = .ok (.sipush 198, 3) := by decide +kernel
theorem dX3_init_25 : decode cX3_init 25 = .ok (.newarray .int, 2) := by decide +kernel
theorem dX3_init_27 : decode cX3_init 27 = .ok (.putfield 19, 3) := by decide +kernel
theorem dX3_init_30 : decode cX3_init 30 = .ok (.aload_n 0, 1) := by decide +kernel
theorem dX3_init_31 : decode cX3_init 31 = .ok (.sipush 198, 3) := by decide +kernel
theorem dX3_init_34 : decode cX3_init 34 = .ok (.newarray .int, 2) := by decide +kernel
theorem dX3_init_36 : decode cX3_init 36 = .ok (.putfield 22, 3) := by decide +kernel
theorem dX3_init_39 : decode cX3_init 39 = .ok (.aload_n 0, 1) := by decide +kernel
theorem dX3_init_40 : decode cX3_init 40 = .ok (.aload_n 1, 1) := by decide +kernel
theorem dX3_init_41 : decode cX3_init 41 = .ok (.putfield 25, 3) := by decide +kernel
theorem dX3_init_44 : decode cX3_init 44 = .ok (.return_, 1) := by decide +kernel
theorem dX3_forget_0 : decode cX3_forget 0 = .ok (.aload_n 0, 1) := by decide +kernel
theorem dX3_forget_1 : decode cX3_forget 1 = .ok (.iconst 0, 1) := by decide +kernel
theorem dX3_forget_2 : decode cX3_forget 2 = .ok (.putfield 29, 3) := by decide +kernel
theorem dX3_forget_5 : decode cX3_forget 5 = .ok (.return_, 1) := by decide +kernel
theorem dX3_fits_0 : decode cX3_fits 0 = .ok (.aload_n 0, 1) := by decide +kernel
theorem dX3_fits_1 : decode cX3_fits 1 = .ok (.getfield 25, 3) := by decide +kernel
theorem dX3_fits_4 : decode cX3_fits 4 = .ok (.getfield 33, 3) := by decide +kernel
theorem dX3_fits_7 : decode cX3_fits 7 = .ok (.ifCond .ne 5, 3) := by decide +kernel
theorem dX3_fits_10 : decode cX3_fits 10 = .ok (.iconst 0, 1) := by decide +kernel
theorem dX3_fits_11 : decode cX3_fits 11 = .ok (.ireturn, 1) := by decide +kernel
theorem dX3_fits_12 : decode cX3_fits 12 = .ok (.aload_n 0, 1) := by decide +kernel
theorem dX3_fits_13 : decode cX3_fits 13 = .ok (.getfield 29, 3) := by decide +kernel
theorem dX3_fits_16 : decode cX3_fits 16 = .ok (.ifCond .eq 13, 3) := by decide +kernel
theorem dX3_fits_19 : decode cX3_fits 19 = .ok (.aload_n 0, 1) := by decide +kernel
theorem dX3_fits_20 : decode cX3_fits 20 = .ok (.aload_n 1, 1) := by decide +kernel
theorem dX3_fits_21 : decode cX3_fits 21 = .ok (.invokevirtual 38, 3) := by decide +kernel
theorem dX3_fits_24 : decode cX3_fits 24 = .ok (.iconst 1, 1) := by decide +kernel
theorem dX3_fits_25 : decode cX3_fits 25 = .ok (.iadd, 1) := by decide +kernel
theorem dX3_fits_26 : decode cX3_fits 26 = .ok (.goto 4, 3) := by decide +kernel
theorem dX3_fits_29 : decode cX3_fits 29 = .ok (.iconst 0, 1) := by decide +kernel
theorem dX3_fits_30 : decode cX3_fits 30 = .ok (.istore_n 2, 1) := by decide +kernel
theorem dX3_fits_31 : decode cX3_fits 31 = .ok (.aload_n 0, 1) := by decide +kernel
theorem dX3_fits_32 : decode cX3_fits 32 = .ok (.aload_n 1, 1) := by decide +kernel
theorem dX3_fits_33 : decode cX3_fits 33 = .ok (.getfield 42, 3) := by decide +kernel
theorem dX3_fits_36 : decode cX3_fits 36 = .ok (.putfield 48, 3) := by decide +kernel
theorem dX3_fits_39 : decode cX3_fits 39 = .ok (.iconst 0, 1) := by decide +kernel
theorem dX3_fits_40 : decode cX3_fits 40 = .ok (.istore_n 3, 1) := by decide +kernel
theorem dX3_fits_41 : decode cX3_fits 41 = .ok (.iload_n 3, 1) := by decide +kernel
theorem dX3_fits_42 : decode cX3_fits 42 = .ok (.aload_n 0, 1) := by decide +kernel
theorem dX3_fits_43 : decode cX3_fits 43 = .ok (.getfield 48, 3) := by decide +kernel
theorem dX3_fits_46 : decode cX3_fits 46 = .ok (.if_icmp .ge 21, 3) := by decide +kernel
theorem dX3_fits_49 : decode cX3_fits 49 = .ok (.aload_n 0, 1) := by decide +kernel
theorem dX3_fits_50 : decode cX3_fits 50 = .ok (.getfield 9, 3) := by decide +kernel
theorem dX3_fits_53 : decode cX3_fits 53 = .ok (.iload_n 3, 1) := by decide +kernel
theorem dX3_fits_54 : decode cX3_fits 54 = .ok (.aload_n 1, 1) := by decide +kernel
theorem dX3_fits_55 : decode cX3_fits 55 = .ok (.getfield 49, 3) := by decide +kernel
theorem dX3_fits_58 : decode cX3_fits 58 = .ok (.iload_n 3, 1) := by decide +kernel
theorem dX3_fits_59 : decode cX3_fits 59 = .ok (.caload, 1) := by decide +kernel
theorem dX3_fits_60 : decode cX3_fits 60 = .ok (.castore, 1) := by decide +kernel
theorem dX3_fits_61 : decode cX3_fits 61 = .ok (.iinc 3 1, 3) := by decide +kernel
theorem dX3_fits_64 : decode cX3_fits 64 = .ok (.goto (-23), 3) := by decide +kernel
theorem dX3_fits_67 : decode cX3_fits 67 = .ok (.iload_n 2, 1) := by decide +kernel
theorem dX3_fits_68 : decode cX3_fits 68 = .ok (.istore_n 3, 1) := by decide +kernel
theorem dX3_fits_69 : decode cX3_fits 69 = .ok (.iload_n 3, 1) := by decide +kernel
theorem dX3_fits_70 : decode cX3_fits 70 = .ok (.aload_n 0, 1) := by decide +kernel
theorem dX3_fits_71 : decode cX3_fits 71 = .ok (.getfield 48, 3) := by decide +kernel
theorem dX3_fits_74 : decode cX3_fits 74 = .ok (.if_icmp .gt 45, 3) := by decide +kernel
theorem dX3_fits_77 : decode cX3_fits 77 = .ok (.iconst 0, 1) := by decide +kernel
theorem dX3_fits_78 : decode cX3_fits 78 = .ok (.istore 4, 2) := by decide +kernel
theorem dX3_fits_80 : decode cX3_fits 80 = .ok (.iload 4, 2) := by decide +kernel
theorem dX3_fits_82 : decode cX3_fits 82 = .ok (.aload_n 0, 1) := by decide +kernel
theorem dX3_fits_83 : decode cX3_fits 83 = .ok (.getfield 25, 3) := by decide +kernel
theorem dX3_fits_86 : decode cX3_fits 86 = .ok (.getfield 50, 3) := by decide +kernel
theorem dX3_fits_89 : decode cX3_fits 89 = .ok (.if_icmp .ge 24, 3) := by decide +kernel
theorem dX3_fits_92 : decode cX3_fits 92 = .ok (.aload_n 0, 1) := by decide +kernel
theorem dX3_fits_93 : decode cX3_fits 93 = .ok (.aload_n 0, 1) := by decide +kernel
theorem dX3_fits_94 : decode cX3_fits 94 = .ok (.getfield 25, 3) := by decide +kernel
theorem dX3_fits_97 : decode cX3_fits 97 = .ok (.getfield 53, 3) := by decide +kernel
theorem dX3_fits_100 : decode cX3_fits 100 = .ok (.iload 4, 2) := by decide +kernel
theorem dX3_fits_102 : decode cX3_fits 102 = .ok (.iaload, 1) := by decide +kernel
theorem dX3_fits_103 : decode cX3_fits 103 = .ok (.iload_n 3, 1) := by decide +kernel
theorem dX3_fits_104 : decode cX3_fits 104 = .ok (.invokevirtual 56, 3) := by decide +kernel
theorem dX3_fits_107 : decode cX3_fits 107 = .ok (.iinc 4 1, 3) := by decide +kernel
theorem dX3_fits_110 : decode cX3_fits 110 = .ok (.goto (-30), 3) := by decide +kernel
theorem dX3_fits_113 : decode cX3_fits 113 = .ok (.iinc 3 1, 3) := by decide +kernel
theorem dX3_fits_116 : decode cX3_fits 116 = .ok (.goto (-47), 3) := by decide +kernel
theorem dX3_fits_119 : decode cX3_fits 119 = .ok (.aload_n 0, 1) := by decide +kernel
theorem dX3_fits_120 : decode cX3_fits 120 = .ok (.iconst 1, 1) := by decide +kernel
theorem dX3_fits_121 : decode cX3_fits 121 = .ok (.putfield 29, 3) := by decide +kernel
theorem dX3_fits_124 : decode cX3_fits 124 = .ok (.aload_n 0, 1) := by decide +kernel
theorem dX3_fits_125 : decode cX3_fits 125 = .ok (.getfield 25, 3) := by decide +kernel
theorem dX3_fits_128 : decode cX3_fits 128 = .ok (.getfield 60, 3) := by decide +kernel
theorem dX3_fits_131 : decode cX3_fits 131 = .ok (.aload_n 0, 1) := by decide +kernel
theorem dX3_fits_132 : decode cX3_fits 132 = .ok (.getfield 48, 3) := by decide +kernel
theorem dX3_fits_135 : decode cX3_fits 135 = .ok (.invokestatic 63, 3) := by decide +kernel
theorem dX3_fits_138 : decode cX3_fits 138 = .ok (.istore_n 3, 1) := by decide +kernel
theorem dX3_fits_139 : decode cX3_fits 139 = .ok (.aload_n 0, 1) := by decide +kernel
theorem dX3_fits_140 : decode cX3_fits 140 = .ok (.getfield 15, 3) := by decide +kernel
theorem dX3_fits_143 : decode cX3_fits 143 = .ok (.iload_n 3, 1) := by decide +kernel
theorem dX3_fits_144 : decode cX3_fits 144 = .ok (.iaload, 1) := by decide +kernel
theorem dX3_fits_145 : decode cX3_fits 145 = .ok (.ifCond .ne 18, 3) := by decide +kernel
theorem dX3_fits_148 : decode cX3_fits 148 = .ok (.aload_n 0, 1) := by decide +kernel
theorem dX3_fits_149 : decode cX3_fits 149 = .ok (.getfield 19, 3) := by decide +kernel
theorem dX3_fits_152 : decode cX3_fits 152 = .ok (.iload_n 3, 1) := by decide +kernel
theorem dX3_fits_153 : decode cX3_fits 153 = .ok (.iaload, 1) := by decide +kernel
theorem dX3_fits_154 : decode cX3_fits 154 = .ok (.bipush 60, 2) := by decide +kernel
theorem dX3_fits_156 : decode cX3_fits 156 = .ok (.if_icmp .ge 7, 3) := by decide +kernel
theorem dX3_fits_159 : decode cX3_fits 159 = .ok (.iconst 1, 1) := by decide +kernel
theorem dX3_fits_160 : decode cX3_fits 160 = .ok (.goto 4, 3) := by decide +kernel
theorem dX3_fits_163 : decode cX3_fits 163 = .ok (.iconst 0, 1) := by decide +kernel
theorem dX3_fits_164 : decode cX3_fits 164 = .ok (.ireturn, 1) := by decide +kernel
theorem dX3_alternativeOf_0 : decode cX3_alternativeOf 0 = .ok (.aload_n 0, 1) := by decide +kernel
theorem dX3_alternativeOf_1 : decode cX3_alternativeOf 1 = .ok (.getfield 22, 3) := by decide +kernel
theorem dX3_alternativeOf_4 : decode cX3_alternativeOf 4 = .ok (.iload_n 1, 1) := by decide +kernel
theorem dX3_alternativeOf_5 : decode cX3_alternativeOf 5 = .ok (.iload_n 2, 1) := by decide +kernel
theorem dX3_alternativeOf_6 : decode cX3_alternativeOf 6 = .ok (.invokestatic 63, 3) := by decide +kernel
theorem dX3_alternativeOf_9 : decode cX3_alternativeOf 9 = .ok (.iaload, 1) := by decide +kernel
theorem dX3_alternativeOf_10 : decode cX3_alternativeOf 10 = .ok (.ireturn, 1) := by decide +kernel
theorem dX3_more_0 : decode cX3_more 0 = .ok (.iload_n 2, 1) := by decide +kernel
theorem dX3_more_1 : decode cX3_more 1 = .ok (.ifCond .le 16, 3) := by decide +kernel
theorem dX3_more_4 : decode cX3_more 4 = .ok (.aload_n 0, 1) := by decide +kernel
theorem dX3_more_5 : decode cX3_more 5 = .ok (.getfield 25, 3) := by decide +kernel
theorem dX3_more_8 : decode cX3_more 8 = .ok (.iload_n 1, 1) := by decide +kernel
theorem dX3_more_9 : decode cX3_more 9 = .ok (.invokevirtual 67, 3) := by decide +kernel
theorem dX3_more_12 : decode cX3_more 12 = .ok (.ifCond .ne 5, 3) := by decide +kernel
theorem dX3_more_15 : decode cX3_more 15 = .ok (.iconst (-1), 1) := by decide +kernel
theorem dX3_more_16 : decode cX3_more 16 = .ok (.ireturn, 1) := by decide +kernel
theorem dX3_more_17 : decode cX3_more 17 = .ok (.aload_n 0, 1) := by decide +kernel
theorem dX3_more_18 : decode cX3_more 18 = .ok (.getfield 25, 3) := by decide +kernel
theorem dX3_more_21 : decode cX3_more 21 = .ok (.iload_n 1, 1) := by decide +kernel
theorem dX3_more_22 : decode cX3_more 22 = .ok (.invokevirtual 71, 3) := by decide +kernel
theorem dX3_more_25 : decode cX3_more 25 = .ok (.istore 4, 2) := by decide +kernel
theorem dX3_more_27 : decode cX3_more 27 = .ok (.iconst (-1), 1) := by decide +kernel
theorem dX3_more_28 : decode cX3_more 28 = .ok (.istore 5, 2) := by decide +kernel
theorem dX3_more_30 : decode cX3_more 30 = .ok (.iload 4, 2) := by decide +kernel
theorem dX3_more_32 : decode cX3_more 32 = .ok (.bipush 6, 2) := by decide +kernel
theorem dX3_more_34 : decode cX3_more 34 = .ok (.if_icmp .ge 19, 3) := by decide +kernel
theorem dX3_more_37 : decode cX3_more 37 = .ok (.aload_n 0, 1) := by decide +kernel
theorem dX3_more_38 : decode cX3_more 38 = .ok (.getfield 15, 3) := by decide +kernel
theorem dX3_more_41 : decode cX3_more 41 = .ok (.iload 4, 2) := by decide +kernel
theorem dX3_more_43 : decode cX3_more 43 = .ok (.iload_n 3, 1) := by decide +kernel
theorem dX3_more_44 : decode cX3_more 44 = .ok (.invokestatic 63, 3) := by decide +kernel
theorem dX3_more_47 : decode cX3_more 47 = .ok (.iaload, 1) := by decide +kernel
theorem dX3_more_48 : decode cX3_more 48 = .ok (.istore 5, 2) := by decide +kernel
theorem dX3_more_50 : decode cX3_more 50 = .ok (.goto 42, 3) := by decide +kernel
theorem dX3_more_53 : decode cX3_more 53 = .ok (.iload_n 3, 1) := by decide +kernel
theorem dX3_more_54 : decode cX3_more 54 = .ok (.ifCond .le 38, 3) := by decide +kernel
theorem dX3_more_57 : decode cX3_more 57 = .ok (.iload_n 3, 1) := by decide +kernel
theorem dX3_more_58 : decode cX3_more 58 = .ok (.aload_n 0, 1) := by decide +kernel
theorem dX3_more_59 : decode cX3_more 59 = .ok (.getfield 48, 3) := by decide +kernel
theorem dX3_more_62 : decode cX3_more 62 = .ok (.if_icmp .gt 30, 3) := by decide +kernel
theorem dX3_more_65 : decode cX3_more 65 = .ok (.aload_n 0, 1) := by decide +kernel
theorem dX3_more_66 : decode cX3_more 66 = .ok (.getfield 9, 3) := by decide +kernel
theorem dX3_more_69 : decode cX3_more 69 = .ok (.aload_n 0, 1) := by decide +kernel
theorem dX3_more_70 : decode cX3_more 70 = .ok (.getfield 48, 3) := by decide +kernel
theorem dX3_more_73 : decode cX3_more 73 = .ok (.iload_n 3, 1) := by decide +kernel
theorem dX3_more_74 : decode cX3_more 74 = .ok (.isub, 1) := by decide +kernel
theorem dX3_more_75 : decode cX3_more 75 = .ok (.caload, 1) := by decide +kernel
theorem dX3_more_76 : decode cX3_more 76 = .ok (.aload_n 0, 1) := by decide +kernel
theorem dX3_more_77 : decode cX3_more 77 = .ok (.getfield 25, 3) := by decide +kernel
theorem dX3_more_80 : decode cX3_more 80 = .ok (.iload_n 1, 1) := by decide +kernel
theorem dX3_more_81 : decode cX3_more 81 = .ok (.invokevirtual 75, 3) := by decide +kernel
theorem dX3_more_84 : decode cX3_more 84 = .ok (.if_icmp .ne 8, 3) := by decide +kernel
theorem dX3_more_87 : decode cX3_more 87 = .ok (.iload_n 3, 1) := by decide +kernel
theorem dX3_more_88 : decode cX3_more 88 = .ok (.iconst 1, 1) := by decide +kernel
theorem dX3_more_89 : decode cX3_more 89 = .ok (.isub, 1) := by decide +kernel
theorem dX3_more_90 : decode cX3_more 90 = .ok (.istore 5, 2) := by decide +kernel
theorem dX3_more_92 : decode cX3_more 92 = .ok (.iload_n 2, 1) := by decide +kernel
theorem dX3_more_93 : decode cX3_more 93 = .ok (.ifCond .gt 14, 3) := by decide +kernel
theorem dX3_more_96 : decode cX3_more 96 = .ok (.aload_n 0, 1) := by decide +kernel
theorem dX3_more_97 : decode cX3_more 97 = .ok (.getfield 25, 3) := by decide +kernel
theorem dX3_more_100 : decode cX3_more 100 = .ok (.iload_n 1, 1) := by decide +kernel
theorem dX3_more_101 : decode cX3_more 101 = .ok (.invokevirtual 79, 3) := by decide +kernel
theorem dX3_more_104 : decode cX3_more 104 = .ok (.ifCond .eq 7, 3) := by decide +kernel
theorem dX3_more_107 : decode cX3_more 107 = .ok (.iconst 1, 1) := by decide +kernel
theorem dX3_more_108 : decode cX3_more 108 = .ok (.goto 4, 3) := by decide +kernel
theorem dX3_more_111 : decode cX3_more 111 = .ok (.iconst 0, 1) := by decide +kernel
theorem dX3_more_112 : decode cX3_more 112 = .ok (.istore 6, 2) := by decide +kernel
theorem dX3_more_114 : decode cX3_more 114 = .ok (.iload 6, 2) := by decide +kernel
theorem dX3_more_116 : decode cX3_more 116 = .ok (.ifCond .eq 13, 3) := by decide +kernel
theorem dX3_more_119 : decode cX3_more 119 = .ok (.iload 5, 2) := by decide +kernel
theorem dX3_more_121 : decode cX3_more 121 = .ok (.iload_n 3, 1) := by decide +kernel
theorem dX3_more_122 : decode cX3_more 122 = .ok (.if_icmp .ne 7, 3) := by decide +kernel
theorem dX3_more_125 : decode cX3_more 125 = .ok (.iconst (-1), 1) := by decide +kernel
theorem dX3_more_126 : decode cX3_more 126 = .ok (.goto 5, 3) := by decide +kernel
theorem dX3_more_129 : decode cX3_more 129 = .ok (.iload 5, 2) := by decide +kernel
theorem dX3_more_131 : decode cX3_more 131 = .ok (.ireturn, 1) := by decide +kernel
theorem dX3_cellOf_0 : decode cX3_cellOf 0 = .ok (.iload_n 0, 1) := by decide +kernel
theorem dX3_cellOf_1 : decode cX3_cellOf 1 = .ok (.ifCond .lt 19, 3) := by decide +kernel
theorem dX3_cellOf_4 : decode cX3_cellOf 4 = .ok (.iload_n 0, 1) := by decide +kernel
theorem dX3_cellOf_5 : decode cX3_cellOf 5 = .ok (.bipush 6, 2) := by decide +kernel
theorem dX3_cellOf_7 : decode cX3_cellOf 7 = .ok (.if_icmp .ge 13, 3) := by decide +kernel
theorem dX3_cellOf_10 : decode cX3_cellOf 10 = .ok (.iload_n 1, 1) := by decide +kernel
theorem dX3_cellOf_11 : decode cX3_cellOf 11 = .ok (.ifCond .lt 9, 3) := by decide +kernel
theorem dX3_cellOf_14 : decode cX3_cellOf 14 = .ok (.iload_n 1, 1) := by decide +kernel
theorem dX3_cellOf_15 : decode cX3_cellOf 15 = .ok (.bipush 33, 2) := by decide +kernel
theorem dX3_cellOf_17 : decode cX3_cellOf 17 = .ok (.if_icmp .lt 7, 3) := by decide +kernel
theorem dX3_cellOf_20 : decode cX3_cellOf 20 = .ok (.iconst 0, 1) := by decide +kernel
theorem dX3_cellOf_21 : decode cX3_cellOf 21 = .ok (.goto 9, 3) := by decide +kernel
theorem dX3_cellOf_24 : decode cX3_cellOf 24 = .ok (.iload_n 0, 1) := by decide +kernel
theorem dX3_cellOf_25 : decode cX3_cellOf 25 = .ok (.bipush 33, 2) := by decide +kernel
theorem dX3_cellOf_27 : decode cX3_cellOf 27 = .ok (.imul, 1) := by decide +kernel
theorem dX3_cellOf_28 : decode cX3_cellOf 28 = .ok (.iload_n 1, 1) := by decide +kernel
theorem dX3_cellOf_29 : decode cX3_cellOf 29 = .ok (.iadd, 1) := by decide +kernel
theorem dX3_cellOf_30 : decode cX3_cellOf 30 = .ok (.ireturn, 1) := by decide +kernel
theorem dX3_sameAtEnd_0 : decode cX3_sameAtEnd 0 = .ok (.iconst 0, 1) := by decide +kernel
theorem dX3_sameAtEnd_1 : decode cX3_sameAtEnd 1 = .ok (.istore_n 2, 1) := by decide +kernel
theorem dX3_sameAtEnd_2 : decode cX3_sameAtEnd 2 = .ok (.iload_n 2, 1) := by decide +kernel
theorem dX3_sameAtEnd_3 : decode cX3_sameAtEnd 3 = .ok (.aload_n 0, 1) := by decide +kernel
theorem dX3_sameAtEnd_4 : decode cX3_sameAtEnd 4 = .ok (.getfield 48, 3) := by decide +kernel
theorem dX3_sameAtEnd_7 : decode cX3_sameAtEnd 7 = .ok (.if_icmp .ge 46, 3) := by decide +kernel
theorem dX3_sameAtEnd_10 : decode cX3_sameAtEnd 10 = .ok (.iload_n 2, 1) := by decide +kernel
theorem dX3_sameAtEnd_11 : decode cX3_sameAtEnd 11 = .ok (.aload_n 1, 1) := by decide +kernel
theorem dX3_sameAtEnd_12 : decode cX3_sameAtEnd 12 = .ok (.getfield 42, 3) := by decide +kernel
theorem dX3_sameAtEnd_15 : decode cX3_sameAtEnd 15 = .ok (.if_icmp .ge 38, 3) := by decide +kernel
theorem dX3_sameAtEnd_18 : decode cX3_sameAtEnd 18 = .ok (.aload_n 0, 1) := by decide +kernel
theorem dX3_sameAtEnd_19 : decode cX3_sameAtEnd 19 = .ok (.getfield 9, 3) := by decide +kernel
theorem dX3_sameAtEnd_22 : decode cX3_sameAtEnd 22 = .ok (.aload_n 0, 1) := by decide +kernel
theorem dX3_sameAtEnd_23 : decode cX3_sameAtEnd 23 = .ok (.getfield 48, 3) := by decide +kernel
theorem dX3_sameAtEnd_26 : decode cX3_sameAtEnd 26 = .ok (.iconst 1, 1) := by decide +kernel
theorem dX3_sameAtEnd_27 : decode cX3_sameAtEnd 27 = .ok (.isub, 1) := by decide +kernel
theorem dX3_sameAtEnd_28 : decode cX3_sameAtEnd 28 = .ok (.iload_n 2, 1) := by decide +kernel
theorem dX3_sameAtEnd_29 : decode cX3_sameAtEnd 29 = .ok (.isub, 1) := by decide +kernel
theorem dX3_sameAtEnd_30 : decode cX3_sameAtEnd 30 = .ok (.caload, 1) := by decide +kernel
theorem dX3_sameAtEnd_31 : decode cX3_sameAtEnd 31 = .ok (.aload_n 1, 1) := by decide +kernel
theorem dX3_sameAtEnd_32 : decode cX3_sameAtEnd 32 = .ok (.getfield 49, 3) := by decide +kernel
theorem dX3_sameAtEnd_35 : decode cX3_sameAtEnd 35 = .ok (.aload_n 1, 1) := by decide +kernel
theorem dX3_sameAtEnd_36 : decode cX3_sameAtEnd 36 = .ok (.getfield 42, 3) := by decide +kernel
theorem dX3_sameAtEnd_39 : decode cX3_sameAtEnd 39 = .ok (.iconst 1, 1) := by decide +kernel
theorem dX3_sameAtEnd_40 : decode cX3_sameAtEnd 40 = .ok (.isub, 1) := by decide +kernel
theorem dX3_sameAtEnd_41 : decode cX3_sameAtEnd 41 = .ok (.iload_n 2, 1) := by decide +kernel
theorem dX3_sameAtEnd_42 : decode cX3_sameAtEnd 42 = .ok (.isub, 1) := by decide +kernel
theorem dX3_sameAtEnd_43 : decode cX3_sameAtEnd 43 = .ok (.caload, 1) := by decide +kernel
theorem dX3_sameAtEnd_44 : decode cX3_sameAtEnd 44 = .ok (.if_icmp .ne 9, 3) := by decide +kernel
theorem dX3_sameAtEnd_47 : decode cX3_sameAtEnd 47 = .ok (.iinc 2 1, 3) := by decide +kernel
theorem dX3_sameAtEnd_50 : decode cX3_sameAtEnd 50 = .ok (.goto (-48), 3) := by decide +kernel
theorem dX3_sameAtEnd_53 : decode cX3_sameAtEnd 53 = .ok (.iload_n 2, 1) := by decide +kernel
theorem dX3_sameAtEnd_54 : decode cX3_sameAtEnd 54 = .ok (.ireturn, 1) := by decide +kernel
theorem dX3_settle_0 : decode cX3_settle 0 = .ok (.iload_n 1, 1) := by decide +kernel
theorem dX3_settle_1 : decode cX3_settle 1 = .ok (.iload_n 2, 1) := by decide +kernel
theorem dX3_settle_2 : decode cX3_settle 2 = .ok (.invokestatic 63, 3) := by decide +kernel
theorem dX3_settle_5 : decode cX3_settle 5 = .ok (.istore_n 3, 1) := by decide +kernel
theorem dX3_settle_6 : decode cX3_settle 6 = .ok (.aload_n 0, 1) := by decide +kernel
theorem dX3_settle_7 : decode cX3_settle 7 = .ok (.getfield 15, 3) := by decide +kernel
theorem dX3_settle_10 : decode cX3_settle 10 = .ok (.iload_n 3, 1) := by decide +kernel
theorem dX3_settle_11 : decode cX3_settle 11 = .ok (.iconst (-1), 1) := by decide +kernel
theorem dX3_settle_12 : decode cX3_settle 12 = .ok (.iastore, 1) := by decide +kernel
theorem dX3_settle_13 : decode cX3_settle 13 = .ok (.aload_n 0, 1) := by decide +kernel
theorem dX3_settle_14 : decode cX3_settle 14 = .ok (.getfield 25, 3) := by decide +kernel
theorem dX3_settle_17 : decode cX3_settle 17 = .ok (.iload_n 1, 1) := by decide +kernel
theorem dX3_settle_18 : decode cX3_settle 18 = .ok (.invokevirtual 82, 3) := by decide +kernel
theorem dX3_settle_21 : decode cX3_settle 21 = .ok (.istore 4, 2) := by decide +kernel
theorem dX3_settle_23 : decode cX3_settle 23 = .ok (.aload_n 0, 1) := by decide +kernel
theorem dX3_settle_24 : decode cX3_settle 24 = .ok (.getfield 15, 3) := by decide +kernel
theorem dX3_settle_27 : decode cX3_settle 27 = .ok (.iload_n 3, 1) := by decide +kernel
theorem dX3_settle_28 : decode cX3_settle 28 = .ok (.iaload, 1) := by decide +kernel
theorem dX3_settle_29 : decode cX3_settle 29 = .ok (.ifCond .ge 53, 3) := by decide +kernel
theorem dX3_settle_32 : decode cX3_settle 32 = .ok (.iload 4, 2) := by decide +kernel
theorem dX3_settle_34 : decode cX3_settle 34 = .ok (.aload_n 0, 1) := by decide +kernel
theorem dX3_settle_35 : decode cX3_settle 35 = .ok (.getfield 25, 3) := by decide +kernel
theorem dX3_settle_38 : decode cX3_settle 38 = .ok (.iload_n 1, 1) := by decide +kernel
theorem dX3_settle_39 : decode cX3_settle 39 = .ok (.invokevirtual 85, 3) := by decide +kernel
theorem dX3_settle_42 : decode cX3_settle 42 = .ok (.if_icmp .ge 40, 3) := by decide +kernel
theorem dX3_settle_45 : decode cX3_settle 45 = .ok (.aload_n 0, 1) := by decide +kernel
theorem dX3_settle_46 : decode cX3_settle 46 = .ok (.getfield 15, 3) := by decide +kernel
theorem dX3_settle_49 : decode cX3_settle 49 = .ok (.iload_n 3, 1) := by decide +kernel
theorem dX3_settle_50 : decode cX3_settle 50 = .ok (.aload_n 0, 1) := by decide +kernel
theorem dX3_settle_51 : decode cX3_settle 51 = .ok (.iload 4, 2) := by decide +kernel
theorem dX3_settle_53 : decode cX3_settle 53 = .ok (.iload_n 2, 1) := by decide +kernel
theorem dX3_settle_54 : decode cX3_settle 54 = .ok (.invokevirtual 88, 3) := by decide +kernel
theorem dX3_settle_57 : decode cX3_settle 57 = .ok (.iastore, 1) := by decide +kernel
theorem dX3_settle_58 : decode cX3_settle 58 = .ok (.aload_n 0, 1) := by decide +kernel
theorem dX3_settle_59 : decode cX3_settle 59 = .ok (.getfield 19, 3) := by decide +kernel
theorem dX3_settle_62 : decode cX3_settle 62 = .ok (.iload_n 3, 1) := by decide +kernel
theorem dX3_settle_63 : decode cX3_settle 63 = .ok (.aload_n 0, 1) := by decide +kernel
theorem dX3_settle_64 : decode cX3_settle 64 = .ok (.getfield 91, 3) := by decide +kernel
theorem dX3_settle_67 : decode cX3_settle 67 = .ok (.iastore, 1) := by decide +kernel
theorem dX3_settle_68 : decode cX3_settle 68 = .ok (.aload_n 0, 1) := by decide +kernel
theorem dX3_settle_69 : decode cX3_settle 69 = .ok (.getfield 22, 3) := by decide +kernel
theorem dX3_settle_72 : decode cX3_settle 72 = .ok (.iload_n 3, 1) := by decide +kernel
theorem dX3_settle_73 : decode cX3_settle 73 = .ok (.iload 4, 2) := by decide +kernel
theorem dX3_settle_75 : decode cX3_settle 75 = .ok (.iastore, 1) := by decide +kernel
theorem dX3_settle_76 : decode cX3_settle 76 = .ok (.iinc 4 1, 3) := by decide +kernel
theorem dX3_settle_79 : decode cX3_settle 79 = .ok (.goto (-56), 3) := by decide +kernel
theorem dX3_settle_82 : decode cX3_settle 82 = .ok (.return_, 1) := by decide +kernel
theorem dX3_behind_0 : decode cX3_behind 0 = .ok (.aload_n 0, 1) := by decide +kernel
theorem dX3_behind_1 : decode cX3_behind 1 = .ok (.iconst 0, 1) := by decide +kernel
theorem dX3_behind_2 : decode cX3_behind 2 = .ok (.putfield 91, 3) := by decide +kernel
theorem dX3_behind_5 : decode cX3_behind 5 = .ok (.iload_n 2, 1) := by decide +kernel
theorem dX3_behind_6 : decode cX3_behind 6 = .ok (.istore_n 3, 1) := by decide +kernel
theorem dX3_behind_7 : decode cX3_behind 7 = .ok (.aload_n 0, 1) := by decide +kernel
theorem dX3_behind_8 : decode cX3_behind 8 = .ok (.getfield 25, 3) := by decide +kernel
theorem dX3_behind_11 : decode cX3_behind 11 = .ok (.iload_n 1, 1) := by decide +kernel
theorem dX3_behind_12 : decode cX3_behind 12 = .ok (.invokevirtual 94, 3) := by decide +kernel
theorem dX3_behind_15 : decode cX3_behind 15 = .ok (.istore 4, 2) := by decide +kernel
theorem dX3_behind_17 : decode cX3_behind 17 = .ok (.iload 4, 2) := by decide +kernel
theorem dX3_behind_19 : decode cX3_behind 19 = .ok (.aload_n 0, 1) := by decide +kernel
theorem dX3_behind_20 : decode cX3_behind 20 = .ok (.getfield 25, 3) := by decide +kernel
theorem dX3_behind_23 : decode cX3_behind 23 = .ok (.iload_n 1, 1) := by decide +kernel
theorem dX3_behind_24 : decode cX3_behind 24 = .ok (.invokevirtual 97, 3) := by decide +kernel
theorem dX3_behind_27 : decode cX3_behind 27 = .ok (.if_icmp .ge 94, 3) := by decide +kernel
theorem dX3_behind_30 : decode cX3_behind 30 = .ok (.aload_n 0, 1) := by decide +kernel
theorem dX3_behind_31 : decode cX3_behind 31 = .ok (.iload 4, 2) := by decide +kernel
theorem dX3_behind_33 : decode cX3_behind 33 = .ok (.iconst 0, 1) := by decide +kernel
theorem dX3_behind_34 : decode cX3_behind 34 = .ok (.iload_n 3, 1) := by decide +kernel
theorem dX3_behind_35 : decode cX3_behind 35 = .ok (.invokevirtual 100, 3) := by decide +kernel
theorem dX3_behind_38 : decode cX3_behind 38 = .ok (.istore 5, 2) := by decide +kernel
theorem dX3_behind_40 : decode cX3_behind 40 = .ok (.iload 5, 2) := by decide +kernel
theorem dX3_behind_42 : decode cX3_behind 42 = .ok (.ifCond .ge 17, 3) := by decide +kernel
theorem dX3_behind_45 : decode cX3_behind 45 = .ok (.aload_n 0, 1) := by decide +kernel
theorem dX3_behind_46 : decode cX3_behind 46 = .ok (.getfield 25, 3) := by decide +kernel
theorem dX3_behind_49 : decode cX3_behind 49 = .ok (.iload 4, 2) := by decide +kernel
theorem dX3_behind_51 : decode cX3_behind 51 = .ok (.invokevirtual 104, 3) := by decide +kernel
theorem dX3_behind_54 : decode cX3_behind 54 = .ok (.ifCond .ne 5, 3) := by decide +kernel
theorem dX3_behind_57 : decode cX3_behind 57 = .ok (.iconst (-1), 1) := by decide +kernel
theorem dX3_behind_58 : decode cX3_behind 58 = .ok (.ireturn, 1) := by decide +kernel
theorem dX3_behind_59 : decode cX3_behind 59 = .ok (.iconst 1, 1) := by decide +kernel
theorem dX3_behind_60 : decode cX3_behind 60 = .ok (.istore 6, 2) := by decide +kernel
theorem dX3_behind_62 : decode cX3_behind 62 = .ok (.iload 5, 2) := by decide +kernel
theorem dX3_behind_64 : decode cX3_behind 64 = .ok (.ifCond .lt 51, 3) := by decide +kernel
theorem dX3_behind_67 : decode cX3_behind 67 = .ok (.iload 6, 2) := by decide +kernel
theorem dX3_behind_69 : decode cX3_behind 69 = .ok (.bipush 33, 2) := by decide +kernel
theorem dX3_behind_71 : decode cX3_behind 71 = .ok (.if_icmp .gt 44, 3) := by decide +kernel
theorem dX3_behind_74 : decode cX3_behind 74 = .ok (.aload_n 0, 1) := by decide +kernel
theorem dX3_behind_75 : decode cX3_behind 75 = .ok (.bipush 60, 2) := by decide +kernel
theorem dX3_behind_77 : decode cX3_behind 77 = .ok (.aload_n 0, 1) := by decide +kernel
theorem dX3_behind_78 : decode cX3_behind 78 = .ok (.getfield 91, 3) := by decide +kernel
theorem dX3_behind_81 : decode cX3_behind 81 = .ok (.aload_n 0, 1) := by decide +kernel
theorem dX3_behind_82 : decode cX3_behind 82 = .ok (.iload 4, 2) := by decide +kernel
theorem dX3_behind_84 : decode cX3_behind 84 = .ok (.iload_n 3, 1) := by decide +kernel
theorem dX3_behind_85 : decode cX3_behind 85 = .ok (.invokevirtual 107, 3) := by decide +kernel
theorem dX3_behind_88 : decode cX3_behind 88 = .ok (.iadd, 1) := by decide +kernel
theorem dX3_behind_89 : decode cX3_behind 89 = .ok (.invokestatic 110, 3) := by decide +kernel
theorem dX3_behind_92 : decode cX3_behind 92 = .ok (.putfield 91, 3) := by decide +kernel
theorem dX3_behind_95 : decode cX3_behind 95 = .ok (.iload 5, 2) := by decide +kernel
theorem dX3_behind_97 : decode cX3_behind 97 = .ok (.istore_n 3, 1) := by decide +kernel
theorem dX3_behind_98 : decode cX3_behind 98 = .ok (.aload_n 0, 1) := by decide +kernel
theorem dX3_behind_99 : decode cX3_behind 99 = .ok (.iload 4, 2) := by decide +kernel
theorem dX3_behind_101 : decode cX3_behind 101 = .ok (.iload 6, 2) := by decide +kernel
theorem dX3_behind_103 : decode cX3_behind 103 = .ok (.iload_n 3, 1) := by decide +kernel
theorem dX3_behind_104 : decode cX3_behind 104 = .ok (.invokevirtual 100, 3) := by decide +kernel
theorem dX3_behind_107 : decode cX3_behind 107 = .ok (.istore 5, 2) := by decide +kernel
theorem dX3_behind_109 : decode cX3_behind 109 = .ok (.iinc 6 1, 3) := by decide +kernel
theorem dX3_behind_112 : decode cX3_behind 112 = .ok (.goto (-50), 3) := by decide +kernel
theorem dX3_behind_115 : decode cX3_behind 115 = .ok (.iinc 4 1, 3) := by decide +kernel
theorem dX3_behind_118 : decode cX3_behind 118 = .ok (.goto (-101), 3) := by decide +kernel
theorem dX3_behind_121 : decode cX3_behind 121 = .ok (.iload_n 3, 1) := by decide +kernel
theorem dX3_behind_122 : decode cX3_behind 122 = .ok (.ireturn, 1) := by decide +kernel
theorem dX3_nodesOf_0 : decode cX3_nodesOf 0 = .ok (.aload_n 0, 1) := by decide +kernel
theorem dX3_nodesOf_1 : decode cX3_nodesOf 1 = .ok (.getfield 25, 3) := by decide +kernel
theorem dX3_nodesOf_4 : decode cX3_nodesOf 4 = .ok (.iload_n 1, 1) := by decide +kernel
theorem dX3_nodesOf_5 : decode cX3_nodesOf 5 = .ok (.invokevirtual 71, 3) := by decide +kernel
theorem dX3_nodesOf_8 : decode cX3_nodesOf 8 = .ok (.istore_n 3, 1) := by decide +kernel
theorem dX3_nodesOf_9 : decode cX3_nodesOf 9 = .ok (.iload_n 3, 1) := by decide +kernel
theorem dX3_nodesOf_10 : decode cX3_nodesOf 10 = .ok (.bipush 6, 2) := by decide +kernel
theorem dX3_nodesOf_12 : decode cX3_nodesOf 12 = .ok (.if_icmp .ge 16, 3) := by decide +kernel
theorem dX3_nodesOf_15 : decode cX3_nodesOf 15 = .ok (.iconst 1, 1) := by decide +kernel
theorem dX3_nodesOf_16 : decode cX3_nodesOf 16 = .ok (.aload_n 0, 1) := by decide +kernel
theorem dX3_nodesOf_17 : decode cX3_nodesOf 17 = .ok (.getfield 19, 3) := by decide +kernel
theorem dX3_nodesOf_20 : decode cX3_nodesOf 20 = .ok (.iload_n 3, 1) := by decide +kernel
theorem dX3_nodesOf_21 : decode cX3_nodesOf 21 = .ok (.iload_n 2, 1) := by decide +kernel
theorem dX3_nodesOf_22 : decode cX3_nodesOf 22 = .ok (.invokestatic 63, 3) := by decide +kernel
theorem dX3_nodesOf_25 : decode cX3_nodesOf 25 = .ok (.iaload, 1) := by decide +kernel
theorem dX3_nodesOf_26 : decode cX3_nodesOf 26 = .ok (.iadd, 1) := by decide +kernel
theorem dX3_nodesOf_27 : decode cX3_nodesOf 27 = .ok (.ireturn, 1) := by decide +kernel
theorem dX3_nodesOf_28 : decode cX3_nodesOf 28 = .ok (.aload_n 0, 1) := by decide +kernel
theorem dX3_nodesOf_29 : decode cX3_nodesOf 29 = .ok (.getfield 25, 3) := by decide +kernel
theorem dX3_nodesOf_32 : decode cX3_nodesOf 32 = .ok (.iload_n 1, 1) := by decide +kernel
theorem dX3_nodesOf_33 : decode cX3_nodesOf 33 = .ok (.invokevirtual 115, 3) := by decide +kernel
theorem dX3_nodesOf_36 : decode cX3_nodesOf 36 = .ok (.ifCond .eq 7, 3) := by decide +kernel
theorem dX3_nodesOf_39 : decode cX3_nodesOf 39 = .ok (.iconst 1, 1) := by decide +kernel
theorem dX3_nodesOf_40 : decode cX3_nodesOf 40 = .ok (.goto 4, 3) := by decide +kernel
theorem dX3_nodesOf_43 : decode cX3_nodesOf 43 = .ok (.iconst 0, 1) := by decide +kernel
theorem dX3_nodesOf_44 : decode cX3_nodesOf 44 = .ok (.ireturn, 1) := by decide +kernel
theorem dX4_init_0 : decode cX4_init 0 = .ok (.aload_n 0, 1) := by decide +kernel
theorem dX4_init_1 : decode cX4_init 1 = .ok (.invokespecial 3, 3) := by decide +kernel
theorem dX4_init_4 : decode cX4_init 4 = .ok (.aload_n 0, 1) := by decide +kernel
theorem dX4_init_5 : decode cX4_init 5 = .ok (.new 9, 3) := by decide +kernel
theorem dX4_init_8 : decode cX4_init 8 = .ok (.dup, 1) := by decide +kernel
theorem dX4_init_9 : decode cX4_init 9 = .ok (.invokespecial 11, 3) := by decide +kernel
theorem dX4_init_12 : decode cX4_init 12 = .ok (.putfield 12, 3) := by decide +kernel
theorem dX4_init_15 : decode cX4_init 15 = .ok (.aload_n 0, 1) := by decide +kernel
theorem dX4_init_16 : decode cX4_init 16 = .ok (.bipush 60, 2) := by decide +kernel
theorem dX4_init_18 : decode cX4_init 18 = .ok (.newarray .boolean, 2) := by decide +kernel
theorem dX4_init_20 : decode cX4_init 20 = .ok (.putfield 18, 3) := by decide +kernel
theorem dX4_init_23 : decode cX4_init 23 = .ok (.aload_n 0, 1) := by decide +kernel
theorem dX4_init_24 : decode cX4_init 24 = .ok (.aload_n 1, 1) := by decide +kernel
theorem dX4_init_25 : decode cX4_init 25 = .ok (.putfield 22, 3) := by decide +kernel
theorem dX4_init_28 : decode cX4_init 28 = .ok (.aload_n 0, 1) := by decide +kernel
theorem dX4_init_29 : decode cX4_init 29 = .ok (.aload_n 2, 1) := by decide +kernel
theorem dX4_init_30 : decode cX4_init 30 = .ok (.putfield 25, 3) := by decide +kernel
theorem dX4_init_33 : decode cX4_init 33 = .ok (.aload_n 0, 1) := by decide +kernel
theorem dX4_init_34 : decode cX4_init 34 = .ok (.aload_n 3, 1) := by decide +kernel
theorem dX4_init_35 : decode cX4_init 35 = .ok (.putfield 29, 3) := by decide +kernel
theorem dX4_init_38 : decode cX4_init 38 = .ok (.aload_n 0, 1) := by decide +kernel
theorem dX4_init_39 : decode cX4_init 39 = .ok (.aload 4, 2) := by decide +kernel
theorem dX4_init_41 : decode cX4_init 41 = .ok (.putfield 33, 3) := by decide +kernel
theorem dX4_init_44 : decode cX4_init 44 = .ok (.aload_n 0, 1) := by decide +kernel
theorem dX4_init_45 : decode cX4_init 45 = .ok (.new 37, 3) := by decide +kernel
theorem dX4_init_48 : decode cX4_init 48 = .ok (.dup, 1) := by decide +kernel
theorem dX4_init_49 : decode cX4_init 49 = .ok (.aload_n 1, 1) := by decide +kernel
theorem dX4_init_50 : decode cX4_init 50 = .ok (.aload_n 2, 1) := by decide +kernel
theorem dX4_init_51 : decode cX4_init 51 = .ok (.invokespecial 39, 3) := by decide +kernel
theorem dX4_init_54 : decode cX4_init 54 = .ok (.putfield 42, 3) := by decide +kernel
theorem dX4_init_57 : decode cX4_init 57 = .ok (.return_, 1) := by decide +kernel
theorem dX4_bySigns_0 : decode cX4_bySigns 0 = .ok (.aload_n 0, 1) := by decide +kernel
theorem dX4_bySigns_1 : decode cX4_bySigns 1 = .ok (.getfield 42, 3) := by decide +kernel
theorem dX4_bySigns_4 : decode cX4_bySigns 4 = .ok (.invokevirtual 46, 3) := by decide +kernel
theorem dX4_bySigns_7 : decode cX4_bySigns 7 = .ok (.iconst 0, 1) := by decide +kernel
theorem dX4_bySigns_8 : decode cX4_bySigns 8 = .ok (.istore_n 2, 1) := by decide +kernel
theorem dX4_bySigns_9 : decode cX4_bySigns 9 = .ok (.iconst 1, 1) := by decide +kernel
theorem dX4_bySigns_10 : decode cX4_bySigns 10 = .ok (.istore_n 3, 1) := by decide +kernel
theorem dX4_bySigns_11 : decode cX4_bySigns 11 = .ok (.iload_n 3, 1) := by decide +kernel
theorem dX4_bySigns_12 : decode cX4_bySigns 12 = .ok (.aload_n 0, 1) := by decide +kernel
theorem dX4_bySigns_13 : decode cX4_bySigns 13 = .ok (.getfield 22, 3) := by decide +kernel
theorem dX4_bySigns_16 : decode cX4_bySigns 16 = .ok (.getfield 49, 3) := by decide +kernel
theorem dX4_bySigns_19 : decode cX4_bySigns 19 = .ok (.if_icmp .gt 44, 3) := by decide +kernel
theorem dX4_bySigns_22 : decode cX4_bySigns 22 = .ok (.iload_n 1, 1) := by decide +kernel
theorem dX4_bySigns_23 : decode cX4_bySigns 23 = .ok (.ifCond .eq 22, 3) := by decide +kernel
theorem dX4_bySigns_26 : decode cX4_bySigns 26 = .ok (.iload_n 3, 1) := by decide +kernel
theorem dX4_bySigns_27 : decode cX4_bySigns 27 = .ok (.aload_n 0, 1) := by decide +kernel
theorem dX4_bySigns_28 : decode cX4_bySigns 28 = .ok (.getfield 22, 3) := by decide +kernel
theorem dX4_bySigns_31 : decode cX4_bySigns 31 = .ok (.getfield 49, 3) := by decide +kernel
theorem dX4_bySigns_34 : decode cX4_bySigns 34 = .ok (.if_icmp .eq 11, 3) := by decide +kernel
theorem dX4_bySigns_37 : decode cX4_bySigns 37 = .ok (.aload_n 0, 1) := by decide +kernel
theorem dX4_bySigns_38 : decode cX4_bySigns 38 = .ok (.iload_n 3, 1) := by decide +kernel
theorem dX4_bySigns_39 : decode cX4_bySigns 39 = .ok (.invokevirtual 53, 3) := by decide +kernel
theorem dX4_bySigns_42 : decode cX4_bySigns 42 = .ok (.ifCond .eq 15, 3) := by decide +kernel
theorem dX4_bySigns_45 : decode cX4_bySigns 45 = .ok (.aload_n 0, 1) := by decide +kernel
theorem dX4_bySigns_46 : decode cX4_bySigns 46 = .ok (.getfield 42, 3) := by decide +kernel
theorem dX4_bySigns_49 : decode cX4_bySigns 49 = .ok (.iload_n 2, 1) := by decide +kernel
theorem dX4_bySigns_50 : decode cX4_bySigns 50 = .ok (.iload_n 3, 1) := by decide +kernel
theorem dX4_bySigns_51 : decode cX4_bySigns 51 = .ok (.iconst 0, 1) := by decide +kernel
theorem dX4_bySigns_52 : decode cX4_bySigns 52 = .ok (.invokevirtual 57, 3) := by decide +kernel
theorem dX4_bySigns_55 : decode cX4_bySigns 55 = .ok (.iload_n 3, 1) := by decide +kernel
theorem dX4_bySigns_56 : decode cX4_bySigns 56 = .ok (.istore_n 2, 1) := by decide +kernel
theorem dX4_bySigns_57 : decode cX4_bySigns 57 = .ok (.iinc 3 1, 3) := by decide +kernel
theorem dX4_bySigns_60 : decode cX4_bySigns 60 = .ok (.goto (-49), 3) := by decide +kernel
theorem dX4_bySigns_63 : decode cX4_bySigns 63 = .ok (.aload_n 0, 1) := by decide +kernel
theorem dX4_bySigns_64 : decode cX4_bySigns 64 = .ok (.getfield 42, 3) := by decide +kernel
theorem dX4_bySigns_67 : decode cX4_bySigns 67 = .ok (.invokevirtual 61, 3) := by decide +kernel
theorem dX4_bySigns_70 : decode cX4_bySigns 70 = .ok (.return_, 1) := by decide +kernel
theorem dX4_byLevels_0 : decode cX4_byLevels 0 = .ok (.aload_n 0, 1) := by decide +kernel
theorem dX4_byLevels_1 : decode cX4_byLevels 1 = .ok (.getfield 33, 3) := by decide +kernel
theorem dX4_byLevels_4 : decode cX4_byLevels 4 = .ok (.aload_n 0, 1) := by decide +kernel
theorem dX4_byLevels_5 : decode cX4_byLevels 5 = .ok (.getfield 22, 3) := by decide +kernel
theorem dX4_byLevels_8 : decode cX4_byLevels 8 = .ok (.invokevirtual 64, 3) := by decide +kernel
theorem dX4_byLevels_11 : decode cX4_byLevels 11 = .ok (.istore_n 2, 1) := by decide +kernel
theorem dX4_byLevels_12 : decode cX4_byLevels 12 = .ok (.iconst 0, 1) := by decide +kernel
theorem dX4_byLevels_13 : decode cX4_byLevels 13 = .ok (.istore_n 3, 1) := by decide +kernel
