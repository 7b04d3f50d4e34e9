theorem dX9_write_20 : decode cX9_write 20 = .ok (.iload_n 1, 1) := by decide +kernel
theorem dX9_write_21 : decode cX9_write 21 = .ok (.bipush 47, 2) := by decide +kernel
theorem dX9_write_23 : decode cX9_write 23 = .ok (.if_icmp .eq 27, 3) := by decide +kernel
theorem dX9_write_26 : decode cX9_write 26 = .ok (.iload_n 1, 1) := by decide +kernel
theorem dX9_write_27 : decode cX9_write 27 = .ok (.bipush 59, 2) := by decide +kernel
theorem dX9_write_29 : decode cX9_write 29 = .ok (.if_icmp .eq 21, 3) := by decide +kernel
theorem dX9_write_32 : decode cX9_write 32 = .ok (.iload_n 1, 1) := by decide +kernel
theorem dX9_write_33 : decode cX9_write 33 = .ok (.bipush 63, 2) := by decide +kernel
theorem dX9_write_35 : decode cX9_write 35 = .ok (.if_icmp .eq 15, 3) := by decide +kernel
theorem dX9_write_38 : decode cX9_write 38 = .ok (.iload_n 1, 1) := by decide +kernel
theorem dX9_write_39 : decode cX9_write 39 = .ok (.bipush 42, 2) := by decide +kernel
theorem dX9_write_41 : decode cX9_write 41 = .ok (.if_icmp .eq 9, 3) := by decide +kernel
theorem dX9_write_44 : decode cX9_write 44 = .ok (.iload_n 1, 1) := by decide +kernel
theorem dX9_write_45 : decode cX9_write 45 = .ok (.bipush 43, 2) := by decide +kernel
theorem dX9_write_47 : decode cX9_write 47 = .ok (.if_icmp .ne 7, 3) := by decide +kernel
theorem dX9_write_50 : decode cX9_write 50 = .ok (.iconst 1, 1) := by decide +kernel
theorem dX9_write_51 : decode cX9_write 51 = .ok (.goto 4, 3) := by decide +kernel
theorem dX9_write_54 : decode cX9_write 54 = .ok (.iconst 0, 1) := by decide +kernel
theorem dX9_write_55 : decode cX9_write 55 = .ok (.istore_n 2, 1) := by decide +kernel
theorem dX9_write_56 : decode cX9_write 56 = .ok (.iload_n 2, 1) := by decide +kernel
theorem dX9_write_57 : decode cX9_write 57 = .ok (.ifCond .eq 12, 3) := by decide +kernel
theorem dX9_write_60 : decode cX9_write 60 = .ok (.aload_n 0, 1) := by decide +kernel
theorem dX9_write_61 : decode cX9_write 61 = .ok (.getfield 152, 3) := by decide +kernel
theorem dX9_write_64 : decode cX9_write 64 = .ok (.bipush 60, 2) := by decide +kernel
theorem dX9_write_66 : decode cX9_write 66 = .ok (.if_icmp .ne 5, 3) := by decide +kernel
theorem dX9_write_69 : decode cX9_write 69 = .ok (.iconst 0, 1) := by decide +kernel
theorem dX9_write_70 : decode cX9_write 70 = .ok (.ireturn, 1) := by decide +kernel
theorem dX9_write_71 : decode cX9_write 71 = .ok (.aload_n 0, 1) := by decide +kernel
theorem dX9_write_72 : decode cX9_write 72 = .ok (.getfield 13, 3) := by decide +kernel
theorem dX9_write_75 : decode cX9_write 75 = .ok (.aload_n 0, 1) := by decide +kernel
theorem dX9_write_76 : decode cX9_write 76 = .ok (.getfield 152, 3) := by decide +kernel
theorem dX9_write_79 : decode cX9_write 79 = .ok (.iload_n 1, 1) := by decide +kernel
theorem dX9_write_80 : decode cX9_write 80 = .ok (.iastore, 1) := by decide +kernel
theorem dX9_write_81 : decode cX9_write 81 = .ok (.aload_n 0, 1) := by decide +kernel
theorem dX9_write_82 : decode cX9_write 82 = .ok (.dup, 1) := by decide +kernel
theorem dX9_write_83 : decode cX9_write 83 = .ok (.getfield 152, 3) := by decide +kernel
theorem dX9_write_86 : decode cX9_write 86 = .ok (.iconst 1, 1) := by decide +kernel
theorem dX9_write_87 : decode cX9_write 87 = .ok (.iadd, 1) := by decide +kernel
theorem dX9_write_88 : decode cX9_write 88 = .ok (.putfield 152, 3) := by decide +kernel
theorem dX9_write_91 : decode cX9_write 91 = .ok (.iconst 1, 1) := by decide +kernel
theorem dX9_write_92 : decode cX9_write 92 = .ok (.ireturn, 1) := by decide +kernel
theorem dX9_push_0 : decode cX9_push 0 = .ok (.aload_n 0, 1) := by decide +kernel
theorem dX9_push_1 : decode cX9_push 1 = .ok (.getfield 22, 3) := by decide +kernel
theorem dX9_push_4 : decode cX9_push 4 = .ok (.bipush 64, 2) := by decide +kernel
theorem dX9_push_6 : decode cX9_push 6 = .ok (.aload_n 0, 1) := by decide +kernel
theorem dX9_push_7 : decode cX9_push 7 = .ok (.getfield 155, 3) := by decide +kernel
theorem dX9_push_10 : decode cX9_push 10 = .ok (.imul, 1) := by decide +kernel
theorem dX9_push_11 : decode cX9_push 11 = .ok (.iload_n 1, 1) := by decide +kernel
theorem dX9_push_12 : decode cX9_push 12 = .ok (.iastore, 1) := by decide +kernel
theorem dX9_push_13 : decode cX9_push 13 = .ok (.aload_n 0, 1) := by decide +kernel
theorem dX9_push_14 : decode cX9_push 14 = .ok (.getfield 25, 3) := by decide +kernel
theorem dX9_push_17 : decode cX9_push 17 = .ok (.bipush 64, 2) := by decide +kernel
theorem dX9_push_19 : decode cX9_push 19 = .ok (.aload_n 0, 1) := by decide +kernel
theorem dX9_push_20 : decode cX9_push 20 = .ok (.getfield 155, 3) := by decide +kernel
theorem dX9_push_23 : decode cX9_push 23 = .ok (.imul, 1) := by decide +kernel
theorem dX9_push_24 : decode cX9_push 24 = .ok (.iload_n 2, 1) := by decide +kernel
theorem dX9_push_25 : decode cX9_push 25 = .ok (.iastore, 1) := by decide +kernel
theorem dX9_push_26 : decode cX9_push 26 = .ok (.aload_n 0, 1) := by decide +kernel
theorem dX9_push_27 : decode cX9_push 27 = .ok (.getfield 28, 3) := by decide +kernel
theorem dX9_push_30 : decode cX9_push 30 = .ok (.bipush 64, 2) := by decide +kernel
theorem dX9_push_32 : decode cX9_push 32 = .ok (.aload_n 0, 1) := by decide +kernel
theorem dX9_push_33 : decode cX9_push 33 = .ok (.getfield 155, 3) := by decide +kernel
theorem dX9_push_36 : decode cX9_push 36 = .ok (.imul, 1) := by decide +kernel
theorem dX9_push_37 : decode cX9_push 37 = .ok (.iload_n 3, 1) := by decide +kernel
theorem dX9_push_38 : decode cX9_push 38 = .ok (.iastore, 1) := by decide +kernel
theorem dX9_push_39 : decode cX9_push 39 = .ok (.aload_n 0, 1) := by decide +kernel
theorem dX9_push_40 : decode cX9_push 40 = .ok (.getfield 16, 3) := by decide +kernel
theorem dX9_push_43 : decode cX9_push 43 = .ok (.aload_n 0, 1) := by decide +kernel
theorem dX9_push_44 : decode cX9_push 44 = .ok (.getfield 155, 3) := by decide +kernel
theorem dX9_push_47 : decode cX9_push 47 = .ok (.iconst 1, 1) := by decide +kernel
theorem dX9_push_48 : decode cX9_push 48 = .ok (.iastore, 1) := by decide +kernel
theorem dX9_push_49 : decode cX9_push 49 = .ok (.aload_n 0, 1) := by decide +kernel
theorem dX9_push_50 : decode cX9_push 50 = .ok (.getfield 19, 3) := by decide +kernel
theorem dX9_push_53 : decode cX9_push 53 = .ok (.aload_n 0, 1) := by decide +kernel
theorem dX9_push_54 : decode cX9_push 54 = .ok (.getfield 155, 3) := by decide +kernel
theorem dX9_push_57 : decode cX9_push 57 = .ok (.iconst 1, 1) := by decide +kernel
theorem dX9_push_58 : decode cX9_push 58 = .ok (.iastore, 1) := by decide +kernel
theorem dX9_push_59 : decode cX9_push 59 = .ok (.aload_n 0, 1) := by decide +kernel
theorem dX9_push_60 : decode cX9_push 60 = .ok (.dup, 1) := by decide +kernel
theorem dX9_push_61 : decode cX9_push 61 = .ok (.getfield 155, 3) := by decide +kernel
theorem dX9_push_64 : decode cX9_push 64 = .ok (.iconst 1, 1) := by decide +kernel
theorem dX9_push_65 : decode cX9_push 65 = .ok (.iadd, 1) := by decide +kernel
theorem dX9_push_66 : decode cX9_push 66 = .ok (.putfield 155, 3) := by decide +kernel
theorem dX9_push_69 : decode cX9_push 69 = .ok (.return_, 1) := by decide +kernel
theorem dX9_has_0 : decode cX9_has 0 = .ok (.iload_n 1, 1) := by decide +kernel
theorem dX9_has_1 : decode cX9_has 1 = .ok (.invokestatic 141, 3) := by decide +kernel
theorem dX9_has_4 : decode cX9_has 4 = .ok (.ifCond .eq 23, 3) := by decide +kernel
theorem dX9_has_7 : decode cX9_has 7 = .ok (.iload_n 2, 1) := by decide +kernel
theorem dX9_has_8 : decode cX9_has 8 = .ok (.iconst 1, 1) := by decide +kernel
theorem dX9_has_9 : decode cX9_has 9 = .ok (.if_icmp .lt 18, 3) := by decide +kernel
theorem dX9_has_12 : decode cX9_has 12 = .ok (.iload_n 2, 1) := by decide +kernel
theorem dX9_has_13 : decode cX9_has 13 = .ok (.bipush 9, 2) := by decide +kernel
theorem dX9_has_15 : decode cX9_has 15 = .ok (.if_icmp .gt 12, 3) := by decide +kernel
theorem dX9_has_18 : decode cX9_has 18 = .ok (.aload_n 0, 1) := by decide +kernel
theorem dX9_has_19 : decode cX9_has 19 = .ok (.getfield 155, 3) := by decide +kernel
theorem dX9_has_22 : decode cX9_has 22 = .ok (.bipush 6, 2) := by decide +kernel
theorem dX9_has_24 : decode cX9_has 24 = .ok (.if_icmp .ne 5, 3) := by decide +kernel
theorem dX9_has_27 : decode cX9_has 27 = .ok (.iconst 0, 1) := by decide +kernel
theorem dX9_has_28 : decode cX9_has 28 = .ok (.ireturn, 1) := by decide +kernel
theorem dX9_has_29 : decode cX9_has 29 = .ok (.aload_n 0, 1) := by decide +kernel
theorem dX9_has_30 : decode cX9_has 30 = .ok (.iconst 0, 1) := by decide +kernel
theorem dX9_has_31 : decode cX9_has 31 = .ok (.iload_n 1, 1) := by decide +kernel
theorem dX9_has_32 : decode cX9_has 32 = .ok (.iload_n 2, 1) := by decide +kernel
theorem dX9_has_33 : decode cX9_has 33 = .ok (.invokevirtual 158, 3) := by decide +kernel
theorem dX9_has_36 : decode cX9_has 36 = .ok (.iconst 1, 1) := by decide +kernel
theorem dX9_has_37 : decode cX9_has 37 = .ok (.ireturn, 1) := by decide +kernel
theorem dX9_pair_0 : decode cX9_pair 0 = .ok (.iload_n 1, 1) := by decide +kernel
theorem dX9_pair_1 : decode cX9_pair 1 = .ok (.invokestatic 141, 3) := by decide +kernel
theorem dX9_pair_4 : decode cX9_pair 4 = .ok (.ifCond .eq 19, 3) := by decide +kernel
theorem dX9_pair_7 : decode cX9_pair 7 = .ok (.iload_n 2, 1) := by decide +kernel
theorem dX9_pair_8 : decode cX9_pair 8 = .ok (.invokestatic 141, 3) := by decide +kernel
theorem dX9_pair_11 : decode cX9_pair 11 = .ok (.ifCond .eq 12, 3) := by decide +kernel
theorem dX9_pair_14 : decode cX9_pair 14 = .ok (.aload_n 0, 1) := by decide +kernel
theorem dX9_pair_15 : decode cX9_pair 15 = .ok (.getfield 155, 3) := by decide +kernel
theorem dX9_pair_18 : decode cX9_pair 18 = .ok (.bipush 6, 2) := by decide +kernel
theorem dX9_pair_20 : decode cX9_pair 20 = .ok (.if_icmp .ne 5, 3) := by decide +kernel
theorem dX9_pair_23 : decode cX9_pair 23 = .ok (.iconst 0, 1) := by decide +kernel
theorem dX9_pair_24 : decode cX9_pair 24 = .ok (.ireturn, 1) := by decide +kernel
theorem dX9_pair_25 : decode cX9_pair 25 = .ok (.aload_n 0, 1) := by decide +kernel
theorem dX9_pair_26 : decode cX9_pair 26 = .ok (.iload_n 3, 1) := by decide +kernel
theorem dX9_pair_27 : decode cX9_pair 27 = .ok (.ifCond .eq 7, 3) := by decide +kernel
theorem dX9_pair_30 : decode cX9_pair 30 = .ok (.iconst 2, 1) := by decide +kernel
theorem dX9_pair_31 : decode cX9_pair 31 = .ok (.goto 4, 3) := by decide +kernel
theorem dX9_pair_34 : decode cX9_pair 34 = .ok (.iconst 1, 1) := by decide +kernel
theorem dX9_pair_35 : decode cX9_pair 35 = .ok (.iload_n 1, 1) := by decide +kernel
theorem dX9_pair_36 : decode cX9_pair 36 = .ok (.iload_n 2, 1) := by decide +kernel
theorem dX9_pair_37 : decode cX9_pair 37 = .ok (.invokevirtual 158, 3) := by decide +kernel
theorem dX9_pair_40 : decode cX9_pair 40 = .ok (.iconst 1, 1) := by decide +kernel
theorem dX9_pair_41 : decode cX9_pair 41 = .ok (.ireturn, 1) := by decide +kernel
theorem dX9_size_0 : decode cX9_size 0 = .ok (.iload_n 1, 1) := by decide +kernel
theorem dX9_size_1 : decode cX9_size 1 = .ok (.iconst (-1), 1) := by decide +kernel
theorem dX9_size_2 : decode cX9_size 2 = .ok (.if_icmp .lt 18, 3) := by decide +kernel
theorem dX9_size_5 : decode cX9_size 5 = .ok (.iload_n 1, 1) := by decide +kernel
theorem dX9_size_6 : decode cX9_size 6 = .ok (.bipush 32, 2) := by decide +kernel
theorem dX9_size_8 : decode cX9_size 8 = .ok (.if_icmp .gt 12, 3) := by decide +kernel
theorem dX9_size_11 : decode cX9_size 11 = .ok (.aload_n 0, 1) := by decide +kernel
theorem dX9_size_12 : decode cX9_size 12 = .ok (.getfield 155, 3) := by decide +kernel
theorem dX9_size_15 : decode cX9_size 15 = .ok (.bipush 6, 2) := by decide +kernel
theorem dX9_size_17 : decode cX9_size 17 = .ok (.if_icmp .ne 5, 3) := by decide +kernel
theorem dX9_size_20 : decode cX9_size 20 = .ok (.iconst 0, 1) := by decide +kernel
theorem dX9_size_21 : decode cX9_size 21 = .ok (.ireturn, 1) := by decide +kernel
theorem dX9_size_22 : decode cX9_size 22 = .ok (.aload_n 0, 1) := by decide +kernel
theorem dX9_size_23 : decode cX9_size 23 = .ok (.iload_n 1, 1) := by decide +kernel
theorem dX9_size_24 : decode cX9_size 24 = .ok (.ifCond .ge 7, 3) := by decide +kernel
theorem dX9_size_27 : decode cX9_size 27 = .ok (.iconst 4, 1) := by decide +kernel
theorem dX9_size_28 : decode cX9_size 28 = .ok (.goto 4, 3) := by decide +kernel
theorem dX9_size_31 : decode cX9_size 31 = .ok (.iconst 3, 1) := by decide +kernel
theorem dX9_size_32 : decode cX9_size 32 = .ok (.iload_n 1, 1) := by decide +kernel
theorem dX9_size_33 : decode cX9_size 33 = .ok (.iconst 0, 1) := by decide +kernel
theorem dX9_size_34 : decode cX9_size 34 = .ok (.invokevirtual 158, 3) := by decide +kernel
theorem dX9_size_37 : decode cX9_size 37 = .ok (.iconst 1, 1) := by decide +kernel
theorem dX9_size_38 : decode cX9_size 38 = .ok (.ireturn, 1) := by decide +kernel
theorem dX9_copyStep_0 : decode cX9_copyStep 0 = .ok (.aload_n 0, 1) := by decide +kernel
theorem dX9_copyStep_1 : decode cX9_copyStep 1 = .ok (.getfield 22, 3) := by decide +kernel
theorem dX9_copyStep_4 : decode cX9_copyStep 4 = .ok (.iload_n 2, 1) := by decide +kernel
theorem dX9_copyStep_5 : decode cX9_copyStep 5 = .ok (.aload_n 0, 1) := by decide +kernel
theorem dX9_copyStep_6 : decode cX9_copyStep 6 = .ok (.getfield 22, 3) := by decide +kernel
theorem dX9_copyStep_9 : decode cX9_copyStep 9 = .ok (.iload_n 1, 1) := by decide +kernel
theorem dX9_copyStep_10 : decode cX9_copyStep 10 = .ok (.iaload, 1) := by decide +kernel
theorem dX9_copyStep_11 : decode cX9_copyStep 11 = .ok (.iastore, 1) := by decide +kernel
theorem dX9_copyStep_12 : decode cX9_copyStep 12 = .ok (.aload_n 0, 1) := by decide +kernel
theorem dX9_copyStep_13 : decode cX9_copyStep 13 = .ok (.getfield 25, 3) := by decide +kernel
theorem dX9_copyStep_16 : decode cX9_copyStep 16 = .ok (.iload_n 2, 1) := by decide +kernel
theorem dX9_copyStep_17 : decode cX9_copyStep 17 = .ok (.aload_n 0, 1) := by decide +kernel
theorem dX9_copyStep_18 : decode cX9_copyStep 18 = .ok (.getfield 25, 3) := by decide +kernel
theorem dX9_copyStep_21 : decode cX9_copyStep 21 = .ok (.iload_n 1, 1) := by decide +kernel
theorem dX9_copyStep_22 : decode cX9_copyStep 22 = .ok (.iaload, 1) := by decide +kernel
theorem dX9_copyStep_23 : decode cX9_copyStep 23 = .ok (.iastore, 1) := by decide +kernel
theorem dX9_copyStep_24 : decode cX9_copyStep 24 = .ok (.aload_n 0, 1) := by decide +kernel
theorem dX9_copyStep_25 : decode cX9_copyStep 25 = .ok (.getfield 28, 3) := by decide +kernel
theorem dX9_copyStep_28 : decode cX9_copyStep 28 = .ok (.iload_n 2, 1) := by decide +kernel
theorem dX9_copyStep_29 : decode cX9_copyStep 29 = .ok (.aload_n 0, 1) := by decide +kernel
theorem dX9_copyStep_30 : decode cX9_copyStep 30 = .ok (.getfield 28, 3) := by decide +kernel
theorem dX9_copyStep_33 : decode cX9_copyStep 33 = .ok (.iload_n 1, 1) := by decide +kernel
theorem dX9_copyStep_34 : decode cX9_copyStep 34 = .ok (.iaload, 1) := by decide +kernel
theorem dX9_copyStep_35 : decode cX9_copyStep 35 = .ok (.iastore, 1) := by decide +kernel
theorem dX9_copyStep_36 : decode cX9_copyStep 36 = .ok (.return_, 1) := by decide +kernel
theorem dX9_not_0 : decode cX9_not 0 = .ok (.aload_n 0, 1) := by decide +kernel
theorem dX9_not_1 : decode cX9_not 1 = .ok (.getfield 155, 3) := by decide +kernel
theorem dX9_not_4 : decode cX9_not 4 = .ok (.ifCond .eq 19, 3) := by decide +kernel
theorem dX9_not_7 : decode cX9_not 7 = .ok (.aload_n 0, 1) := by decide +kernel
theorem dX9_not_8 : decode cX9_not 8 = .ok (.getfield 19, 3) := by decide +kernel
theorem dX9_not_11 : decode cX9_not 11 = .ok (.aload_n 0, 1) := by decide +kernel
theorem dX9_not_12 : decode cX9_not 12 = .ok (.getfield 155, 3) := by decide +kernel
theorem dX9_not_15 : decode cX9_not 15 = .ok (.iconst 1, 1) := by decide +kernel
theorem dX9_not_16 : decode cX9_not 16 = .ok (.isub, 1) := by decide +kernel
theorem dX9_not_17 : decode cX9_not 17 = .ok (.iaload, 1) := by decide +kernel
theorem dX9_not_18 : decode cX9_not 18 = .ok (.bipush 6, 2) := by decide +kernel
theorem dX9_not_20 : decode cX9_not 20 = .ok (.if_icmp .ne 5, 3) := by decide +kernel
theorem dX9_not_23 : decode cX9_not 23 = .ok (.iconst 0, 1) := by decide +kernel
theorem dX9_not_24 : decode cX9_not 24 = .ok (.ireturn, 1) := by decide +kernel
theorem dX9_not_25 : decode cX9_not 25 = .ok (.aload_n 0, 1) := by decide +kernel
theorem dX9_not_26 : decode cX9_not 26 = .ok (.getfield 155, 3) := by decide +kernel
theorem dX9_not_29 : decode cX9_not 29 = .ok (.iconst 1, 1) := by decide +kernel
theorem dX9_not_30 : decode cX9_not 30 = .ok (.isub, 1) := by decide +kernel
theorem dX9_not_31 : decode cX9_not 31 = .ok (.istore_n 1, 1) := by decide +kernel
theorem dX9_not_32 : decode cX9_not 32 = .ok (.aload_n 0, 1) := by decide +kernel
theorem dX9_not_33 : decode cX9_not 33 = .ok (.getfield 22, 3) := by decide +kernel
theorem dX9_not_36 : decode cX9_not 36 = .ok (.bipush 64, 2) := by decide +kernel
theorem dX9_not_38 : decode cX9_not 38 = .ok (.iload_n 1, 1) := by decide +kernel
theorem dX9_not_39 : decode cX9_not 39 = .ok (.imul, 1) := by decide +kernel
theorem dX9_not_40 : decode cX9_not 40 = .ok (.aload_n 0, 1) := by decide +kernel
theorem dX9_not_41 : decode cX9_not 41 = .ok (.getfield 16, 3) := by decide +kernel
theorem dX9_not_44 : decode cX9_not 44 = .ok (.iload_n 1, 1) := by decide +kernel
theorem dX9_not_45 : decode cX9_not 45 = .ok (.iaload, 1) := by decide +kernel
theorem dX9_not_46 : decode cX9_not 46 = .ok (.iadd, 1) := by decide +kernel
theorem dX9_not_47 : decode cX9_not 47 = .ok (.iconst 5, 1) := by decide +kernel
theorem dX9_not_48 : decode cX9_not 48 = .ok (.iastore, 1) := by decide +kernel
theorem dX9_not_49 : decode cX9_not 49 = .ok (.aload_n 0, 1) := by decide +kernel
theorem dX9_not_50 : decode cX9_not 50 = .ok (.getfield 16, 3) := by decide +kernel
theorem dX9_not_53 : decode cX9_not 53 = .ok (.iload_n 1, 1) := by decide +kernel
theorem dX9_not_54 : decode cX9_not 54 = .ok (.dup2, 1) := by decide +kernel
theorem dX9_not_55 : decode cX9_not 55 = .ok (.iaload, 1) := by decide +kernel
theorem dX9_not_56 : decode cX9_not 56 = .ok (.iconst 1, 1) := by decide +kernel
theorem dX9_not_57 : decode cX9_not 57 = .ok (.iadd, 1) := by decide +kernel
theorem dX9_not_58 : decode cX9_not 58 = .ok (.iastore, 1) := by decide +kernel
theorem dX9_not_59 : decode cX9_not 59 = .ok (.aload_n 0, 1) := by decide +kernel
theorem dX9_not_60 : decode cX9_not 60 = .ok (.getfield 19, 3) := by decide +kernel
theorem dX9_not_63 : decode cX9_not 63 = .ok (.iload_n 1, 1) := by decide +kernel
theorem dX9_not_64 : decode cX9_not 64 = .ok (.dup2, 1) := by decide +kernel
theorem dX9_not_65 : decode cX9_not 65 = .ok (.iaload, 1) := by decide +kernel
theorem dX9_not_66 : decode cX9_not 66 = .ok (.iconst 1, 1) := by decide +kernel
theorem dX9_not_67 : decode cX9_not 67 = .ok (.iadd, 1) := by decide +kernel
theorem dX9_not_68 : decode cX9_not 68 = .ok (.iastore, 1) := by decide +kernel
theorem dX9_not_69 : decode cX9_not 69 = .ok (.iconst 1, 1) := by decide +kernel
theorem dX9_not_70 : decode cX9_not 70 = .ok (.ireturn, 1) := by decide +kernel
theorem dX9_join_0 : decode cX9_join 0 = .ok (.aload_n 0, 1) := by decide +kernel
theorem dX9_join_1 : decode cX9_join 1 = .ok (.getfield 155, 3) := by decide +kernel
theorem dX9_join_4 : decode cX9_join 4 = .ok (.iconst 2, 1) := by decide +kernel
theorem dX9_join_5 : decode cX9_join 5 = .ok (.if_icmp .ge 5, 3) := by decide +kernel
theorem dX9_join_8 : decode cX9_join 8 = .ok (.iconst 0, 1) := by decide +kernel
theorem dX9_join_9 : decode cX9_join 9 = .ok (.ireturn, 1) := by decide +kernel
theorem dX9_join_10 : decode cX9_join 10 = .ok (.aload_n 0, 1) := by decide +kernel
theorem dX9_join_11 : decode cX9_join 11 = .ok (.getfield 155, 3) := by decide +kernel
theorem dX9_join_14 : decode cX9_join 14 = .ok (.iconst 2, 1) := by decide +kernel
theorem dX9_join_15 : decode cX9_join 15 = .ok (.isub, 1) := by decide +kernel
theorem dX9_join_16 : decode cX9_join 16 = .ok (.istore_n 2, 1) := by decide +kernel
theorem dX9_join_17 : decode cX9_join 17 = .ok (.aload_n 0, 1) := by decide +kernel
theorem dX9_join_18 : decode cX9_join 18 = .ok (.getfield 155, 3) := by decide +kernel
theorem dX9_join_21 : decode cX9_join 21 = .ok (.iconst 1, 1) := by decide +kernel
theorem dX9_join_22 : decode cX9_join 22 = .ok (.isub, 1) := by decide +kernel
theorem dX9_join_23 : decode cX9_join 23 = .ok (.istore_n 3, 1) := by decide +kernel
theorem dX9_join_24 : decode cX9_join 24 = .ok (.iconst 1, 1) := by decide +kernel
theorem dX9_join_25 : decode cX9_join 25 = .ok (.aload_n 0, 1) := by decide +kernel
theorem dX9_join_26 : decode cX9_join 26 = .ok (.getfield 19, 3) := by decide +kernel
theorem dX9_join_29 : decode cX9_join 29 = .ok (.iload_n 2, 1) := by decide +kernel
theorem dX9_join_30 : decode cX9_join 30 = .ok (.iaload, 1) := by decide +kernel
theorem dX9_join_31 : decode cX9_join 31 = .ok (.aload_n 0, 1) := by decide +kernel
theorem dX9_join_32 : decode cX9_join 32 = .ok (.getfield 19, 3) := by decide +kernel
theorem dX9_join_35 : decode cX9_join 35 = .ok (.iload_n 3, 1) := by decide +kernel
theorem dX9_join_36 : decode cX9_join 36 = .ok (.iaload, 1) := by decide +kernel
theorem dX9_join_37 : decode cX9_join 37 = .ok (.if_icmp .le 12, 3) := by decide +kernel
theorem dX9_join_40 : decode cX9_join 40 = .ok (.aload_n 0, 1) := by decide +kernel
theorem dX9_join_41 : decode cX9_join 41 = .ok (.getfield 19, 3) := by decide +kernel
theorem dX9_join_44 : decode cX9_join 44 = .ok (.iload_n 2, 1) := by decide +kernel
theorem dX9_join_45 : decode cX9_join 45 = .ok (.iaload, 1) := by decide +kernel
theorem dX9_join_46 : decode cX9_join 46 = .ok (.goto 9, 3) := by decide +kernel
theorem dX9_join_49 : decode cX9_join 49 = .ok (.aload_n 0, 1) := by decide +kernel
theorem dX9_join_50 : decode cX9_join 50 = .ok (.getfield 19, 3) := by decide +kernel
theorem dX9_join_53 : decode cX9_join 53 = .ok (.iload_n 3, 1) := by decide +kernel
theorem dX9_join_54 : decode cX9_join 54 = .ok (.iaload, 1) := by decide +kernel
theorem dX9_join_55 : decode cX9_join 55 = .ok (.iadd, 1) := by decide +kernel
theorem dX9_join_56 : decode cX9_join 56 = .ok (.istore 4, 2) := by decide +kernel
theorem dX9_join_58 : decode cX9_join 58 = .ok (.iload 4, 2) := by decide +kernel
theorem dX9_join_60 : decode cX9_join 60 = .ok (.bipush 6, 2) := by decide +kernel
theorem dX9_join_62 : decode cX9_join 62 = .ok (.if_icmp .le 5, 3) := by decide +kernel
theorem dX9_join_65 : decode cX9_join 65 = .ok (.iconst 0, 1) := by decide +kernel
theorem dX9_join_66 : decode cX9_join 66 = .ok (.ireturn, 1) := by decide +kernel
theorem dX9_join_67 : decode cX9_join 67 = .ok (.iconst 0, 1) := by decide +kernel
theorem dX9_join_68 : decode cX9_join 68 = .ok (.istore 5, 2) := by decide +kernel
theorem dX9_join_70 : decode cX9_join 70 = .ok (.iload 5, 2) := by decide +kernel
theorem dX9_join_72 : decode cX9_join 72 = .ok (.aload_n 0, 1) := by decide +kernel
theorem dX9_join_73 : decode cX9_join 73 = .ok (.getfield 16, 3) := by decide +kernel
theorem dX9_join_76 : decode cX9_join 76 = .ok (.iload_n 3, 1) := by decide +kernel
theorem dX9_join_77 : decode cX9_join 77 = .ok (.iaload, 1) := by decide +kernel
theorem dX9_join_78 : decode cX9_join 78 = .ok (.if_icmp .ge 34, 3) := by decide +kernel
theorem dX9_join_81 : decode cX9_join 81 = .ok (.aload_n 0, 1) := by decide +kernel
theorem dX9_join_82 : decode cX9_join 82 = .ok (.bipush 64, 2) := by decide +kernel
theorem dX9_join_84 : decode cX9_join 84 = .ok (.iload_n 3, 1) := by decide +kernel
theorem dX9_join_85 : decode cX9_join 85 = .ok (.imul, 1) := by decide +kernel
theorem dX9_join_86 : decode cX9_join 86 = .ok (.iload 5, 2) := by decide +kernel
theorem dX9_join_88 : decode cX9_join 88 = .ok (.iadd, 1) := by decide +kernel
theorem dX9_join_89 : decode cX9_join 89 = .ok (.bipush 64, 2) := by decide +kernel
theorem dX9_join_91 : decode cX9_join 91 = .ok (.iload_n 2, 1) := by decide +kernel
theorem dX9_join_92 : decode cX9_join 92 = .ok (.imul, 1) := by decide +kernel
theorem dX9_join_93 : decode cX9_join 93 = .ok (.aload_n 0, 1) := by decide +kernel
theorem dX9_join_94 : decode cX9_join 94 = .ok (.getfield 16, 3) := by decide +kernel
theorem dX9_join_97 : decode cX9_join 97 = .ok (.iload_n 2, 1) := by decide +kernel
theorem dX9_join_98 : decode cX9_join 98 = .ok (.iaload, 1) := by decide +kernel
theorem dX9_join_99 : decode cX9_join 99 = .ok (.iadd, 1) := by decide +kernel
theorem dX9_join_100 : decode cX9_join 100 = .ok (.iload 5, 2) := by decide +kernel
theorem dX9_join_102 : decode cX9_join 102 = .ok (.iadd, 1) := by decide +kernel
theorem dX9_join_103 : decode cX9_join 103 = .ok (.invokevirtual 162, 3) := by decide +kernel
theorem dX9_join_106 : decode cX9_join 106 = .ok (.iinc 5 1, 3) := by decide +kernel
theorem dX9_join_109 : decode cX9_join 109 = .ok (.goto (-39), 3) := by decide +kernel
theorem dX9_join_112 : decode cX9_join 112 = .ok (.aload_n 0, 1) := by decide +kernel
theorem dX9_join_113 : decode cX9_join 113 = .ok (.getfield 16, 3) := by decide +kernel
theorem dX9_join_116 : decode cX9_join 116 = .ok (.iload_n 2, 1) := by decide +kernel
theorem dX9_join_117 : decode cX9_join 117 = .ok (.dup2, 1) := by decide +kernel
theorem dX9_join_118 : decode cX9_join 118 = .ok (.iaload, 1) := by decide +kernel
theorem dX9_join_119 : decode cX9_join 119 = .ok (.aload_n 0, 1) := by decide +kernel
theorem dX9_join_120 : decode cX9_join 120 = .ok (.getfield 16, 3) := by decide +kernel
theorem dX9_join_123 : decode cX9_join 123 = .ok (.iload_n 3, 1) := by decide +kernel
theorem dX9_join_124 : decode cX9_join 124 = .ok (.iaload, 1) := by decide +kernel
theorem dX9_join_125 : decode cX9_join 125 = .ok (.iadd, 1) := by decide +kernel
theorem dX9_join_126 : decode cX9_join 126 = .ok (.iastore, 1) := by decide +kernel
theorem dX9_join_127 : decode cX9_join 127 = .ok (.aload_n 0, 1) := by decide +kernel
theorem dX9_join_128 : decode cX9_join 128 = .ok (.getfield 22, 3) := by decide +kernel
theorem dX9_join_131 : decode cX9_join 131 = .ok (.bipush 64, 2) := by decide +kernel
theorem dX9_join_133 : decode cX9_join 133 = .ok (.iload_n 2, 1) := by decide +kernel
theorem dX9_join_134 : decode cX9_join 134 = .ok (.imul, 1) := by decide +kernel
theorem dX9_join_135 : decode cX9_join 135 = .ok (.aload_n 0, 1) := by decide +kernel
theorem dX9_join_136 : decode cX9_join 136 = .ok (.getfield 16, 3) := by decide +kernel
theorem dX9_join_139 : decode cX9_join 139 = .ok (.iload_n 2, 1) := by decide +kernel
theorem dX9_join_140 : decode cX9_join 140 = .ok (.iaload, 1) := by decide +kernel
theorem dX9_join_141 : decode cX9_join 141 = .ok (.iadd, 1) := by decide +kernel
theorem dX9_join_142 : decode cX9_join 142 = .ok (.iload_n 1, 1) := by decide +kernel
theorem dX9_join_143 : decode cX9_join 143 = .ok (.ifCond .eq 8, 3) := by decide +kernel
theorem dX9_join_146 : decode cX9_join 146 = .ok (.bipush 7, 2) := by decide +kernel
theorem dX9_join_148 : decode cX9_join 148 = .ok (.goto 5, 3) := by decide +kernel
theorem dX9_join_151 : decode cX9_join 151 = .ok (.bipush 6, 2) := by decide +kernel
theorem dX9_join_153 : decode cX9_join 153 = .ok (.iastore, 1) := by decide +kernel
theorem dX9_join_154 : decode cX9_join 154 = .ok (.aload_n 0, 1) := by decide +kernel
theorem dX9_join_155 : decode cX9_join 155 = .ok (.getfield 16, 3) := by decide +kernel
theorem dX9_join_158 : decode cX9_join 158 = .ok (.iload_n 2, 1) := by decide +kernel
theorem dX9_join_159 : decode cX9_join 159 = .ok (.dup2, 1) := by decide +kernel
theorem dX9_join_160 : decode cX9_join 160 = .ok (.iaload, 1) := by decide +kernel
theorem dX9_join_161 : decode cX9_join 161 = .ok (.iconst 1, 1) := by decide +kernel
theorem dX9_join_162 : decode cX9_join 162 = .ok (.iadd, 1) := by decide +kernel
theorem dX9_join_163 : decode cX9_join 163 = .ok (.iastore, 1) := by decide +kernel
theorem dX9_join_164 : decode cX9_join 164 = .ok (.aload_n 0, 1) := by decide +kernel
theorem dX9_join_165 : decode cX9_join 165 = .ok (.getfield 19, 3) := by decide +kernel
theorem dX9_join_168 : decode cX9_join 168 = .ok (.iload_n 2, 1) := by decide +kernel
theorem dX9_join_169 : decode cX9_join 169 = .ok (.iload 4, 2) := by decide +kernel
theorem dX9_join_171 : decode cX9_join 171 = .ok (.iastore, 1) := by decide +kernel
theorem dX9_join_172 : decode cX9_join 172 = .ok (.aload_n 0, 1) := by decide +kernel
theorem dX9_join_173 : decode cX9_join 173 = .ok (.dup, 1) := by decide +kernel
theorem dX9_join_174 : decode cX9_join 174 = .ok (.getfield 155, 3) := by decide +kernel
theorem dX9_join_177 : decode cX9_join 177 = .ok (.iconst 1, 1) := by decide +kernel
theorem dX9_join_178 : decode cX9_join 178 = .ok (.isub, 1) := by decide +kernel
theorem dX9_join_179 : decode cX9_join 179 = .ok (.putfield 155, 3) := by decide +kernel
theorem dX9_join_182 : decode cX9_join 182 = .ok (.iconst 1, 1) := by decide +kernel
theorem dX9_join_183 : decode cX9_join 183 = .ok (.ireturn, 1) := by decide +kernel
theorem dX9_mark_0 : decode cX9_mark 0 = .ok (.aload_n 0, 1) := by decide +kernel
theorem dX9_mark_1 : decode cX9_mark 1 = .ok (.getfield 155, 3) := by decide +kernel
theorem dX9_mark_4 : decode cX9_mark 4 = .ok (.ifCond .ne 5, 3) := by decide +kernel
theorem dX9_mark_7 : decode cX9_mark 7 = .ok (.iconst 0, 1) := by decide +kernel
theorem dX9_mark_8 : decode cX9_mark 8 = .ok (.ireturn, 1) := by decide +kernel
theorem dX9_mark_9 : decode cX9_mark 9 = .ok (.aload_n 0, 1) := by decide +kernel
theorem dX9_mark_10 : decode cX9_mark 10 = .ok (.dup, 1) := by decide +kernel
theorem dX9_mark_11 : decode cX9_mark 11 = .ok (.getfield 155, 3) := by decide +kernel
theorem dX9_mark_14 : decode cX9_mark 14 = .ok (.iconst 1, 1) := by decide +kernel
theorem dX9_mark_15 : decode cX9_mark 15 = .ok (.isub, 1) := by decide +kernel
theorem dX9_mark_16 : decode cX9_mark 16 = .ok (.putfield 155, 3) := by decide +kernel
theorem dX9_mark_19 : decode cX9_mark 19 = .ok (.iload_n 1, 1) := by decide +kernel
theorem dX9_mark_20 : decode cX9_mark 20 = .ok (.ifCond .eq 8, 3) := by decide +kernel
theorem dX9_mark_23 : decode cX9_mark 23 = .ok (.bipush 7, 2) := by decide +kernel
theorem dX9_mark_25 : decode cX9_mark 25 = .ok (.goto 5, 3) := by decide +kernel
theorem dX9_mark_28 : decode cX9_mark 28 = .ok (.bipush 6, 2) := by decide +kernel
theorem dX9_mark_30 : decode cX9_mark 30 = .ok (.istore_n 2, 1) := by decide +kernel
theorem dX9_mark_31 : decode cX9_mark 31 = .ok (.iconst 0, 1) := by decide +kernel
theorem dX9_mark_32 : decode cX9_mark 32 = .ok (.istore_n 3, 1) := by decide +kernel
theorem dX9_mark_33 : decode cX9_mark 33 = .ok (.iload_n 3, 1) := by decide +kernel
theorem dX9_mark_34 : decode cX9_mark 34 = .ok (.aload_n 0, 1) := by decide +kernel
theorem dX9_mark_35 : decode cX9_mark 35 = .ok (.getfield 16, 3) := by decide +kernel
theorem dX9_mark_38 : decode cX9_mark 38 = .ok (.aload_n 0, 1) := by decide +kernel
theorem dX9_mark_39 : decode cX9_mark 39 = .ok (.getfield 155, 3) := by decide +kernel
theorem dX9_mark_42 : decode cX9_mark 42 = .ok (.iaload, 1) := by decide +kernel
theorem dX9_mark_43 : decode cX9_mark 43 = .ok (.if_icmp .ge 28, 3) := by decide +kernel
theorem dX9_mark_46 : decode cX9_mark 46 = .ok (.aload_n 0, 1) := by decide +kernel
theorem dX9_mark_47 : decode cX9_mark 47 = .ok (.bipush 64, 2) := by decide +kernel
theorem dX9_mark_49 : decode cX9_mark 49 = .ok (.aload_n 0, 1) := by decide +kernel
theorem dX9_mark_50 : decode cX9_mark 50 = .ok (.getfield 155, 3) := by decide +kernel
theorem dX9_mark_53 : decode cX9_mark 53 = .ok (.imul, 1) := by decide +kernel
theorem dX9_mark_54 : decode cX9_mark 54 = .ok (.iload_n 3, 1) := by decide +kernel
theorem dX9_mark_55 : decode cX9_mark 55 = .ok (.iadd, 1) := by decide +kernel
theorem dX9_mark_56 : decode cX9_mark 56 = .ok (.bipush 64, 2) := by decide +kernel
theorem dX9_mark_58 : decode cX9_mark 58 = .ok (.iload_n 2, 1) := by decide +kernel
theorem dX9_mark_59 : decode cX9_mark 59 = .ok (.imul, 1) := by decide +kernel
theorem dX9_mark_60 : decode cX9_mark 60 = .ok (.iload_n 3, 1) := by decide +kernel
theorem dX9_mark_61 : decode cX9_mark 61 = .ok (.iadd, 1) := by decide +kernel
theorem dX9_mark_62 : decode cX9_mark 62 = .ok (.invokevirtual 162, 3) := by decide +kernel
theorem dX9_mark_65 : decode cX9_mark 65 = .ok (.iinc 3 1, 3) := by decide +kernel
theorem dX9_mark_68 : decode cX9_mark 68 = .ok (.goto (-35), 3) := by decide +kernel
theorem dX9_mark_71 : decode cX9_mark 71 = .ok (.aload_n 0, 1) := by decide +kernel
theorem dX9_mark_72 : decode cX9_mark 72 = .ok (.getfield 16, 3) := by decide +kernel
theorem dX9_mark_75 : decode cX9_mark 75 = .ok (.iload_n 2, 1) := by decide +kernel
theorem dX9_mark_76 : decode cX9_mark 76 = .ok (.aload_n 0, 1) := by decide +kernel
theorem dX9_mark_77 : decode cX9_mark 77 = .ok (.getfield 16, 3) := by decide +kernel
theorem dX9_mark_80 : decode cX9_mark 80 = .ok (.aload_n 0, 1) := by decide +kernel
theorem dX9_mark_81 : decode cX9_mark 81 = .ok (.getfield 155, 3) := by decide +kernel
theorem dX9_mark_84 : decode cX9_mark 84 = .ok (.iaload, 1) := by decide +kernel
theorem dX9_mark_85 : decode cX9_mark 85 = .ok (.iastore, 1) := by decide +kernel
theorem dX9_mark_86 : decode cX9_mark 86 = .ok (.aload_n 0, 1) := by decide +kernel
theorem dX9_mark_87 : decode cX9_mark 87 = .ok (.iconst 0, 1) := by decide +kernel
theorem dX9_mark_88 : decode cX9_mark 88 = .ok (.putfield 166, 3) := by decide +kernel
theorem dX9_mark_91 : decode cX9_mark 91 = .ok (.iconst 1, 1) := by decide +kernel
theorem dX9_mark_92 : decode cX9_mark 92 = .ok (.ireturn, 1) := by decide +kernel
theorem dX9_holdsStep_0 : decode cX9_holdsStep 0 = .ok (.aload_n 0, 1) := by decide +kernel
theorem dX9_holdsStep_1 : decode cX9_holdsStep 1 = .ok (.getfield 25, 3) := by decide +kernel
theorem dX9_holdsStep_4 : decode cX9_holdsStep 4 = .ok (.iload_n 1, 1) := by decide +kernel
theorem dX9_holdsStep_5 : decode cX9_holdsStep 5 = .ok (.iaload, 1) := by decide +kernel
theorem dX9_holdsStep_6 : decode cX9_holdsStep 6 = .ok (.istore 4, 2) := by decide +kernel
theorem dX9_holdsStep_8 : decode cX9_holdsStep 8 = .ok (.aload_n 0, 1) := by decide +kernel
theorem dX9_holdsStep_9 : decode cX9_holdsStep 9 = .ok (.getfield 28, 3) := by decide +kernel
theorem dX9_holdsStep_12 : decode cX9_holdsStep 12 = .ok (.iload_n 1, 1) := by decide +kernel
theorem dX9_holdsStep_13 : decode cX9_holdsStep 13 = .ok (.iaload, 1) := by decide +kernel
theorem dX9_holdsStep_14 : decode cX9_holdsStep 14 = .ok (.istore 5, 2) := by decide +kernel
theorem dX9_holdsStep_16 : decode cX9_holdsStep 16 = .ok (.iconst 0, 1) := by decide +kernel
theorem dX9_holdsStep_17 : decode cX9_holdsStep 17 = .ok (.istore 6, 2) := by decide +kernel
theorem dX9_holdsStep_19 : decode cX9_holdsStep 19 = .ok (.iconst 0, 1) := by decide +kernel
theorem dX9_holdsStep_20 : decode cX9_holdsStep 20 = .ok (.istore 7, 2) := by decide +kernel
theorem dX9_holdsStep_22 : decode cX9_holdsStep 22 = .ok (.iconst 0, 1) := by decide +kernel
theorem dX9_holdsStep_23 : decode cX9_holdsStep 23 = .ok (.istore 8, 2) := by decide +kernel
theorem dX9_holdsStep_25 : decode cX9_holdsStep 25 = .ok (.iconst 0, 1) := by decide +kernel
theorem dX9_holdsStep_26 : decode cX9_holdsStep 26 = .ok (.istore 9, 2) := by decide +kernel
theorem dX9_holdsStep_28 : decode cX9_holdsStep 28 = .ok (.iconst 0, 1) := by decide +kernel
theorem dX9_holdsStep_29 : decode cX9_holdsStep 29 = .ok (.istore 10, 2) := by decide +kernel
theorem dX9_holdsStep_31 : decode cX9_holdsStep 31 = .ok (.iload 10, 2) := by decide +kernel
theorem dX9_holdsStep_33 : decode cX9_holdsStep 33 = .ok (.iload_n 3, 1) := by decide +kernel
theorem dX9_holdsStep_34 : decode cX9_holdsStep 34 = .ok (.if_icmp .ge 112, 3) := by decide +kernel
theorem dX9_holdsStep_37 : decode cX9_holdsStep 37 = .ok (.iload 6, 2) := by decide +kernel
theorem dX9_holdsStep_39 : decode cX9_holdsStep 39 = .ok (.aload_n 2, 1) := by decide +kernel
theorem dX9_holdsStep_40 : decode cX9_holdsStep 40 = .ok (.iload 10, 2) := by decide +kernel
theorem dX9_holdsStep_42 : decode cX9_holdsStep 42 = .ok (.iaload, 1) := by decide +kernel
theorem dX9_holdsStep_43 : decode cX9_holdsStep 43 = .ok (.iload 4, 2) := by decide +kernel
theorem dX9_holdsStep_45 : decode cX9_holdsStep 45 = .ok (.if_icmp .ne 7, 3) := by decide +kernel
theorem dX9_holdsStep_48 : decode cX9_holdsStep 48 = .ok (.iconst 1, 1) := by decide +kernel
theorem dX9_holdsStep_49 : decode cX9_holdsStep 49 = .ok (.goto 4, 3) := by decide +kernel
theorem dX9_holdsStep_52 : decode cX9_holdsStep 52 = .ok (.iconst 0, 1) := by decide +kernel
theorem dX9_holdsStep_53 : decode cX9_holdsStep 53 = .ok (.iadd, 1) := by decide +kernel
theorem dX9_holdsStep_54 : decode cX9_holdsStep 54 = .ok (.istore 6, 2) := by decide +kernel
theorem dX9_holdsStep_56 : decode cX9_holdsStep 56 = .ok (.iload 7, 2) := by decide +kernel
theorem dX9_holdsStep_58 : decode cX9_holdsStep 58 = .ok (.ifCond .ne 17, 3) := by decide +kernel
theorem dX9_holdsStep_61 : decode cX9_holdsStep 61 = .ok (.iload 9, 2) := by decide +kernel
theorem dX9_holdsStep_63 : decode cX9_holdsStep 63 = .ok (.ifCond .eq 16, 3) := by decide +kernel
theorem dX9_holdsStep_66 : decode cX9_holdsStep 66 = .ok (.aload_n 2, 1) := by decide +kernel
theorem dX9_holdsStep_67 : decode cX9_holdsStep 67 = .ok (.iload 10, 2) := by decide +kernel
theorem dX9_holdsStep_69 : decode cX9_holdsStep 69 = .ok (.iaload, 1) := by decide +kernel
theorem dX9_holdsStep_70 : decode cX9_holdsStep 70 = .ok (.iload 5, 2) := by decide +kernel
theorem dX9_holdsStep_72 : decode cX9_holdsStep 72 = .ok (.if_icmp .ne 7, 3) := by decide +kernel
theorem dX9_holdsStep_75 : decode cX9_holdsStep 75 = .ok (.iconst 1, 1) := by decide +kernel
theorem dX9_holdsStep_76 : decode cX9_holdsStep 76 = .ok (.goto 4, 3) := by decide +kernel
theorem dX9_holdsStep_79 : decode cX9_holdsStep 79 = .ok (.iconst 0, 1) := by decide +kernel
theorem dX9_holdsStep_80 : decode cX9_holdsStep 80 = .ok (.istore 7, 2) := by decide +kernel
theorem dX9_holdsStep_82 : decode cX9_holdsStep 82 = .ok (.iload 8, 2) := by decide +kernel
theorem dX9_holdsStep_84 : decode cX9_holdsStep 84 = .ok (.ifCond .ne 28, 3) := by decide +kernel
theorem dX9_holdsStep_87 : decode cX9_holdsStep 87 = .ok (.iload 10, 2) := by decide +kernel
theorem dX9_holdsStep_89 : decode cX9_holdsStep 89 = .ok (.ifCond .le 27, 3) := by decide +kernel
theorem dX9_holdsStep_92 : decode cX9_holdsStep 92 = .ok (.aload_n 2, 1) := by decide +kernel
theorem dX9_holdsStep_93 : decode cX9_holdsStep 93 = .ok (.iload 10, 2) := by decide +kernel
theorem dX9_holdsStep_95 : decode cX9_holdsStep 95 = .ok (.iconst 1, 1) := by decide +kernel
theorem dX9_holdsStep_96 : decode cX9_holdsStep 96 = .ok (.isub, 1) := by decide +kernel
theorem dX9_holdsStep_97 : decode cX9_holdsStep 97 = .ok (.iaload, 1) := by decide +kernel
theorem dX9_holdsStep_98 : decode cX9_holdsStep 98 = .ok (.iload 4, 2) := by decide +kernel
theorem dX9_holdsStep_100 : decode cX9_holdsStep 100 = .ok (.if_icmp .ne 16, 3) := by decide +kernel
theorem dX9_holdsStep_103 : decode cX9_holdsStep 103 = .ok (.aload_n 2, 1) := by decide +kernel
theorem dX9_holdsStep_104 : decode cX9_holdsStep 104 = .ok (.iload 10, 2) := by decide +kernel
theorem dX9_holdsStep_106 : decode cX9_holdsStep 106 = .ok (.iaload, 1) := by decide +kernel
theorem dX9_holdsStep_107 : decode cX9_holdsStep 107 = .ok (.iload 5, 2) := by decide +kernel
theorem dX9_holdsStep_109 : decode cX9_holdsStep 109 = .ok (.if_icmp .ne 7, 3) := by decide +kernel
theorem dX9_holdsStep_112 : decode cX9_holdsStep 112 = .ok (.iconst 1, 1) := by decide +kernel
theorem dX9_holdsStep_113 : decode cX9_holdsStep 113 = .ok (.goto 4, 3) := by decide +kernel
theorem dX9_holdsStep_116 : decode cX9_holdsStep 116 = .ok (.iconst 0, 1) := by decide +kernel
theorem dX9_holdsStep_117 : decode cX9_holdsStep 117 = .ok (.istore 8, 2) := by decide +kernel
theorem dX9_holdsStep_119 : decode cX9_holdsStep 119 = .ok (.iload 9, 2) := by decide +kernel
theorem dX9_holdsStep_121 : decode cX9_holdsStep 121 = .ok (.ifCond .ne 12, 3) := by decide +kernel
theorem dX9_holdsStep_124 : decode cX9_holdsStep 124 = .ok (.aload_n 2, 1) := by decide +kernel
theorem dX9_holdsStep_125 : decode cX9_holdsStep 125 = .ok (.iload 10, 2) := by decide +kernel
theorem dX9_holdsStep_127 : decode cX9_holdsStep 127 = .ok (.iaload, 1) := by decide +kernel
theorem dX9_holdsStep_128 : decode cX9_holdsStep 128 = .ok (.iload 4, 2) := by decide +kernel
theorem dX9_holdsStep_130 : decode cX9_holdsStep 130 = .ok (.if_icmp .ne 7, 3) := by decide +kernel
theorem dX9_holdsStep_133 : decode cX9_holdsStep 133 = .ok (.iconst 1, 1) := by decide +kernel
theorem dX9_holdsStep_134 : decode cX9_holdsStep 134 = .ok (.goto 4, 3) := by decide +kernel
theorem dX9_holdsStep_137 : decode cX9_holdsStep 137 = .ok (.iconst 0, 1) := by decide +kernel
theorem dX9_holdsStep_138 : decode cX9_holdsStep 138 = .ok (.istore 9, 2) := by decide +kernel
theorem dX9_holdsStep_140 : decode cX9_holdsStep 140 = .ok (.iinc 10 1, 3) := by decide +kernel
theorem dX9_holdsStep_143 : decode cX9_holdsStep 143 = .ok (.goto (-112), 3) := by decide +kernel
theorem dX9_holdsStep_146 : decode cX9_holdsStep 146 = .ok (.aload_n 0, 1) := by decide +kernel
theorem dX9_holdsStep_147 : decode cX9_holdsStep 147 = .ok (.getfield 22, 3) := by decide +kernel
theorem dX9_holdsStep_150 : decode cX9_holdsStep 150 = .ok (.iload_n 1, 1) := by decide +kernel
theorem dX9_holdsStep_151 : decode cX9_holdsStep 151 = .ok (.iaload, 1) := by decide +kernel
theorem dX9_holdsStep_152 : decode cX9_holdsStep 152 = .ok (.tableswitch 63 0 3 #[32, 45, 48, 51], 32) := by decide +kernel
theorem dX9_holdsStep_184 : decode cX9_holdsStep 184 = .ok (.iload 6, 2) := by decide +kernel
theorem dX9_holdsStep_186 : decode cX9_holdsStep 186 = .ok (.iload 5, 2) := by decide +kernel
theorem dX9_holdsStep_188 : decode cX9_holdsStep 188 = .ok (.if_icmp .lt 7, 3) := by decide +kernel
theorem dX9_holdsStep_191 : decode cX9_holdsStep 191 = .ok (.iconst 1, 1) := by decide +kernel
theorem dX9_holdsStep_192 : decode cX9_holdsStep 192 = .ok (.goto 4, 3) := by decide +kernel
theorem dX9_holdsStep_195 : decode cX9_holdsStep 195 = .ok (.iconst 0, 1) := by decide +kernel
theorem dX9_holdsStep_196 : decode cX9_holdsStep 196 = .ok (.ireturn, 1) := by decide +kernel
theorem dX9_holdsStep_197 : decode cX9_holdsStep 197 = .ok (.iload 7, 2) := by decide +kernel
theorem dX9_holdsStep_199 : decode cX9_holdsStep 199 = .ok (.ireturn, 1) := by decide +kernel
theorem dX9_holdsStep_200 : decode cX9_holdsStep 200 = .ok (.iload 8, 2) := by decide +kernel
theorem dX9_holdsStep_202 : decode cX9_holdsStep 202 = .ok (.ireturn, 1) := by decide +kernel
theorem dX9_holdsStep_203 : decode cX9_holdsStep 203 = .ok (.iload_n 3, 1) := by decide +kernel
theorem dX9_holdsStep_204 : decode cX9_holdsStep 204 = .ok (.iload 4, 2) := by decide +kernel
theorem dX9_holdsStep_206 : decode cX9_holdsStep 206 = .ok (.if_icmp .lt 7, 3) := by decide +kernel
theorem dX9_holdsStep_209 : decode cX9_holdsStep 209 = .ok (.iconst 1, 1) := by decide +kernel
theorem dX9_holdsStep_210 : decode cX9_holdsStep 210 = .ok (.goto 4, 3) := by decide +kernel
theorem dX9_holdsStep_213 : decode cX9_holdsStep 213 = .ok (.iconst 0, 1) := by decide +kernel
theorem dX9_holdsStep_214 : decode cX9_holdsStep 214 = .ok (.ireturn, 1) := by decide +kernel
theorem dX9_holdsStep_215 : decode cX9_holdsStep 215 = .ok (.iload_n 3, 1) := by decide +kernel
theorem dX9_holdsStep_216 : decode cX9_holdsStep 216 = .ok (.iconst 2, 1) := by decide +kernel
theorem dX9_holdsStep_217 : decode cX9_holdsStep 217 = .ok (.irem, 1) := by decide +kernel
theorem dX9_holdsStep_218 : decode cX9_holdsStep 218 = .ok (.ifCond .ne 7, 3) := by decide +kernel
theorem dX9_holdsStep_221 : decode cX9_holdsStep 221 = .ok (.iconst 1, 1) := by decide +kernel
theorem dX9_holdsStep_222 : decode cX9_holdsStep 222 = .ok (.goto 4, 3) := by decide +kernel
theorem dX9_holdsStep_225 : decode cX9_holdsStep 225 = .ok (.iconst 0, 1) := by decide +kernel
theorem dX9_holdsStep_226 : decode cX9_holdsStep 226 = .ok (.ireturn, 1) := by decide +kernel
theorem dX9_holds_0 : decode cX9_holds 0 = .ok (.iconst 0, 1) := by decide +kernel
theorem dX9_holds_1 : decode cX9_holds 1 = .ok (.istore 4, 2) := by decide +kernel
theorem dX9_holds_3 : decode cX9_holds 3 = .ok (.bipush 64, 2) := by decide +kernel
theorem dX9_holds_5 : decode cX9_holds 5 = .ok (.iload_n 1, 1) := by decide +kernel
theorem dX9_holds_6 : decode cX9_holds 6 = .ok (.imul, 1) := by decide +kernel
theorem dX9_holds_7 : decode cX9_holds 7 = .ok (.istore 5, 2) := by decide +kernel
theorem dX9_holds_9 : decode cX9_holds 9 = .ok (.iload 5, 2) := by decide +kernel
theorem dX9_holds_11 : decode cX9_holds 11 = .ok (.bipush 64, 2) := by decide +kernel
theorem dX9_holds_13 : decode cX9_holds 13 = .ok (.iload_n 1, 1) := by decide +kernel
theorem dX9_holds_14 : decode cX9_holds 14 = .ok (.imul, 1) := by decide +kernel
theorem dX9_holds_15 : decode cX9_holds 15 = .ok (.aload_n 0, 1) := by decide +kernel
theorem dX9_holds_16 : decode cX9_holds 16 = .ok (.getfield 16, 3) := by decide +kernel
theorem dX9_holds_19 : decode cX9_holds 19 = .ok (.iload_n 1, 1) := by decide +kernel
theorem dX9_holds_20 : decode cX9_holds 20 = .ok (.iaload, 1) := by decide +kernel
theorem dX9_holds_21 : decode cX9_holds 21 = .ok (.iadd, 1) := by decide +kernel
theorem dX9_holds_22 : decode cX9_holds 22 = .ok (.if_icmp .ge 156, 3) := by decide +kernel
theorem dX9_holds_25 : decode cX9_holds 25 = .ok (.aload_n 0, 1) := by decide +kernel
theorem dX9_holds_26 : decode cX9_holds 26 = .ok (.getfield 22, 3) := by decide +kernel
theorem dX9_holds_29 : decode cX9_holds 29 = .ok (.iload 5, 2) := by decide +kernel
theorem dX9_holds_31 : decode cX9_holds 31 = .ok (.iaload, 1) := by decide +kernel
theorem dX9_holds_32 : decode cX9_holds 32 = .ok (.istore 6, 2) := by decide +kernel
theorem dX9_holds_34 : decode cX9_holds 34 = .ok (.iload 6, 2) := by decide +kernel
theorem dX9_holds_36 : decode cX9_holds 36 = .ok (.iconst 5, 1) := by decide +kernel
theorem dX9_holds_37 : decode cX9_holds 37 = .ok (.if_icmp .ge 24, 3) := by decide +kernel
theorem dX9_holds_40 : decode cX9_holds 40 = .ok (.aload_n 0, 1) := by decide +kernel
theorem dX9_holds_41 : decode cX9_holds 41 = .ok (.getfield 31, 3) := by decide +kernel
theorem dX9_holds_44 : decode cX9_holds 44 = .ok (.iload 4, 2) := by decide +kernel
theorem dX9_holds_46 : decode cX9_holds 46 = .ok (.aload_n 0, 1) := by decide +kernel
theorem dX9_holds_47 : decode cX9_holds 47 = .ok (.iload 5, 2) := by decide +kernel
theorem dX9_holds_49 : decode cX9_holds 49 = .ok (.aload_n 2, 1) := by decide +kernel
theorem dX9_holds_50 : decode cX9_holds 50 = .ok (.iload_n 3, 1) := by decide +kernel
theorem dX9_holds_51 : decode cX9_holds 51 = .ok (.invokevirtual 169, 3) := by decide +kernel
theorem dX9_holds_54 : decode cX9_holds 54 = .ok (.bastore, 1) := by decide +kernel
theorem dX9_holds_55 : decode cX9_holds 55 = .ok (.iinc 4 1, 3) := by decide +kernel
theorem dX9_holds_58 : decode cX9_holds 58 = .ok (.goto 114, 3) := by decide +kernel
theorem dX9_holds_61 : decode cX9_holds 61 = .ok (.iload 6, 2) := by decide +kernel
theorem dX9_holds_63 : decode cX9_holds 63 = .ok (.iconst 5, 1) := by decide +kernel
theorem dX9_holds_64 : decode cX9_holds 64 = .ok (.if_icmp .ne 32, 3) := by decide +kernel
theorem dX9_holds_67 : decode cX9_holds 67 = .ok (.aload_n 0, 1) := by decide +kernel
theorem dX9_holds_68 : decode cX9_holds 68 = .ok (.getfield 31, 3) := by decide +kernel
theorem dX9_holds_71 : decode cX9_holds 71 = .ok (.iload 4, 2) := by decide +kernel
theorem dX9_holds_73 : decode cX9_holds 73 = .ok (.iconst 1, 1) := by decide +kernel
theorem dX9_holds_74 : decode cX9_holds 74 = .ok (.isub, 1) := by decide +kernel
theorem dX9_holds_75 : decode cX9_holds 75 = .ok (.aload_n 0, 1) := by decide +kernel
theorem dX9_holds_76 : decode cX9_holds 76 = .ok (.getfield 31, 3) := by decide +kernel
theorem dX9_holds_79 : decode cX9_holds 79 = .ok (.iload 4, 2) := by decide +kernel
theorem dX9_holds_81 : decode cX9_holds 81 = .ok (.iconst 1, 1) := by decide +kernel
theorem dX9_holds_82 : decode cX9_holds 82 = .ok (.isub, 1) := by decide +kernel
theorem dX9_holds_83 : decode cX9_holds 83 = .ok (.baload, 1) := by decide +kernel
theorem dX9_holds_84 : decode cX9_holds 84 = .ok (.ifCond .ne 7, 3) := by decide +kernel
theorem dX9_holds_87 : decode cX9_holds 87 = .ok (.iconst 1, 1) := by decide +kernel
theorem dX9_holds_88 : decode cX9_holds 88 = .ok (.goto 4, 3) := by decide +kernel
theorem dX9_holds_91 : decode cX9_holds 91 = .ok (.iconst 0, 1) := by decide +kernel
theorem dX9_holds_92 : decode cX9_holds 92 = .ok (.bastore, 1) := by decide +kernel
theorem dX9_holds_93 : decode cX9_holds 93 = .ok (.goto 79, 3) := by decide +kernel
theorem dX9_holds_96 : decode cX9_holds 96 = .ok (.iinc 4 (-1), 3) := by decide +kernel
theorem dX9_holds_99 : decode cX9_holds 99 = .ok (.aload_n 0, 1) := by decide +kernel
theorem dX9_holds_100 : decode cX9_holds 100 = .ok (.getfield 31, 3) := by decide +kernel
theorem dX9_holds_103 : decode cX9_holds 103 = .ok (.iload 4, 2) := by decide +kernel
theorem dX9_holds_105 : decode cX9_holds 105 = .ok (.iconst 1, 1) := by decide +kernel
theorem dX9_holds_106 : decode cX9_holds 106 = .ok (.isub, 1) := by decide +kernel
theorem dX9_holds_107 : decode cX9_holds 107 = .ok (.iload 6, 2) := by decide +kernel
theorem dX9_holds_109 : decode cX9_holds 109 = .ok (.bipush 6, 2) := by decide +kernel
theorem dX9_holds_111 : decode cX9_holds 111 = .ok (.if_icmp .ne 33, 3) := by decide +kernel
theorem dX9_holds_114 : decode cX9_holds 114 = .ok (.aload_n 0, 1) := by decide +kernel
theorem dX9_holds_115 : decode cX9_holds 115 = .ok (.getfield 31, 3) := by decide +kernel
theorem dX9_holds_118 : decode cX9_holds 118 = .ok (.iload 4, 2) := by decide +kernel
theorem dX9_holds_120 : decode cX9_holds 120 = .ok (.iconst 1, 1) := by decide +kernel
theorem dX9_holds_121 : decode cX9_holds 121 = .ok (.isub, 1) := by decide +kernel
theorem dX9_holds_122 : decode cX9_holds 122 = .ok (.baload, 1) := by decide +kernel
theorem dX9_holds_123 : decode cX9_holds 123 = .ok (.ifCond .eq 17, 3) := by decide +kernel
theorem dX9_holds_126 : decode cX9_holds 126 = .ok (.aload_n 0, 1) := by decide +kernel
theorem dX9_holds_127 : decode cX9_holds 127 = .ok (.getfield 31, 3) := by decide +kernel
theorem dX9_holds_130 : decode cX9_holds 130 = .ok (.iload 4, 2) := by decide +kernel
theorem dX9_holds_132 : decode cX9_holds 132 = .ok (.baload, 1) := by decide +kernel
theorem dX9_holds_133 : decode cX9_holds 133 = .ok (.ifCond .eq 7, 3) := by decide +kernel
theorem dX9_holds_136 : decode cX9_holds 136 = .ok (.iconst 1, 1) := by decide +kernel
theorem dX9_holds_137 : decode cX9_holds 137 = .ok (.goto 34, 3) := by decide +kernel
theorem dX9_holds_140 : decode cX9_holds 140 = .ok (.iconst 0, 1) := by decide +kernel
theorem dX9_holds_141 : decode cX9_holds 141 = .ok (.goto 30, 3) := by decide +kernel
theorem dX9_holds_144 : decode cX9_holds 144 = .ok (.aload_n 0, 1) := by decide +kernel
theorem dX9_holds_145 : decode cX9_holds 145 = .ok (.getfield 31, 3) := by decide +kernel
theorem dX9_holds_148 : decode cX9_holds 148 = .ok (.iload 4, 2) := by decide +kernel
theorem dX9_holds_150 : decode cX9_holds 150 = .ok (.iconst 1, 1) := by decide +kernel
theorem dX9_holds_151 : decode cX9_holds 151 = .ok (.isub, 1) := by decide +kernel
theorem dX9_holds_152 : decode cX9_holds 152 = .ok (.baload, 1) := by decide +kernel
theorem dX9_holds_153 : decode cX9_holds 153 = .ok (.ifCond .ne 13, 3) := by decide +kernel
theorem dX9_holds_156 : decode cX9_holds 156 = .ok (.aload_n 0, 1) := by decide +kernel
theorem dX9_holds_157 : decode cX9_holds 157 = .ok (.getfield 31, 3) := by decide +kernel
theorem dX9_holds_160 : decode cX9_holds 160 = .ok (.iload 4, 2) := by decide +kernel
theorem dX9_holds_162 : decode cX9_holds 162 = .ok (.baload, 1) := by decide +kernel
theorem dX9_holds_163 : decode cX9_holds 163 = .ok (.ifCond .eq 7, 3) := by decide +kernel
theorem dX9_holds_166 : decode cX9_holds 166 = .ok (.iconst 1, 1) := by decide +kernel
theorem dX9_holds_167 : decode cX9_holds 167 = .ok (.goto 4, 3) := by decide +kernel
theorem dX9_holds_170 : decode cX9_holds 170 = .ok (.iconst 0, 1) := by decide +kernel
theorem dX9_holds_171 : decode cX9_holds 171 = .ok (.bastore, 1) := by decide +kernel
theorem dX9_holds_172 : decode cX9_holds 172 = .ok (.iinc 5 1, 3) := by decide +kernel
theorem dX9_holds_175 : decode cX9_holds 175 = .ok (.goto (-166), 3) := by decide +kernel
theorem dX9_holds_178 : decode cX9_holds 178 = .ok (.iload 4, 2) := by decide +kernel
theorem dX9_holds_180 : decode cX9_holds 180 = .ok (.ifCond .le 16, 3) := by decide +kernel
theorem dX9_holds_183 : decode cX9_holds 183 = .ok (.aload_n 0, 1) := by decide +kernel
theorem dX9_holds_184 : decode cX9_holds 184 = .ok (.getfield 31, 3) := by decide +kernel
theorem dX9_holds_187 : decode cX9_holds 187 = .ok (.iconst 0, 1) := by decide +kernel
theorem dX9_holds_188 : decode cX9_holds 188 = .ok (.baload, 1) := by decide +kernel
theorem dX9_holds_189 : decode cX9_holds 189 = .ok (.ifCond .eq 7, 3) := by decide +kernel
theorem dX9_holds_192 : decode cX9_holds 192 = .ok (.iconst 1, 1) := by decide +kernel
theorem dX9_holds_193 : decode cX9_holds 193 = .ok (.goto 4, 3) := by decide +kernel
theorem dX9_holds_196 : decode cX9_holds 196 = .ok (.iconst 0, 1) := by decide +kernel
theorem dX9_holds_197 : decode cX9_holds 197 = .ok (.ireturn, 1) := by decide +kernel
theorem dX9_outcomeOf_0 : decode cX9_outcomeOf 0 = .ok (.aload_n 0, 1) := by decide +kernel
theorem dX9_outcomeOf_1 : decode cX9_outcomeOf 1 = .ok (.bipush 6, 2) := by decide +kernel
theorem dX9_outcomeOf_3 : decode cX9_outcomeOf 3 = .ok (.aload_n 1, 1) := by decide +kernel
theorem dX9_outcomeOf_4 : decode cX9_outcomeOf 4 = .ok (.iload_n 2, 1) := by decide +kernel
theorem dX9_outcomeOf_5 : decode cX9_outcomeOf 5 = .ok (.invokevirtual 173, 3) := by decide +kernel
theorem dX9_outcomeOf_8 : decode cX9_outcomeOf 8 = .ok (.ifCond .eq 7, 3) := by decide +kernel
theorem dX9_outcomeOf_11 : decode cX9_outcomeOf 11 = .ok (.iconst 1, 1) := by decide +kernel
theorem dX9_outcomeOf_12 : decode cX9_outcomeOf 12 = .ok (.goto 19, 3) := by decide +kernel
theorem dX9_outcomeOf_15 : decode cX9_outcomeOf 15 = .ok (.aload_n 0, 1) := by decide +kernel
theorem dX9_outcomeOf_16 : decode cX9_outcomeOf 16 = .ok (.bipush 7, 2) := by decide +kernel
theorem dX9_outcomeOf_18 : decode cX9_outcomeOf 18 = .ok (.aload_n 1, 1) := by decide +kernel
theorem dX9_outcomeOf_19 : decode cX9_outcomeOf 19 = .ok (.iload_n 2, 1) := by decide +kernel
theorem dX9_outcomeOf_20 : decode cX9_outcomeOf 20 = .ok (.invokevirtual 173, 3) := by decide +kernel
theorem dX9_outcomeOf_23 : decode cX9_outcomeOf 23 = .ok (.ifCond .eq 7, 3) := by decide +kernel
theorem dX9_outcomeOf_26 : decode cX9_outcomeOf 26 = .ok (.iconst 2, 1) := by decide +kernel
theorem dX9_outcomeOf_27 : decode cX9_outcomeOf 27 = .ok (.goto 4, 3) := by decide +kernel
theorem dX9_outcomeOf_30 : decode cX9_outcomeOf 30 = .ok (.iconst 0, 1) := by decide +kernel
theorem dX9_outcomeOf_31 : decode cX9_outcomeOf 31 = .ok (.ireturn, 1) := by decide +kernel
theorem dX9_outcome_0 : decode cX9_outcome 0 = .ok (.aload_n 0, 1) := by decide +kernel
theorem dX9_outcome_1 : decode cX9_outcome 1 = .ok (.aload_n 0, 1) := by decide +kernel
theorem dX9_outcome_2 : decode cX9_outcome 2 = .ok (.getfield 7, 3) := by decide +kernel
theorem dX9_outcome_5 : decode cX9_outcome 5 = .ok (.aload_n 0, 1) := by decide +kernel
theorem dX9_outcome_6 : decode cX9_outcome 6 = .ok (.getfield 145, 3) := by decide +kernel
theorem dX9_outcome_9 : decode cX9_outcome 9 = .ok (.invokevirtual 176, 3) := by decide +kernel
theorem dX9_outcome_12 : decode cX9_outcome 12 = .ok (.ireturn, 1) := by decide +kernel
theorem dX9_readRules_0 : decode cX9_readRules 0 = .ok (.iconst 0, 1) := by decide +kernel
theorem dX9_readRules_1 : decode cX9_readRules 1 = .ok (.istore_n 1, 1) := by decide +kernel
theorem dX9_readRules_2 : decode cX9_readRules 2 = .ok (.iload_n 1, 1) := by decide +kernel
theorem dX9_readRules_3 : decode cX9_readRules 3 = .ok (.bipush 6, 2) := by decide +kernel
theorem dX9_readRules_5 : decode cX9_readRules 5 = .ok (.if_icmp .ge 16, 3) := by decide +kernel
theorem dX9_readRules_8 : decode cX9_readRules 8 = .ok (.aload_n 0, 1) := by decide +kernel
theorem dX9_readRules_9 : decode cX9_readRules 9 = .ok (.getfield 44, 3) := by decide +kernel
theorem dX9_readRules_12 : decode cX9_readRules 12 = .ok (.iload_n 1, 1) := by decide +kernel
theorem dX9_readRules_13 : decode cX9_readRules 13 = .ok (.iconst (-1), 1) := by decide +kernel
theorem dX9_readRules_14 : decode cX9_readRules 14 = .ok (.iastore, 1) := by decide +kernel
theorem dX9_readRules_15 : decode cX9_readRules 15 = .ok (.iinc 1 1, 3) := by decide +kernel
theorem dX9_readRules_18 : decode cX9_readRules 18 = .ok (.goto (-16), 3) := by decide +kernel
theorem dX9_readRules_21 : decode cX9_readRules 21 = .ok (.aload_n 0, 1) := by decide +kernel
theorem dX9_readRules_22 : decode cX9_readRules 22 = .ok (.iconst 0, 1) := by decide +kernel
theorem dX9_readRules_23 : decode cX9_readRules 23 = .ok (.putfield 180, 3) := by decide +kernel
theorem dX9_readRules_26 : decode cX9_readRules 26 = .ok (.aload_n 0, 1) := by decide +kernel
theorem dX9_readRules_27 : decode cX9_readRules 27 = .ok (.iconst 0, 1) := by decide +kernel
theorem dX9_readRules_28 : decode cX9_readRules 28 = .ok (.putfield 183, 3) := by decide +kernel
theorem dX9_readRules_31 : decode cX9_readRules 31 = .ok (.aload_n 0, 1) := by decide +kernel
theorem dX9_readRules_32 : decode cX9_readRules 32 = .ok (.iconst 0, 1) := by decide +kernel
theorem dX9_readRules_33 : decode cX9_readRules 33 = .ok (.putfield 186, 3) := by decide +kernel
theorem dX9_readRules_36 : decode cX9_readRules 36 = .ok (.iconst 0, 1) := by decide +kernel
theorem dX9_readRules_37 : decode cX9_readRules 37 = .ok (.istore_n 1, 1) := by decide +kernel
theorem dX9_readRules_38 : decode cX9_readRules 38 = .ok (.iload_n 1, 1) := by decide +kernel
theorem dX9_readRules_39 : decode cX9_readRules 39 = .ok (.aload_n 0, 1) := by decide +kernel
theorem dX9_readRules_40 : decode cX9_readRules 40 = .ok (.getfield 152, 3) := by decide +kernel
theorem dX9_readRules_43 : decode cX9_readRules 43 = .ok (.if_icmp .ge 296, 3) := by decide +kernel
theorem dX9_readRules_46 : decode cX9_readRules 46 = .ok (.aload_n 0, 1) := by decide +kernel
theorem dX9_readRules_47 : decode cX9_readRules 47 = .ok (.getfield 13, 3) := by decide +kernel
theorem dX9_readRules_50 : decode cX9_readRules 50 = .ok (.iload_n 1, 1) := by decide +kernel
theorem dX9_readRules_51 : decode cX9_readRules 51 = .ok (.iaload, 1) := by decide +kernel
theorem dX9_readRules_52 : decode cX9_readRules 52 = .ok (.bipush 65, 2) := by decide +kernel
theorem dX9_readRules_54 : decode cX9_readRules 54 = .ok (.isub, 1) := by decide +kernel
theorem dX9_readRules_55 : decode cX9_readRules 55 = .ok (.istore_n 2, 1) := by decide +kernel
theorem dX9_readRules_56 : decode cX9_readRules 56 = .ok (.aload_n 0, 1) := by decide +kernel
theorem dX9_readRules_57 : decode cX9_readRules 57 = .ok (.getfield 13, 3) := by decide +kernel
theorem dX9_readRules_60 : decode cX9_readRules 60 = .ok (.iload_n 1, 1) := by decide +kernel
theorem dX9_readRules_61 : decode cX9_readRules 61 = .ok (.iaload, 1) := by decide +kernel
theorem dX9_readRules_62 : decode cX9_readRules 62 = .ok (.invokestatic 149, 3) := by decide +kernel
theorem dX9_readRules_65 : decode cX9_readRules 65 = .ok (.ifCond .eq 35, 3) := by decide +kernel
theorem dX9_readRules_68 : decode cX9_readRules 68 = .ok (.aload_n 0, 1) := by decide +kernel
theorem dX9_readRules_69 : decode cX9_readRules 69 = .ok (.getfield 44, 3) := by decide +kernel
theorem dX9_readRules_72 : decode cX9_readRules 72 = .ok (.iload_n 2, 1) := by decide +kernel
theorem dX9_readRules_73 : decode cX9_readRules 73 = .ok (.iaload, 1) := by decide +kernel
theorem dX9_readRules_74 : decode cX9_readRules 74 = .ok (.ifCond .ge 26, 3) := by decide +kernel
theorem dX9_readRules_77 : decode cX9_readRules 77 = .ok (.iload_n 1, 1) := by decide +kernel
theorem dX9_readRules_78 : decode cX9_readRules 78 = .ok (.iconst 1, 1) := by decide +kernel
theorem dX9_readRules_79 : decode cX9_readRules 79 = .ok (.iadd, 1) := by decide +kernel
theorem dX9_readRules_80 : decode cX9_readRules 80 = .ok (.aload_n 0, 1) := by decide +kernel
theorem dX9_readRules_81 : decode cX9_readRules 81 = .ok (.getfield 152, 3) := by decide +kernel
theorem dX9_readRules_84 : decode cX9_readRules 84 = .ok (.if_icmp .ge 16, 3) := by decide +kernel
theorem dX9_readRules_87 : decode cX9_readRules 87 = .ok (.aload_n 0, 1) := by decide +kernel
theorem dX9_readRules_88 : decode cX9_readRules 88 = .ok (.getfield 13, 3) := by decide +kernel
theorem dX9_readRules_91 : decode cX9_readRules 91 = .ok (.iload_n 1, 1) := by decide +kernel
theorem dX9_readRules_92 : decode cX9_readRules 92 = .ok (.iconst 1, 1) := by decide +kernel
theorem dX9_readRules_93 : decode cX9_readRules 93 = .ok (.iadd, 1) := by decide +kernel
theorem dX9_readRules_94 : decode cX9_readRules 94 = .ok (.iaload, 1) := by decide +kernel
theorem dX9_readRules_95 : decode cX9_readRules 95 = .ok (.bipush 61, 2) := by decide +kernel
theorem dX9_readRules_97 : decode cX9_readRules 97 = .ok (.if_icmp .eq 5, 3) := by decide +kernel
theorem dX9_readRules_100 : decode cX9_readRules 100 = .ok (.iconst 0, 1) := by decide +kernel
theorem dX9_readRules_101 : decode cX9_readRules 101 = .ok (.ireturn, 1) := by decide +kernel
theorem dX9_readRules_102 : decode cX9_readRules 102 = .ok (.aload_n 0, 1) := by decide +kernel
theorem dX9_readRules_103 : decode cX9_readRules 103 = .ok (.aload_n 0, 1) := by decide +kernel
theorem dX9_readRules_104 : decode cX9_readRules 104 = .ok (.getfield 180, 3) := by decide +kernel
theorem dX9_readRules_107 : decode cX9_readRules 107 = .ok (.ifCond .ne 7, 3) := by decide +kernel
theorem dX9_readRules_110 : decode cX9_readRules 110 = .ok (.iload_n 2, 1) := by decide +kernel
theorem dX9_readRules_111 : decode cX9_readRules 111 = .ok (.goto 7, 3) := by decide +kernel
theorem dX9_readRules_114 : decode cX9_readRules 114 = .ok (.aload_n 0, 1) := by decide +kernel
theorem dX9_readRules_115 : decode cX9_readRules 115 = .ok (.getfield 189, 3) := by decide +kernel
theorem dX9_readRules_118 : decode cX9_readRules 118 = .ok (.putfield 189, 3) := by decide +kernel
theorem dX9_readRules_121 : decode cX9_readRules 121 = .ok (.aload_n 0, 1) := by decide +kernel
theorem dX9_readRules_122 : decode cX9_readRules 122 = .ok (.dup, 1) := by decide +kernel
theorem dX9_readRules_123 : decode cX9_readRules 123 = .ok (.getfield 180, 3) := by decide +kernel
theorem dX9_readRules_126 : decode cX9_readRules 126 = .ok (.iconst 1, 1) := by decide +kernel
theorem dX9_readRules_127 : decode cX9_readRules 127 = .ok (.iadd, 1) := by decide +kernel
theorem dX9_readRules_128 : decode cX9_readRules 128 = .ok (.putfield 180, 3) := by decide +kernel
theorem dX9_readRules_131 : decode cX9_readRules 131 = .ok (.iinc 1 2, 3) := by decide +kernel
theorem dX9_readRules_134 : decode cX9_readRules 134 = .ok (.aload_n 0, 1) := by decide +kernel
theorem dX9_readRules_135 : decode cX9_readRules 135 = .ok (.getfield 44, 3) := by decide +kernel
theorem dX9_readRules_138 : decode cX9_readRules 138 = .ok (.iload_n 2, 1) := by decide +kernel
theorem dX9_readRules_139 : decode cX9_readRules 139 = .ok (.aload_n 0, 1) := by decide +kernel
theorem dX9_readRules_140 : decode cX9_readRules 140 = .ok (.getfield 186, 3) := by decide +kernel
theorem dX9_readRules_143 : decode cX9_readRules 143 = .ok (.iastore, 1) := by decide +kernel
theorem dX9_readRules_144 : decode cX9_readRules 144 = .ok (.aload_n 0, 1) := by decide +kernel
theorem dX9_readRules_145 : decode cX9_readRules 145 = .ok (.invokevirtual 192, 3) := by decide +kernel
theorem dX9_readRules_148 : decode cX9_readRules 148 = .ok (.iload_n 1, 1) := by decide +kernel
theorem dX9_readRules_149 : decode cX9_readRules 149 = .ok (.aload_n 0, 1) := by decide +kernel
theorem dX9_readRules_150 : decode cX9_readRules 150 = .ok (.getfield 152, 3) := by decide +kernel
theorem dX9_readRules_153 : decode cX9_readRules 153 = .ok (.if_icmp .ge 160, 3) := by decide +kernel
theorem dX9_readRules_156 : decode cX9_readRules 156 = .ok (.aload_n 0, 1) := by decide +kernel
theorem dX9_readRules_157 : decode cX9_readRules 157 = .ok (.getfield 13, 3) := by decide +kernel
theorem dX9_readRules_160 : decode cX9_readRules 160 = .ok (.iload_n 1, 1) := by decide +kernel
theorem dX9_readRules_161 : decode cX9_readRules 161 = .ok (.iaload, 1) := by decide +kernel
theorem dX9_readRules_162 : decode cX9_readRules 162 = .ok (.bipush 59, 2) := by decide +kernel
theorem dX9_readRules_164 : decode cX9_readRules 164 = .ok (.if_icmp .eq 149, 3) := by decide +kernel
theorem dX9_readRules_167 : decode cX9_readRules 167 = .ok (.aload_n 0, 1) := by decide +kernel
theorem dX9_readRules_168 : decode cX9_readRules 168 = .ok (.getfield 13, 3) := by decide +kernel
theorem dX9_readRules_171 : decode cX9_readRules 171 = .ok (.iload_n 1, 1) := by decide +kernel
theorem dX9_readRules_172 : decode cX9_readRules 172 = .ok (.iaload, 1) := by decide +kernel
theorem dX9_readRules_173 : decode cX9_readRules 173 = .ok (.istore_n 3, 1) := by decide +kernel
theorem dX9_readRules_174 : decode cX9_readRules 174 = .ok (.iinc 1 1, 3) := by decide +kernel
theorem dX9_readRules_177 : decode cX9_readRules 177 = .ok (.iload_n 3, 1) := by decide +kernel
theorem dX9_readRules_178 : decode cX9_readRules 178 = .ok (.bipush 47, 2) := by decide +kernel
theorem dX9_readRules_180 : decode cX9_readRules 180 = .ok (.if_icmp .ne 10, 3) := by decide +kernel
theorem dX9_readRules_183 : decode cX9_readRules 183 = .ok (.aload_n 0, 1) := by decide +kernel
theorem dX9_readRules_184 : decode cX9_readRules 184 = .ok (.invokevirtual 192, 3) := by decide +kernel
theorem dX9_readRules_187 : decode cX9_readRules 187 = .ok (.goto 123, 3) := by decide +kernel
theorem dX9_readRules_190 : decode cX9_readRules 190 = .ok (.iload_n 3, 1) := by decide +kernel
theorem dX9_readRules_191 : decode cX9_readRules 191 = .ok (.invokestatic 141, 3) := by decide +kernel
theorem dX9_readRules_194 : decode cX9_readRules 194 = .ok (.ifCond .ne 10, 3) := by decide +kernel
theorem dX9_readRules_197 : decode cX9_readRules 197 = .ok (.iload_n 3, 1) := by decide +kernel
theorem dX9_readRules_198 : decode cX9_readRules 198 = .ok (.invokestatic 149, 3) := by decide +kernel
theorem dX9_readRules_201 : decode cX9_readRules 201 = .ok (.ifCond .eq 107, 3) := by decide +kernel
theorem dX9_readRules_204 : decode cX9_readRules 204 = .ok (.iload_n 1, 1) := by decide +kernel
theorem dX9_readRules_205 : decode cX9_readRules 205 = .ok (.aload_n 0, 1) := by decide +kernel
theorem dX9_readRules_206 : decode cX9_readRules 206 = .ok (.getfield 152, 3) := by decide +kernel
theorem dX9_readRules_209 : decode cX9_readRules 209 = .ok (.if_icmp .ge 12, 3) := by decide +kernel
theorem dX9_readRules_212 : decode cX9_readRules 212 = .ok (.aload_n 0, 1) := by decide +kernel
theorem dX9_readRules_213 : decode cX9_readRules 213 = .ok (.getfield 13, 3) := by decide +kernel
theorem dX9_readRules_216 : decode cX9_readRules 216 = .ok (.iload_n 1, 1) := by decide +kernel
theorem dX9_readRules_217 : decode cX9_readRules 217 = .ok (.iaload, 1) := by decide +kernel
theorem dX9_readRules_218 : decode cX9_readRules 218 = .ok (.goto 4, 3) := by decide +kernel
theorem dX9_readRules_221 : decode cX9_readRules 221 = .ok (.iconst 0, 1) := by decide +kernel
theorem dX9_readRules_222 : decode cX9_readRules 222 = .ok (.istore 4, 2) := by decide +kernel
theorem dX9_readRules_224 : decode cX9_readRules 224 = .ok (.iload 4, 2) := by decide +kernel
theorem dX9_readRules_226 : decode cX9_readRules 226 = .ok (.bipush 63, 2) := by decide +kernel
theorem dX9_readRules_228 : decode cX9_readRules 228 = .ok (.if_icmp .eq 17, 3) := by decide +kernel
theorem dX9_readRules_231 : decode cX9_readRules 231 = .ok (.iload 4, 2) := by decide +kernel
theorem dX9_readRules_233 : decode cX9_readRules 233 = .ok (.bipush 42, 2) := by decide +kernel
theorem dX9_readRules_235 : decode cX9_readRules 235 = .ok (.if_icmp .eq 10, 3) := by decide +kernel
theorem dX9_readRules_238 : decode cX9_readRules 238 = .ok (.iload 4, 2) := by decide +kernel
theorem dX9_readRules_240 : decode cX9_readRules 240 = .ok (.bipush 43, 2) := by decide +kernel
theorem dX9_readRules_242 : decode cX9_readRules 242 = .ok (.if_icmp .ne 7, 3) := by decide +kernel
theorem dX9_readRules_245 : decode cX9_readRules 245 = .ok (.iconst 1, 1) := by decide +kernel
theorem dX9_readRules_246 : decode cX9_readRules 246 = .ok (.goto 4, 3) := by decide +kernel
theorem dX9_readRules_249 : decode cX9_readRules 249 = .ok (.iconst 0, 1) := by decide +kernel
theorem dX9_readRules_250 : decode cX9_readRules 250 = .ok (.istore 5, 2) := by decide +kernel
theorem dX9_readRules_252 : decode cX9_readRules 252 = .ok (.aload_n 0, 1) := by decide +kernel
theorem dX9_readRules_253 : decode cX9_readRules 253 = .ok (.getfield 35, 3) := by decide +kernel
theorem dX9_readRules_256 : decode cX9_readRules 256 = .ok (.aload_n 0, 1) := by decide +kernel
theorem dX9_readRules_257 : decode cX9_readRules 257 = .ok (.getfield 183, 3) := by decide +kernel
theorem dX9_readRules_260 : decode cX9_readRules 260 = .ok (.iload_n 3, 1) := by decide +kernel
theorem dX9_readRules_261 : decode cX9_readRules 261 = .ok (.iastore, 1) := by decide +kernel
theorem dX9_readRules_262 : decode cX9_readRules 262 = .ok (.aload_n 0, 1) := by decide +kernel
theorem dX9_readRules_263 : decode cX9_readRules 263 = .ok (.getfield 38, 3) := by decide +kernel
theorem dX9_readRules_266 : decode cX9_readRules 266 = .ok (.aload_n 0, 1) := by decide +kernel
theorem dX9_readRules_267 : decode cX9_readRules 267 = .ok (.getfield 183, 3) := by decide +kernel
theorem dX9_readRules_270 : decode cX9_readRules 270 = .ok (.iload 5, 2) := by decide +kernel
theorem dX9_readRules_272 : decode cX9_readRules 272 = .ok (.ifCond .eq 8, 3) := by decide +kernel
theorem dX9_readRules_275 : decode cX9_readRules 275 = .ok (.iload 4, 2) := by decide +kernel
theorem dX9_readRules_277 : decode cX9_readRules 277 = .ok (.goto 4, 3) := by decide +kernel
theorem dX9_readRules_280 : decode cX9_readRules 280 = .ok (.iconst 0, 1) := by decide +kernel
theorem dX9_readRules_281 : decode cX9_readRules 281 = .ok (.iastore, 1) := by decide +kernel
theorem dX9_readRules_282 : decode cX9_readRules 282 = .ok (.aload_n 0, 1) := by decide +kernel
theorem dX9_readRules_283 : decode cX9_readRules 283 = .ok (.dup, 1) := by decide +kernel
theorem dX9_readRules_284 : decode cX9_readRules 284 = .ok (.getfield 183, 3) := by decide +kernel
theorem dX9_readRules_287 : decode cX9_readRules 287 = .ok (.iconst 1, 1) := by decide +kernel
theorem dX9_readRules_288 : decode cX9_readRules 288 = .ok (.iadd, 1) := by decide +kernel
theorem dX9_readRules_289 : decode cX9_readRules 289 = .ok (.putfield 183, 3) := by decide +kernel
theorem dX9_readRules_292 : decode cX9_readRules 292 = .ok (.iload_n 1, 1) := by decide +kernel
theorem dX9_readRules_293 : decode cX9_readRules 293 = .ok (.iload 5, 2) := by decide +kernel
theorem dX9_readRules_295 : decode cX9_readRules 295 = .ok (.ifCond .eq 7, 3) := by decide +kernel
theorem dX9_readRules_298 : decode cX9_readRules 298 = .ok (.iconst 1, 1) := by decide +kernel
theorem dX9_readRules_299 : decode cX9_readRules 299 = .ok (.goto 4, 3) := by decide +kernel
theorem dX9_readRules_302 : decode cX9_readRules 302 = .ok (.iconst 0, 1) := by decide +kernel
theorem dX9_readRules_303 : decode cX9_readRules 303 = .ok (.iadd, 1) := by decide +kernel
theorem dX9_readRules_304 : decode cX9_readRules 304 = .ok (.istore_n 1, 1) := by decide +kernel
theorem dX9_readRules_305 : decode cX9_readRules 305 = .ok (.goto 5, 3) := by decide +kernel
theorem dX9_readRules_308 : decode cX9_readRules 308 = .ok (.iconst 0, 1) := by decide +kernel
theorem dX9_readRules_309 : decode cX9_readRules 309 = .ok (.ireturn, 1) := by decide +kernel
theorem dX9_readRules_310 : decode cX9_readRules 310 = .ok (.goto (-162), 3) := by decide +kernel
theorem dX9_readRules_313 : decode cX9_readRules 313 = .ok (.iload_n 1, 1) := by decide +kernel
theorem dX9_readRules_314 : decode cX9_readRules 314 = .ok (.aload_n 0, 1) := by decide +kernel
theorem dX9_readRules_315 : decode cX9_readRules 315 = .ok (.getfield 152, 3) := by decide +kernel
theorem dX9_readRules_318 : decode cX9_readRules 318 = .ok (.if_icmp .ne 5, 3) := by decide +kernel
theorem dX9_readRules_321 : decode cX9_readRules 321 = .ok (.iconst 0, 1) := by decide +kernel
theorem dX9_readRules_322 : decode cX9_readRules 322 = .ok (.ireturn, 1) := by decide +kernel
theorem dX9_readRules_323 : decode cX9_readRules 323 = .ok (.iinc 1 1, 3) := by decide +kernel
theorem dX9_readRules_326 : decode cX9_readRules 326 = .ok (.aload_n 0, 1) := by decide +kernel
theorem dX9_readRules_327 : decode cX9_readRules 327 = .ok (.getfield 47, 3) := by decide +kernel
theorem dX9_readRules_330 : decode cX9_readRules 330 = .ok (.iload_n 2, 1) := by decide +kernel
theorem dX9_readRules_331 : decode cX9_readRules 331 = .ok (.aload_n 0, 1) := by decide +kernel
theorem dX9_readRules_332 : decode cX9_readRules 332 = .ok (.getfield 186, 3) := by decide +kernel
theorem dX9_readRules_335 : decode cX9_readRules 335 = .ok (.iastore, 1) := by decide +kernel
theorem dX9_readRules_336 : decode cX9_readRules 336 = .ok (.goto (-298), 3) := by decide +kernel
theorem dX9_readRules_339 : decode cX9_readRules 339 = .ok (.aload_n 0, 1) := by decide +kernel
theorem dX9_readRules_340 : decode cX9_readRules 340 = .ok (.getfield 41, 3) := by decide +kernel
theorem dX9_readRules_343 : decode cX9_readRules 343 = .ok (.aload_n 0, 1) := by decide +kernel
theorem dX9_readRules_344 : decode cX9_readRules 344 = .ok (.getfield 186, 3) := by decide +kernel
theorem dX9_readRules_347 : decode cX9_readRules 347 = .ok (.aload_n 0, 1) := by decide +kernel
theorem dX9_readRules_348 : decode cX9_readRules 348 = .ok (.getfield 183, 3) := by decide +kernel
theorem dX9_readRules_351 : decode cX9_readRules 351 = .ok (.iastore, 1) := by decide +kernel
theorem dX9_readRules_352 : decode cX9_readRules 352 = .ok (.aload_n 0, 1) := by decide +kernel
theorem dX9_readRules_353 : decode cX9_readRules 353 = .ok (.getfield 180, 3) := by decide +kernel
theorem dX9_readRules_356 : decode cX9_readRules 356 = .ok (.ifCond .le 7, 3) := by decide +kernel
theorem dX9_readRules_359 : decode cX9_readRules 359 = .ok (.iconst 1, 1) := by decide +kernel
theorem dX9_readRules_360 : decode cX9_readRules 360 = .ok (.goto 4, 3) := by decide +kernel
theorem dX9_readRules_363 : decode cX9_readRules 363 = .ok (.iconst 0, 1) := by decide +kernel
theorem dX9_readRules_364 : decode cX9_readRules 364 = .ok (.ireturn, 1) := by decide +kernel
theorem dX9_beginAlternative_0 : decode cX9_beginAlternative 0 = .ok (.aload_n 0, 1) := by decide +kernel
theorem dX9_beginAlternative_1 : decode cX9_beginAlternative 1 = .ok (.getfield 41, 3) := by decide +kernel
theorem dX9_beginAlternative_4 : decode cX9_beginAlternative 4 = .ok (.aload_n 0, 1) := by decide +kernel
theorem dX9_beginAlternative_5 : decode cX9_beginAlternative 5 = .ok (.getfield 186, 3) := by decide +kernel
theorem dX9_beginAlternative_8 : decode cX9_beginAlternative 8 = .ok (.aload_n 0, 1) := by decide +kernel
theorem dX9_beginAlternative_9 : decode cX9_beginAlternative 9 = .ok (.getfield 183, 3) := by decide +kernel
theorem dX9_beginAlternative_12 : decode cX9_beginAlternative 12 = .ok (.iastore, 1) := by decide +kernel
theorem dX9_beginAlternative_13 : decode cX9_beginAlternative 13 = .ok (.aload_n 0, 1) := by decide +kernel
theorem dX9_beginAlternative_14 : decode cX9_beginAlternative 14 = .ok (.dup, 1) := by decide +kernel
theorem dX9_beginAlternative_15 : decode cX9_beginAlternative 15 = .ok (.getfield 186, 3) := by decide +kernel
theorem dX9_beginAlternative_18 : decode cX9_beginAlternative 18 = .ok (.iconst 1, 1) := by decide +kernel
theorem dX9_beginAlternative_19 : decode cX9_beginAlternative 19 = .ok (.iadd, 1) := by decide +kernel
theorem dX9_beginAlternative_20 : decode cX9_beginAlternative 20 = .ok (.putfield 186, 3) := by decide +kernel
theorem dX9_beginAlternative_23 : decode cX9_beginAlternative 23 = .ok (.return_, 1) := by decide +kernel
theorem dX9_areNamesThere_0 : decode cX9_areNamesThere 0 = .ok (.iconst 1, 1) := by decide +kernel
theorem dX9_areNamesThere_1 : decode cX9_areNamesThere 1 = .ok (.istore_n 1, 1) := by decide +kernel
theorem dX9_areNamesThere_2 : decode cX9_areNamesThere 2 = .ok (.iconst 0, 1) := by decide +kernel
theorem dX9_areNamesThere_3 : decode cX9_areNamesThere 3 = .ok (.istore_n 2, 1) := by decide +kernel
theorem dX9_areNamesThere_4 : decode cX9_areNamesThere 4 = .ok (.iload_n 2, 1) := by decide +kernel
theorem dX9_areNamesThere_5 : decode cX9_areNamesThere 5 = .ok (.aload_n 0, 1) := by decide +kernel
theorem dX9_areNamesThere_6 : decode cX9_areNamesThere 6 = .ok (.getfield 183, 3) := by decide +kernel
theorem dX9_areNamesThere_9 : decode cX9_areNamesThere 9 = .ok (.if_icmp .ge 48, 3) := by decide +kernel
theorem dX9_areNamesThere_12 : decode cX9_areNamesThere 12 = .ok (.iload_n 1, 1) := by decide +kernel
theorem dX9_areNamesThere_13 : decode cX9_areNamesThere 13 = .ok (.ifCond .eq 36, 3) := by decide +kernel
theorem dX9_areNamesThere_16 : decode cX9_areNamesThere 16 = .ok (.aload_n 0, 1) := by decide +kernel
theorem dX9_areNamesThere_17 : decode cX9_areNamesThere 17 = .ok (.getfield 35, 3) := by decide +kernel
theorem dX9_areNamesThere_20 : decode cX9_areNamesThere 20 = .ok (.iload_n 2, 1) := by decide +kernel
theorem dX9_areNamesThere_21 : decode cX9_areNamesThere 21 = .ok (.iaload, 1) := by decide +kernel
theorem dX9_areNamesThere_22 : decode cX9_areNamesThere 22 = .ok (.invokestatic 149, 3) := by decide +kernel
theorem dX9_areNamesThere_25 : decode cX9_areNamesThere 25 = .ok (.ifCond .eq 20, 3) := by decide +kernel
theorem dX9_areNamesThere_28 : decode cX9_areNamesThere 28 = .ok (.aload_n 0, 1) := by decide +kernel
theorem dX9_areNamesThere_29 : decode cX9_areNamesThere 29 = .ok (.getfield 44, 3) := by decide +kernel
theorem dX9_areNamesThere_32 : decode cX9_areNamesThere 32 = .ok (.aload_n 0, 1) := by decide +kernel
theorem dX9_areNamesThere_33 : decode cX9_areNamesThere 33 = .ok (.getfield 35, 3) := by decide +kernel
theorem dX9_areNamesThere_36 : decode cX9_areNamesThere 36 = .ok (.iload_n 2, 1) := by decide +kernel
theorem dX9_areNamesThere_37 : decode cX9_areNamesThere 37 = .ok (.iaload, 1) := by decide +kernel
theorem dX9_areNamesThere_38 : decode cX9_areNamesThere 38 = .ok (.bipush 65, 2) := by decide +kernel
theorem dX9_areNamesThere_40 : decode cX9_areNamesThere 40 = .ok (.isub, 1) := by decide +kernel
theorem dX9_areNamesThere_41 : decode cX9_areNamesThere 41 = .ok (.iaload, 1) := by decide +kernel
theorem dX9_areNamesThere_42 : decode cX9_areNamesThere 42 = .ok (.ifCond .lt 7, 3) := by decide +kernel
theorem dX9_areNamesThere_45 : decode cX9_areNamesThere 45 = .ok (.iconst 1, 1) := by decide +kernel
theorem dX9_areNamesThere_46 : decode cX9_areNamesThere 46 = .ok (.goto 4, 3) := by decide +kernel
theorem dX9_areNamesThere_49 : decode cX9_areNamesThere 49 = .ok (.iconst 0, 1) := by decide +kernel
theorem dX9_areNamesThere_50 : decode cX9_areNamesThere 50 = .ok (.istore_n 1, 1) := by decide +kernel
theorem dX9_areNamesThere_51 : decode cX9_areNamesThere 51 = .ok (.iinc 2 1, 3) := by decide +kernel
theorem dX9_areNamesThere_54 : decode cX9_areNamesThere 54 = .ok (.goto (-50), 3) := by decide +kernel
theorem dX9_areNamesThere_57 : decode cX9_areNamesThere 57 = .ok (.iload_n 1, 1) := by decide +kernel
theorem dX9_areNamesThere_58 : decode cX9_areNamesThere 58 = .ok (.ireturn, 1) := by decide +kernel
theorem dX9_isVoid_0 : decode cX9_isVoid 0 = .ok (.aload_n 0, 1) := by decide +kernel
theorem dX9_isVoid_1 : decode cX9_isVoid 1 = .ok (.getfield 38, 3) := by decide +kernel
theorem dX9_isVoid_4 : decode cX9_isVoid 4 = .ok (.iload_n 1, 1) := by decide +kernel
theorem dX9_isVoid_5 : decode cX9_isVoid 5 = .ok (.iaload, 1) := by decide +kernel
theorem dX9_isVoid_6 : decode cX9_isVoid 6 = .ok (.bipush 63, 2) := by decide +kernel
theorem dX9_isVoid_8 : decode cX9_isVoid 8 = .ok (.if_icmp .eq 43, 3) := by decide +kernel
theorem dX9_isVoid_11 : decode cX9_isVoid 11 = .ok (.aload_n 0, 1) := by decide +kernel
theorem dX9_isVoid_12 : decode cX9_isVoid 12 = .ok (.getfield 38, 3) := by decide +kernel
theorem dX9_isVoid_15 : decode cX9_isVoid 15 = .ok (.iload_n 1, 1) := by decide +kernel
theorem dX9_isVoid_16 : decode cX9_isVoid 16 = .ok (.iaload, 1) := by decide +kernel
theorem dX9_isVoid_17 : decode cX9_isVoid 17 = .ok (.bipush 42, 2) := by decide +kernel
theorem dX9_isVoid_19 : decode cX9_isVoid 19 = .ok (.if_icmp .eq 32, 3) := by decide +kernel
theorem dX9_isVoid_22 : decode cX9_isVoid 22 = .ok (.aload_n 0, 1) := by decide +kernel
theorem dX9_isVoid_23 : decode cX9_isVoid 23 = .ok (.getfield 35, 3) := by decide +kernel
theorem dX9_isVoid_26 : decode cX9_isVoid 26 = .ok (.iload_n 1, 1) := by decide +kernel
theorem dX9_isVoid_27 : decode cX9_isVoid 27 = .ok (.iaload, 1) := by decide +kernel
theorem dX9_isVoid_28 : decode cX9_isVoid 28 = .ok (.invokestatic 149, 3) := by decide +kernel
theorem dX9_isVoid_31 : decode cX9_isVoid 31 = .ok (.ifCond .eq 24, 3) := by decide +kernel
theorem dX9_isVoid_34 : decode cX9_isVoid 34 = .ok (.aload_n 0, 1) := by decide +kernel
theorem dX9_isVoid_35 : decode cX9_isVoid 35 = .ok (.getfield 50, 3) := by decide +kernel
theorem dX9_isVoid_38 : decode cX9_isVoid 38 = .ok (.aload_n 0, 1) := by decide +kernel
theorem dX9_isVoid_39 : decode cX9_isVoid 39 = .ok (.getfield 35, 3) := by decide +kernel
theorem dX9_isVoid_42 : decode cX9_isVoid 42 = .ok (.iload_n 1, 1) := by decide +kernel
theorem dX9_isVoid_43 : decode cX9_isVoid 43 = .ok (.iaload, 1) := by decide +kernel
theorem dX9_isVoid_44 : decode cX9_isVoid 44 = .ok (.bipush 65, 2) := by decide +kernel
theorem dX9_isVoid_46 : decode cX9_isVoid 46 = .ok (.isub, 1) := by decide +kernel
theorem dX9_isVoid_47 : decode cX9_isVoid 47 = .ok (.baload, 1) := by decide +kernel
theorem dX9_isVoid_48 : decode cX9_isVoid 48 = .ok (.ifCond .eq 7, 3) := by decide +kernel
theorem dX9_isVoid_51 : decode cX9_isVoid 51 = .ok (.iconst 1, 1) := by decide +kernel
theorem dX9_isVoid_52 : decode cX9_isVoid 52 = .ok (.goto 4, 3) := by decide +kernel
theorem dX9_isVoid_55 : decode cX9_isVoid 55 = .ok (.iconst 0, 1) := by decide +kernel
theorem dX9_isVoid_56 : decode cX9_isVoid 56 = .ok (.ireturn, 1) := by decide +kernel
theorem dX9_findEmptiable_0 : decode cX9_findEmptiable 0 = .ok (.iconst 0, 1) := by decide +kernel
theorem dX9_findEmptiable_1 : decode cX9_findEmptiable 1 = .ok (.istore_n 1, 1) := by decide +kernel
theorem dX9_findEmptiable_2 : decode cX9_findEmptiable 2 = .ok (.iload_n 1, 1) := by decide +kernel
theorem dX9_findEmptiable_3 : decode cX9_findEmptiable 3 = .ok (.bipush 6, 2) := by decide +kernel
theorem dX9_findEmptiable_5 : decode cX9_findEmptiable 5 = .ok (.if_icmp .ge 16, 3) := by decide +kernel
theorem dX9_findEmptiable_8 : decode cX9_findEmptiable 8 = .ok (.aload_n 0, 1) := by decide +kernel
theorem dX9_findEmptiable_9 : decode cX9_findEmptiable 9 = .ok (.getfield 50, 3) := by decide +kernel
theorem dX9_findEmptiable_12 : decode cX9_findEmptiable 12 = .ok (.iload_n 1, 1) := by decide +kernel
theorem dX9_findEmptiable_13 : decode cX9_findEmptiable 13 = .ok (.iconst 0, 1) := by decide +kernel
theorem dX9_findEmptiable_14 : decode cX9_findEmptiable 14 = .ok (.bastore, 1) := by decide +kernel
theorem dX9_findEmptiable_15 : decode cX9_findEmptiable 15 = .ok (.iinc 1 1, 3) := by decide +kernel
theorem dX9_findEmptiable_18 : decode cX9_findEmptiable 18 = .ok (.goto (-16), 3) := by decide +kernel
theorem dX9_findEmptiable_21 : decode cX9_findEmptiable 21 = .ok (.iconst 0, 1) := by decide +kernel
theorem dX9_findEmptiable_22 : decode cX9_findEmptiable 22 = .ok (.istore_n 1, 1) := by decide +kernel
theorem dX9_findEmptiable_23 : decode cX9_findEmptiable 23 = .ok (.iload_n 1, 1) := by decide +kernel
theorem dX9_findEmptiable_24 : decode cX9_findEmptiable 24 = .ok (.bipush 6, 2) := by decide +kernel
theorem dX9_findEmptiable_26 : decode cX9_findEmptiable 26 = .ok (.if_icmp .ge 126, 3) := by decide +kernel
theorem dX9_findEmptiable_29 : decode cX9_findEmptiable 29 = .ok (.iconst 0, 1) := by decide +kernel
theorem dX9_findEmptiable_30 : decode cX9_findEmptiable 30 = .ok (.istore_n 2, 1) := by decide +kernel
theorem dX9_findEmptiable_31 : decode cX9_findEmptiable 31 = .ok (.iload_n 2, 1) := by decide +kernel
theorem dX9_findEmptiable_32 : decode cX9_findEmptiable 32 = .ok (.bipush 6, 2) := by decide +kernel
theorem dX9_findEmptiable_34 : decode cX9_findEmptiable 34 = .ok (.if_icmp .ge 112, 3) := by decide +kernel
theorem dX9_findEmptiable_37 : decode cX9_findEmptiable 37 = .ok (.aload_n 0, 1) := by decide +kernel
theorem dX9_findEmptiable_38 : decode cX9_findEmptiable 38 = .ok (.getfield 44, 3) := by decide +kernel
theorem dX9_findEmptiable_41 : decode cX9_findEmptiable 41 = .ok (.iload_n 2, 1) := by decide +kernel
theorem dX9_findEmptiable_42 : decode cX9_findEmptiable 42 = .ok (.iaload, 1) := by decide +kernel
theorem dX9_findEmptiable_43 : decode cX9_findEmptiable 43 = .ok (.istore_n 3, 1) := by decide +kernel
theorem dX9_findEmptiable_44 : decode cX9_findEmptiable 44 = .ok (.iload_n 3, 1) := by decide +kernel
theorem dX9_findEmptiable_45 : decode cX9_findEmptiable 45 = .ok (.ifCond .lt 95, 3) := by decide +kernel
theorem dX9_findEmptiable_48 : decode cX9_findEmptiable 48 = .ok (.iload_n 3, 1) := by decide +kernel
theorem dX9_findEmptiable_49 : decode cX9_findEmptiable 49 = .ok (.aload_n 0, 1) := by decide +kernel
theorem dX9_findEmptiable_50 : decode cX9_findEmptiable 50 = .ok (.getfield 47, 3) := by decide +kernel
theorem dX9_findEmptiable_53 : decode cX9_findEmptiable 53 = .ok (.iload_n 2, 1) := by decide +kernel
theorem dX9_findEmptiable_54 : decode cX9_findEmptiable 54 = .ok (.iaload, 1) := by decide +kernel
theorem dX9_findEmptiable_55 : decode cX9_findEmptiable 55 = .ok (.if_icmp .ge 85, 3) := by decide +kernel
theorem dX9_findEmptiable_58 : decode cX9_findEmptiable 58 = .ok (.iconst 1, 1) := by decide +kernel
theorem dX9_findEmptiable_59 : decode cX9_findEmptiable 59 = .ok (.istore 4, 2) := by decide +kernel
theorem dX9_findEmptiable_61 : decode cX9_findEmptiable 61 = .ok (.aload_n 0, 1) := by decide +kernel
theorem dX9_findEmptiable_62 : decode cX9_findEmptiable 62 = .ok (.getfield 41, 3) := by decide +kernel
theorem dX9_findEmptiable_65 : decode cX9_findEmptiable 65 = .ok (.iload_n 3, 1) := by decide +kernel
theorem dX9_findEmptiable_66 : decode cX9_findEmptiable 66 = .ok (.iaload, 1) := by decide +kernel
theorem dX9_findEmptiable_67 : decode cX9_findEmptiable 67 = .ok (.istore 5, 2) := by decide +kernel
theorem dX9_findEmptiable_69 : decode cX9_findEmptiable 69 = .ok (.iload 5, 2) := by decide +kernel
theorem dX9_findEmptiable_71 : decode cX9_findEmptiable 71 = .ok (.aload_n 0, 1) := by decide +kernel
theorem dX9_findEmptiable_72 : decode cX9_findEmptiable 72 = .ok (.getfield 41, 3) := by decide +kernel
theorem dX9_findEmptiable_75 : decode cX9_findEmptiable 75 = .ok (.iload_n 3, 1) := by decide +kernel
theorem dX9_findEmptiable_76 : decode cX9_findEmptiable 76 = .ok (.iconst 1, 1) := by decide +kernel
theorem dX9_findEmptiable_77 : decode cX9_findEmptiable 77 = .ok (.iadd, 1) := by decide +kernel
theorem dX9_findEmptiable_78 : decode cX9_findEmptiable 78 = .ok (.iaload, 1) := by decide +kernel
theorem dX9_findEmptiable_79 : decode cX9_findEmptiable 79 = .ok (.if_icmp .ge 30, 3) := by decide +kernel
theorem dX9_findEmptiable_82 : decode cX9_findEmptiable 82 = .ok (.iload 4, 2) := by decide +kernel
theorem dX9_findEmptiable_84 : decode cX9_findEmptiable 84 = .ok (.ifCond .eq 16, 3) := by decide +kernel
theorem dX9_findEmptiable_87 : decode cX9_findEmptiable 87 = .ok (.aload_n 0, 1) := by decide +kernel
theorem dX9_findEmptiable_88 : decode cX9_findEmptiable 88 = .ok (.iload 5, 2) := by decide +kernel
theorem dX9_findEmptiable_90 : decode cX9_findEmptiable 90 = .ok (.invokevirtual 195, 3) := by decide +kernel
theorem dX9_findEmptiable_93 : decode cX9_findEmptiable 93 = .ok (.ifCond .eq 7, 3) := by decide +kernel
theorem dX9_findEmptiable_96 : decode cX9_findEmptiable 96 = .ok (.iconst 1, 1) := by decide +kernel
theorem dX9_findEmptiable_97 : decode cX9_findEmptiable 97 = .ok (.goto 4, 3) := by decide +kernel
theorem dX9_findEmptiable_100 : decode cX9_findEmptiable 100 = .ok (.iconst 0, 1) := by decide +kernel
theorem dX9_findEmptiable_101 : decode cX9_findEmptiable 101 = .ok (.istore 4, 2) := by decide +kernel
theorem dX9_findEmptiable_103 : decode cX9_findEmptiable 103 = .ok (.iinc 5 1, 3) := by decide +kernel
theorem dX9_findEmptiable_106 : decode cX9_findEmptiable 106 = .ok (.goto (-37), 3) := by decide +kernel
theorem dX9_findEmptiable_109 : decode cX9_findEmptiable 109 = .ok (.aload_n 0, 1) := by decide +kernel
theorem dX9_findEmptiable_110 : decode cX9_findEmptiable 110 = .ok (.getfield 50, 3) := by decide +kernel
theorem dX9_findEmptiable_113 : decode cX9_findEmptiable 113 = .ok (.iload_n 2, 1) := by decide +kernel
theorem dX9_findEmptiable_114 : decode cX9_findEmptiable 114 = .ok (.aload_n 0, 1) := by decide +kernel
theorem dX9_findEmptiable_115 : decode cX9_findEmptiable 115 = .ok (.getfield 50, 3) := by decide +kernel
theorem dX9_findEmptiable_118 : decode cX9_findEmptiable 118 = .ok (.iload_n 2, 1) := by decide +kernel
theorem dX9_findEmptiable_119 : decode cX9_findEmptiable 119 = .ok (.baload, 1) := by decide +kernel
theorem dX9_findEmptiable_120 : decode cX9_findEmptiable 120 = .ok (.ifCond .ne 8, 3) := by decide +kernel
theorem dX9_findEmptiable_123 : decode cX9_findEmptiable 123 = .ok (.iload 4, 2) := by decide +kernel
theorem dX9_findEmptiable_125 : decode cX9_findEmptiable 125 = .ok (.ifCond .eq 7, 3) := by decide +kernel
theorem dX9_findEmptiable_128 : decode cX9_findEmptiable 128 = .ok (.iconst 1, 1) := by decide +kernel
theorem dX9_findEmptiable_129 : decode cX9_findEmptiable 129 = .ok (.goto 4, 3) := by decide +kernel
theorem dX9_findEmptiable_132 : decode cX9_findEmptiable 132 = .ok (.iconst 0, 1) := by decide +kernel
theorem dX9_findEmptiable_133 : decode cX9_findEmptiable 133 = .ok (.bastore, 1) := by decide +kernel
theorem dX9_findEmptiable_134 : decode cX9_findEmptiable 134 = .ok (.iinc 3 1, 3) := by decide +kernel
theorem dX9_findEmptiable_137 : decode cX9_findEmptiable 137 = .ok (.goto (-93), 3) := by decide +kernel
theorem dX9_findEmptiable_140 : decode cX9_findEmptiable 140 = .ok (.iinc 2 1, 3) := by decide +kernel
theorem dX9_findEmptiable_143 : decode cX9_findEmptiable 143 = .ok (.goto (-112), 3) := by decide +kernel
theorem dX9_findEmptiable_146 : decode cX9_findEmptiable 146 = .ok (.iinc 1 1, 3) := by decide +kernel
theorem dX9_findEmptiable_149 : decode cX9_findEmptiable 149 = .ok (.goto (-126), 3) := by decide +kernel
theorem dX9_findEmptiable_152 : decode cX9_findEmptiable 152 = .ok (.return_, 1) := by decide +kernel
theorem dX9_findLeads_0 : decode cX9_findLeads 0 = .ok (.iconst 0, 1) := by decide +kernel
theorem dX9_findLeads_1 : decode cX9_findLeads 1 = .ok (.istore_n 1, 1) := by decide +kernel
theorem dX9_findLeads_2 : decode cX9_findLeads 2 = .ok (.iload_n 1, 1) := by decide +kernel
theorem dX9_findLeads_3 : decode cX9_findLeads 3 = .ok (.bipush 36, 2) := by decide +kernel
theorem dX9_findLeads_5 : decode cX9_findLeads 5 = .ok (.if_icmp .ge 16, 3) := by decide +kernel
theorem dX9_findLeads_8 : decode cX9_findLeads 8 = .ok (.aload_n 0, 1) := by decide +kernel
theorem dX9_findLeads_9 : decode cX9_findLeads 9 = .ok (.getfield 53, 3) := by decide +kernel
theorem dX9_findLeads_12 : decode cX9_findLeads 12 = .ok (.iload_n 1, 1) := by decide +kernel
theorem dX9_findLeads_13 : decode cX9_findLeads 13 = .ok (.iconst 0, 1) := by decide +kernel
theorem dX9_findLeads_14 : decode cX9_findLeads 14 = .ok (.bastore, 1) := by decide +kernel
theorem dX9_findLeads_15 : decode cX9_findLeads 15 = .ok (.iinc 1 1, 3) := by decide +kernel
theorem dX9_findLeads_18 : decode cX9_findLeads 18 = .ok (.goto (-16), 3) := by decide +kernel
theorem dX9_findLeads_21 : decode cX9_findLeads 21 = .ok (.iconst 0, 1) := by decide +kernel
theorem dX9_findLeads_22 : decode cX9_findLeads 22 = .ok (.istore_n 1, 1) := by decide +kernel
theorem dX9_findLeads_23 : decode cX9_findLeads 23 = .ok (.iload_n 1, 1) := by decide +kernel
theorem dX9_findLeads_24 : decode cX9_findLeads 24 = .ok (.bipush 6, 2) := by decide +kernel
theorem dX9_findLeads_26 : decode cX9_findLeads 26 = .ok (.if_icmp .ge 122, 3) := by decide +kernel
theorem dX9_findLeads_29 : decode cX9_findLeads 29 = .ok (.aload_n 0, 1) := by decide +kernel
theorem dX9_findLeads_30 : decode cX9_findLeads 30 = .ok (.getfield 44, 3) := by decide +kernel
theorem dX9_findLeads_33 : decode cX9_findLeads 33 = .ok (.iload_n 1, 1) := by decide +kernel
theorem dX9_findLeads_34 : decode cX9_findLeads 34 = .ok (.iaload, 1) := by decide +kernel
theorem dX9_findLeads_35 : decode cX9_findLeads 35 = .ok (.istore_n 2, 1) := by decide +kernel
theorem dX9_findLeads_36 : decode cX9_findLeads 36 = .ok (.iload_n 2, 1) := by decide +kernel
theorem dX9_findLeads_37 : decode cX9_findLeads 37 = .ok (.ifCond .lt 105, 3) := by decide +kernel
theorem dX9_findLeads_40 : decode cX9_findLeads 40 = .ok (.iload_n 2, 1) := by decide +kernel
theorem dX9_findLeads_41 : decode cX9_findLeads 41 = .ok (.aload_n 0, 1) := by decide +kernel
theorem dX9_findLeads_42 : decode cX9_findLeads 42 = .ok (.getfield 47, 3) := by decide +kernel
theorem dX9_findLeads_45 : decode cX9_findLeads 45 = .ok (.iload_n 1, 1) := by decide +kernel
theorem dX9_findLeads_46 : decode cX9_findLeads 46 = .ok (.iaload, 1) := by decide +kernel
theorem dX9_findLeads_47 : decode cX9_findLeads 47 = .ok (.if_icmp .ge 95, 3) := by decide +kernel
theorem dX9_findLeads_50 : decode cX9_findLeads 50 = .ok (.iconst 1, 1) := by decide +kernel
theorem dX9_findLeads_51 : decode cX9_findLeads 51 = .ok (.istore_n 3, 1) := by decide +kernel
theorem dX9_findLeads_52 : decode cX9_findLeads 52 = .ok (.aload_n 0, 1) := by decide +kernel
theorem dX9_findLeads_53 : decode cX9_findLeads 53 = .ok (.getfield 41, 3) := by decide +kernel
theorem dX9_findLeads_56 : decode cX9_findLeads 56 = .ok (.iload_n 2, 1) := by decide +kernel
theorem dX9_findLeads_57 : decode cX9_findLeads 57 = .ok (.iaload, 1) := by decide +kernel
theorem dX9_findLeads_58 : decode cX9_findLeads 58 = .ok (.istore 4, 2) := by decide +kernel
theorem dX9_findLeads_60 : decode cX9_findLeads 60 = .ok (.iload 4, 2) := by decide +kernel
theorem dX9_findLeads_62 : decode cX9_findLeads 62 = .ok (.aload_n 0, 1) := by decide +kernel
theorem dX9_findLeads_63 : decode cX9_findLeads 63 = .ok (.getfield 41, 3) := by decide +kernel
theorem dX9_findLeads_66 : decode cX9_findLeads 66 = .ok (.iload_n 2, 1) := by decide +kernel
theorem dX9_findLeads_67 : decode cX9_findLeads 67 = .ok (.iconst 1, 1) := by decide +kernel
theorem dX9_findLeads_68 : decode cX9_findLeads 68 = .ok (.iadd, 1) := by decide +kernel
theorem dX9_findLeads_69 : decode cX9_findLeads 69 = .ok (.iaload, 1) := by decide +kernel
theorem dX9_findLeads_70 : decode cX9_findLeads 70 = .ok (.if_icmp .ge 66, 3) := by decide +kernel
theorem dX9_findLeads_73 : decode cX9_findLeads 73 = .ok (.iload_n 3, 1) := by decide +kernel
theorem dX9_findLeads_74 : decode cX9_findLeads 74 = .ok (.ifCond .eq 37, 3) := by decide +kernel
theorem dX9_findLeads_77 : decode cX9_findLeads 77 = .ok (.aload_n 0, 1) := by decide +kernel
theorem dX9_findLeads_78 : decode cX9_findLeads 78 = .ok (.getfield 35, 3) := by decide +kernel
theorem dX9_findLeads_81 : decode cX9_findLeads 81 = .ok (.iload 4, 2) := by decide +kernel
theorem dX9_findLeads_83 : decode cX9_findLeads 83 = .ok (.iaload, 1) := by decide +kernel
theorem dX9_findLeads_84 : decode cX9_findLeads 84 = .ok (.invokestatic 149, 3) := by decide +kernel
theorem dX9_findLeads_87 : decode cX9_findLeads 87 = .ok (.ifCond .eq 24, 3) := by decide +kernel
theorem dX9_findLeads_90 : decode cX9_findLeads 90 = .ok (.aload_n 0, 1) := by decide +kernel
theorem dX9_findLeads_91 : decode cX9_findLeads 91 = .ok (.getfield 53, 3) := by decide +kernel
theorem dX9_findLeads_94 : decode cX9_findLeads 94 = .ok (.bipush 6, 2) := by decide +kernel
theorem dX9_findLeads_96 : decode cX9_findLeads 96 = .ok (.iload_n 1, 1) := by decide +kernel
theorem dX9_findLeads_97 : decode cX9_findLeads 97 = .ok (.imul, 1) := by decide +kernel
theorem dX9_findLeads_98 : decode cX9_findLeads 98 = .ok (.aload_n 0, 1) := by decide +kernel
theorem dX9_findLeads_99 : decode cX9_findLeads 99 = .ok (.getfield 35, 3) := by decide +kernel
theorem dX9_findLeads_102 : decode cX9_findLeads 102 = .ok (.iload 4, 2) := by decide +kernel
theorem dX9_findLeads_104 : decode cX9_findLeads 104 = .ok (.iaload, 1) := by decide +kernel
theorem dX9_findLeads_105 : decode cX9_findLeads 105 = .ok (.iadd, 1) := by decide +kernel
theorem dX9_findLeads_106 : decode cX9_findLeads 106 = .ok (.bipush 65, 2) := by decide +kernel
theorem dX9_findLeads_108 : decode cX9_findLeads 108 = .ok (.isub, 1) := by decide +kernel
theorem dX9_findLeads_109 : decode cX9_findLeads 109 = .ok (.iconst 1, 1) := by decide +kernel
theorem dX9_findLeads_110 : decode cX9_findLeads 110 = .ok (.bastore, 1) := by decide +kernel
theorem dX9_findLeads_111 : decode cX9_findLeads 111 = .ok (.iload_n 3, 1) := by decide +kernel
theorem dX9_findLeads_112 : decode cX9_findLeads 112 = .ok (.ifCond .eq 16, 3) := by decide +kernel
theorem dX9_findLeads_115 : decode cX9_findLeads 115 = .ok (.aload_n 0, 1) := by decide +kernel
theorem dX9_findLeads_116 : decode cX9_findLeads 116 = .ok (.iload 4, 2) := by decide +kernel
theorem dX9_findLeads_118 : decode cX9_findLeads 118 = .ok (.invokevirtual 195, 3) := by decide +kernel
theorem dX9_findLeads_121 : decode cX9_findLeads 121 = .ok (.ifCond .eq 7, 3) := by decide +kernel
theorem dX9_findLeads_124 : decode cX9_findLeads 124 = .ok (.iconst 1, 1) := by decide +kernel
theorem dX9_findLeads_125 : decode cX9_findLeads 125 = .ok (.goto 4, 3) := by decide +kernel
theorem dX9_findLeads_128 : decode cX9_findLeads 128 = .ok (.iconst 0, 1) := by decide +kernel
theorem dX9_findLeads_129 : decode cX9_findLeads 129 = .ok (.istore_n 3, 1) := by decide +kernel
theorem dX9_findLeads_130 : decode cX9_findLeads 130 = .ok (.iinc 4 1, 3) := by decide +kernel
theorem dX9_findLeads_133 : decode cX9_findLeads 133 = .ok (.goto (-73), 3) := by decide +kernel
theorem dX9_findLeads_136 : decode cX9_findLeads 136 = .ok (.iinc 2 1, 3) := by decide +kernel
theorem dX9_findLeads_139 : decode cX9_findLeads 139 = .ok (.goto (-103), 3) := by decide +kernel
theorem dX9_findLeads_142 : decode cX9_findLeads 142 = .ok (.iinc 1 1, 3) := by decide +kernel
theorem dX9_findLeads_145 : decode cX9_findLeads 145 = .ok (.goto (-122), 3) := by decide +kernel
theorem dX9_findLeads_148 : decode cX9_findLeads 148 = .ok (.return_, 1) := by decide +kernel
theorem dX9_findOrder_0 : decode cX9_findOrder 0 = .ok (.iconst 0, 1) := by decide +kernel
theorem dX9_findOrder_1 : decode cX9_findOrder 1 = .ok (.istore_n 1, 1) := by decide +kernel
theorem dX9_findOrder_2 : decode cX9_findOrder 2 = .ok (.aload_n 0, 1) := by decide +kernel
theorem dX9_findOrder_3 : decode cX9_findOrder 3 = .ok (.invokevirtual 198, 3) := by decide +kernel
theorem dX9_findOrder_6 : decode cX9_findOrder 6 = .ok (.iconst 0, 1) := by decide +kernel
theorem dX9_findOrder_7 : decode cX9_findOrder 7 = .ok (.istore_n 2, 1) := by decide +kernel
theorem dX9_findOrder_8 : decode cX9_findOrder 8 = .ok (.iload_n 2, 1) := by decide +kernel
theorem dX9_findOrder_9 : decode cX9_findOrder 9 = .ok (.bipush 6, 2) := by decide +kernel
theorem dX9_findOrder_11 : decode cX9_findOrder 11 = .ok (.if_icmp .ge 123, 3) := by decide +kernel
theorem dX9_findOrder_14 : decode cX9_findOrder 14 = .ok (.iconst 0, 1) := by decide +kernel
theorem dX9_findOrder_15 : decode cX9_findOrder 15 = .ok (.istore_n 3, 1) := by decide +kernel
theorem dX9_findOrder_16 : decode cX9_findOrder 16 = .ok (.iload_n 3, 1) := by decide +kernel
theorem dX9_findOrder_17 : decode cX9_findOrder 17 = .ok (.bipush 6, 2) := by decide +kernel
theorem dX9_findOrder_19 : decode cX9_findOrder 19 = .ok (.if_icmp .ge 109, 3) := by decide +kernel
theorem dX9_findOrder_22 : decode cX9_findOrder 22 = .ok (.aload_n 0, 1) := by decide +kernel
theorem dX9_findOrder_23 : decode cX9_findOrder 23 = .ok (.getfield 44, 3) := by decide +kernel
theorem dX9_findOrder_26 : decode cX9_findOrder 26 = .ok (.iload_n 3, 1) := by decide +kernel
theorem dX9_findOrder_27 : decode cX9_findOrder 27 = .ok (.iaload, 1) := by decide +kernel
theorem dX9_findOrder_28 : decode cX9_findOrder 28 = .ok (.ifCond .lt 16, 3) := by decide +kernel
theorem dX9_findOrder_31 : decode cX9_findOrder 31 = .ok (.aload_n 0, 1) := by decide +kernel
theorem dX9_findOrder_32 : decode cX9_findOrder 32 = .ok (.getfield 123, 3) := by decide +kernel
theorem dX9_findOrder_35 : decode cX9_findOrder 35 = .ok (.iload_n 3, 1) := by decide +kernel
theorem dX9_findOrder_36 : decode cX9_findOrder 36 = .ok (.baload, 1) := by decide +kernel
theorem dX9_findOrder_37 : decode cX9_findOrder 37 = .ok (.ifCond .ne 7, 3) := by decide +kernel
theorem dX9_findOrder_40 : decode cX9_findOrder 40 = .ok (.iconst 1, 1) := by decide +kernel
theorem dX9_findOrder_41 : decode cX9_findOrder 41 = .ok (.goto 4, 3) := by decide +kernel
theorem dX9_findOrder_44 : decode cX9_findOrder 44 = .ok (.iconst 0, 1) := by decide +kernel
theorem dX9_findOrder_45 : decode cX9_findOrder 45 = .ok (.istore 4, 2) := by decide +kernel
theorem dX9_findOrder_47 : decode cX9_findOrder 47 = .ok (.iconst 0, 1) := by decide +kernel
theorem dX9_findOrder_48 : decode cX9_findOrder 48 = .ok (.istore 5, 2) := by decide +kernel
theorem dX9_findOrder_50 : decode cX9_findOrder 50 = .ok (.iload 5, 2) := by decide +kernel
theorem dX9_findOrder_52 : decode cX9_findOrder 52 = .ok (.bipush 6, 2) := by decide +kernel
theorem dX9_findOrder_54 : decode cX9_findOrder 54 = .ok (.if_icmp .ge 46, 3) := by decide +kernel
theorem dX9_findOrder_57 : decode cX9_findOrder 57 = .ok (.iload 4, 2) := by decide +kernel
theorem dX9_findOrder_59 : decode cX9_findOrder 59 = .ok (.ifCond .eq 32, 3) := by decide +kernel
theorem dX9_findOrder_62 : decode cX9_findOrder 62 = .ok (.aload_n 0, 1) := by decide +kernel
theorem dX9_findOrder_63 : decode cX9_findOrder 63 = .ok (.getfield 53, 3) := by decide +kernel
theorem dX9_findOrder_66 : decode cX9_findOrder 66 = .ok (.bipush 6, 2) := by decide +kernel
theorem dX9_findOrder_68 : decode cX9_findOrder 68 = .ok (.iload_n 3, 1) := by decide +kernel
theorem dX9_findOrder_69 : decode cX9_findOrder 69 = .ok (.imul, 1) := by decide +kernel
theorem dX9_findOrder_70 : decode cX9_findOrder 70 = .ok (.iload 5, 2) := by decide +kernel
theorem dX9_findOrder_72 : decode cX9_findOrder 72 = .ok (.iadd, 1) := by decide +kernel
theorem dX9_findOrder_73 : decode cX9_findOrder 73 = .ok (.baload, 1) := by decide +kernel
theorem dX9_findOrder_74 : decode cX9_findOrder 74 = .ok (.ifCond .eq 13, 3) := by decide +kernel
theorem dX9_findOrder_77 : decode cX9_findOrder 77 = .ok (.aload_n 0, 1) := by decide +kernel
theorem dX9_findOrder_78 : decode cX9_findOrder 78 = .ok (.getfield 123, 3) := by decide +kernel
theorem dX9_findOrder_81 : decode cX9_findOrder 81 = .ok (.iload 5, 2) := by decide +kernel
theorem dX9_findOrder_83 : decode cX9_findOrder 83 = .ok (.baload, 1) := by decide +kernel
theorem dX9_findOrder_84 : decode cX9_findOrder 84 = .ok (.ifCond .eq 7, 3) := by decide +kernel
theorem dX9_findOrder_87 : decode cX9_findOrder 87 = .ok (.iconst 1, 1) := by decide +kernel
theorem dX9_findOrder_88 : decode cX9_findOrder 88 = .ok (.goto 4, 3) := by decide +kernel
theorem dX9_findOrder_91 : decode cX9_findOrder 91 = .ok (.iconst 0, 1) := by decide +kernel
theorem dX9_findOrder_92 : decode cX9_findOrder 92 = .ok (.istore 4, 2) := by decide +kernel
theorem dX9_findOrder_94 : decode cX9_findOrder 94 = .ok (.iinc 5 1, 3) := by decide +kernel
theorem dX9_findOrder_97 : decode cX9_findOrder 97 = .ok (.goto (-47), 3) := by decide +kernel
theorem dX9_findOrder_100 : decode cX9_findOrder 100 = .ok (.iload 4, 2) := by decide +kernel
theorem dX9_findOrder_102 : decode cX9_findOrder 102 = .ok (.ifCond .eq 20, 3) := by decide +kernel
theorem dX9_findOrder_105 : decode cX9_findOrder 105 = .ok (.aload_n 0, 1) := by decide +kernel
theorem dX9_findOrder_106 : decode cX9_findOrder 106 = .ok (.getfield 123, 3) := by decide +kernel
theorem dX9_findOrder_109 : decode cX9_findOrder 109 = .ok (.iload_n 3, 1) := by decide +kernel
theorem dX9_findOrder_110 : decode cX9_findOrder 110 = .ok (.iconst 1, 1) := by decide +kernel
theorem dX9_findOrder_111 : decode cX9_findOrder 111 = .ok (.bastore, 1) := by decide +kernel
theorem dX9_findOrder_112 : decode cX9_findOrder 112 = .ok (.aload_n 0, 1) := by decide +kernel
theorem dX9_findOrder_113 : decode cX9_findOrder 113 = .ok (.getfield 56, 3) := by decide +kernel
theorem dX9_findOrder_116 : decode cX9_findOrder 116 = .ok (.iload_n 1, 1) := by decide +kernel
theorem dX9_findOrder_117 : decode cX9_findOrder 117 = .ok (.iload_n 3, 1) := by decide +kernel
theorem dX9_findOrder_118 : decode cX9_findOrder 118 = .ok (.iastore, 1) := by decide +kernel
theorem dX9_findOrder_119 : decode cX9_findOrder 119 = .ok (.iinc 1 1, 3) := by decide +kernel
theorem dX9_findOrder_122 : decode cX9_findOrder 122 = .ok (.iinc 3 1, 3) := by decide +kernel
theorem dX9_findOrder_125 : decode cX9_findOrder 125 = .ok (.goto (-109), 3) := by decide +kernel
theorem dX9_findOrder_128 : decode cX9_findOrder 128 = .ok (.iinc 2 1, 3) := by decide +kernel
theorem dX9_findOrder_131 : decode cX9_findOrder 131 = .ok (.goto (-123), 3) := by decide +kernel
theorem dX9_findOrder_134 : decode cX9_findOrder 134 = .ok (.iload_n 1, 1) := by decide +kernel
theorem dX9_findOrder_135 : decode cX9_findOrder 135 = .ok (.aload_n 0, 1) := by decide +kernel
theorem dX9_findOrder_136 : decode cX9_findOrder 136 = .ok (.getfield 180, 3) := by decide +kernel
theorem dX9_findOrder_139 : decode cX9_findOrder 139 = .ok (.if_icmp .ne 7, 3) := by decide +kernel
theorem dX9_findOrder_142 : decode cX9_findOrder 142 = .ok (.iconst 1, 1) := by decide +kernel
theorem dX9_findOrder_143 : decode cX9_findOrder 143 = .ok (.goto 4, 3) := by decide +kernel
theorem dX9_findOrder_146 : decode cX9_findOrder 146 = .ok (.iconst 0, 1) := by decide +kernel
theorem dX9_findOrder_147 : decode cX9_findOrder 147 = .ok (.ireturn, 1) := by decide +kernel
theorem dX9_clearDone_0 : decode cX9_clearDone 0 = .ok (.iconst 0, 1) := by decide +kernel
theorem dX9_clearDone_1 : decode cX9_clearDone 1 = .ok (.istore_n 1, 1) := by decide +kernel
theorem dX9_clearDone_2 : decode cX9_clearDone 2 = .ok (.iload_n 1, 1) := by decide +kernel
theorem dX9_clearDone_3 : decode cX9_clearDone 3 = .ok (.bipush 6, 2) := by decide +kernel
theorem dX9_clearDone_5 : decode cX9_clearDone 5 = .ok (.if_icmp .ge 16, 3) := by decide +kernel
theorem dX9_clearDone_8 : decode cX9_clearDone 8 = .ok (.aload_n 0, 1) := by decide +kernel
theorem dX9_clearDone_9 : decode cX9_clearDone 9 = .ok (.getfield 123, 3) := by decide +kernel
theorem dX9_clearDone_12 : decode cX9_clearDone 12 = .ok (.iload_n 1, 1) := by decide +kernel
theorem dX9_clearDone_13 : decode cX9_clearDone 13 = .ok (.iconst 0, 1) := by decide +kernel
theorem dX9_clearDone_14 : decode cX9_clearDone 14 = .ok (.bastore, 1) := by decide +kernel
theorem dX9_clearDone_15 : decode cX9_clearDone 15 = .ok (.iinc 1 1, 3) := by decide +kernel
theorem dX9_clearDone_18 : decode cX9_clearDone 18 = .ok (.goto (-16), 3) := by decide +kernel
theorem dX9_clearDone_21 : decode cX9_clearDone 21 = .ok (.return_, 1) := by decide +kernel
theorem dX9_read_0 : decode cX9_read 0 = .ok (.aload_n 0, 1) := by decide +kernel
theorem dX9_read_1 : decode cX9_read 1 = .ok (.iconst 0, 1) := by decide +kernel
theorem dX9_read_2 : decode cX9_read 2 = .ok (.putfield 201, 3) := by decide +kernel
theorem dX9_read_5 : decode cX9_read 5 = .ok (.aload_n 0, 1) := by decide +kernel
theorem dX9_read_6 : decode cX9_read 6 = .ok (.invokevirtual 204, 3) := by decide +kernel
theorem dX9_read_9 : decode cX9_read 9 = .ok (.ifCond .eq 14, 3) := by decide +kernel
theorem dX9_read_12 : decode cX9_read 12 = .ok (.aload_n 0, 1) := by decide +kernel
theorem dX9_read_13 : decode cX9_read 13 = .ok (.invokevirtual 208, 3) := by decide +kernel
theorem dX9_read_16 : decode cX9_read 16 = .ok (.ifCond .eq 7, 3) := by decide +kernel
theorem dX9_read_19 : decode cX9_read 19 = .ok (.iconst 1, 1) := by decide +kernel
theorem dX9_read_20 : decode cX9_read 20 = .ok (.goto 4, 3) := by decide +kernel
theorem dX9_read_23 : decode cX9_read 23 = .ok (.iconst 0, 1) := by decide +kernel
theorem dX9_read_24 : decode cX9_read 24 = .ok (.istore_n 1, 1) := by decide +kernel
theorem dX9_read_25 : decode cX9_read 25 = .ok (.aload_n 0, 1) := by decide +kernel
theorem dX9_read_26 : decode cX9_read 26 = .ok (.iconst 0, 1) := by decide +kernel
theorem dX9_read_27 : decode cX9_read 27 = .ok (.putfield 152, 3) := by decide +kernel
theorem dX9_read_30 : decode cX9_read 30 = .ok (.iload_n 1, 1) := by decide +kernel
theorem dX9_read_31 : decode cX9_read 31 = .ok (.ifCond .ne 5, 3) := by decide +kernel
theorem dX9_read_34 : decode cX9_read 34 = .ok (.iconst (-1), 1) := by decide +kernel
theorem dX9_read_35 : decode cX9_read 35 = .ok (.ireturn, 1) := by decide +kernel
theorem dX9_read_36 : decode cX9_read 36 = .ok (.aload_n 0, 1) := by decide +kernel
theorem dX9_read_37 : decode cX9_read 37 = .ok (.invokevirtual 211, 3) := by decide +kernel
theorem dX9_read_40 : decode cX9_read 40 = .ok (.aload_n 0, 1) := by decide +kernel
theorem dX9_read_41 : decode cX9_read 41 = .ok (.invokevirtual 214, 3) := by decide +kernel
theorem dX9_read_44 : decode cX9_read 44 = .ok (.aload_n 0, 1) := by decide +kernel
theorem dX9_read_45 : decode cX9_read 45 = .ok (.aload_n 0, 1) := by decide +kernel
theorem dX9_read_46 : decode cX9_read 46 = .ok (.invokevirtual 217, 3) := by decide +kernel
theorem dX9_read_49 : decode cX9_read 49 = .ok (.putfield 201, 3) := by decide +kernel
theorem dX9_read_52 : decode cX9_read 52 = .ok (.aload_n 0, 1) := by decide +kernel
theorem dX9_read_53 : decode cX9_read 53 = .ok (.getfield 201, 3) := by decide +kernel
theorem dX9_read_56 : decode cX9_read 56 = .ok (.ifCond .eq 10, 3) := by decide +kernel
theorem dX9_read_59 : decode cX9_read 59 = .ok (.aload_n 0, 1) := by decide +kernel
theorem dX9_read_60 : decode cX9_read 60 = .ok (.getfield 180, 3) := by decide +kernel
theorem dX9_read_63 : decode cX9_read 63 = .ok (.goto 4, 3) := by decide +kernel
theorem dX9_read_66 : decode cX9_read 66 = .ok (.iconst (-1), 1) := by decide +kernel
theorem dX9_read_67 : decode cX9_read 67 = .ok (.ireturn, 1) := by decide +kernel
theorem dX9_once_0 : decode cX9_once 0 = .ok (.aload_n 0, 1) := by decide +kernel
theorem dX9_once_1 : decode cX9_once 1 = .ok (.getfield 35, 3) := by decide +kernel
theorem dX9_once_4 : decode cX9_once 4 = .ok (.iload_n 1, 1) := by decide +kernel
theorem dX9_once_5 : decode cX9_once 5 = .ok (.iaload, 1) := by decide +kernel
theorem dX9_once_6 : decode cX9_once 6 = .ok (.invokestatic 149, 3) := by decide +kernel
theorem dX9_once_9 : decode cX9_once 9 = .ok (.ifCond .eq 23, 3) := by decide +kernel
theorem dX9_once_12 : decode cX9_once 12 = .ok (.aload_n 0, 1) := by decide +kernel
theorem dX9_once_13 : decode cX9_once 13 = .ok (.getfield 62, 3) := by decide +kernel
theorem dX9_once_16 : decode cX9_once 16 = .ok (.bipush 33, 2) := by decide +kernel
theorem dX9_once_18 : decode cX9_once 18 = .ok (.aload_n 0, 1) := by decide +kernel
theorem dX9_once_19 : decode cX9_once 19 = .ok (.getfield 35, 3) := by decide +kernel
theorem dX9_once_22 : decode cX9_once 22 = .ok (.iload_n 1, 1) := by decide +kernel
theorem dX9_once_23 : decode cX9_once 23 = .ok (.iaload, 1) := by decide +kernel
theorem dX9_once_24 : decode cX9_once 24 = .ok (.bipush 65, 2) := by decide +kernel
theorem dX9_once_26 : decode cX9_once 26 = .ok (.isub, 1) := by decide +kernel
theorem dX9_once_27 : decode cX9_once 27 = .ok (.imul, 1) := by decide +kernel
theorem dX9_once_28 : decode cX9_once 28 = .ok (.iload_n 2, 1) := by decide +kernel
theorem dX9_once_29 : decode cX9_once 29 = .ok (.iadd, 1) := by decide +kernel
theorem dX9_once_30 : decode cX9_once 30 = .ok (.iaload, 1) := by decide +kernel
theorem dX9_once_31 : decode cX9_once 31 = .ok (.ireturn, 1) := by decide +kernel
theorem dX9_once_32 : decode cX9_once 32 = .ok (.iload_n 2, 1) := by decide +kernel
theorem dX9_once_33 : decode cX9_once 33 = .ok (.aload_n 0, 1) := by decide +kernel
theorem dX9_once_34 : decode cX9_once 34 = .ok (.getfield 220, 3) := by decide +kernel
theorem dX9_once_37 : decode cX9_once 37 = .ok (.if_icmp .ge 24, 3) := by decide +kernel
theorem dX9_once_40 : decode cX9_once 40 = .ok (.aload_n 0, 1) := by decide +kernel
theorem dX9_once_41 : decode cX9_once 41 = .ok (.getfield 59, 3) := by decide +kernel
theorem dX9_once_44 : decode cX9_once 44 = .ok (.iload_n 2, 1) := by decide +kernel
theorem dX9_once_45 : decode cX9_once 45 = .ok (.iaload, 1) := by decide +kernel
theorem dX9_once_46 : decode cX9_once 46 = .ok (.aload_n 0, 1) := by decide +kernel
theorem dX9_once_47 : decode cX9_once 47 = .ok (.getfield 35, 3) := by decide +kernel
theorem dX9_once_50 : decode cX9_once 50 = .ok (.iload_n 1, 1) := by decide +kernel
theorem dX9_once_51 : decode cX9_once 51 = .ok (.iaload, 1) := by decide +kernel
theorem dX9_once_52 : decode cX9_once 52 = .ok (.if_icmp .ne 9, 3) := by decide +kernel
theorem dX9_once_55 : decode cX9_once 55 = .ok (.iload_n 2, 1) := by decide +kernel
theorem dX9_once_56 : decode cX9_once 56 = .ok (.iconst 1, 1) := by decide +kernel
theorem dX9_once_57 : decode cX9_once 57 = .ok (.iadd, 1) := by decide +kernel
theorem dX9_once_58 : decode cX9_once 58 = .ok (.goto 4, 3) := by decide +kernel
theorem dX9_once_61 : decode cX9_once 61 = .ok (.iconst (-1), 1) := by decide +kernel
theorem dX9_once_62 : decode cX9_once 62 = .ok (.ireturn, 1) := by decide +kernel
theorem dX9_again_0 : decode cX9_again 0 = .ok (.iload_n 2, 1) := by decide +kernel
theorem dX9_again_1 : decode cX9_again 1 = .ok (.istore_n 3, 1) := by decide +kernel
theorem dX9_again_2 : decode cX9_again 2 = .ok (.aload_n 0, 1) := by decide +kernel
theorem dX9_again_3 : decode cX9_again 3 = .ok (.iload_n 1, 1) := by decide +kernel
theorem dX9_again_4 : decode cX9_again 4 = .ok (.iload_n 3, 1) := by decide +kernel
theorem dX9_again_5 : decode cX9_again 5 = .ok (.invokevirtual 223, 3) := by decide +kernel
theorem dX9_again_8 : decode cX9_again 8 = .ok (.istore 4, 2) := by decide +kernel
theorem dX9_again_10 : decode cX9_again 10 = .ok (.iload 4, 2) := by decide +kernel
theorem dX9_again_12 : decode cX9_again 12 = .ok (.iload_n 3, 1) := by decide +kernel
theorem dX9_again_13 : decode cX9_again 13 = .ok (.if_icmp .le 17, 3) := by decide +kernel
theorem dX9_again_16 : decode cX9_again 16 = .ok (.iload 4, 2) := by decide +kernel
theorem dX9_again_18 : decode cX9_again 18 = .ok (.istore_n 3, 1) := by decide +kernel
theorem dX9_again_19 : decode cX9_again 19 = .ok (.aload_n 0, 1) := by decide +kernel
theorem dX9_again_20 : decode cX9_again 20 = .ok (.iload_n 1, 1) := by decide +kernel
theorem dX9_again_21 : decode cX9_again 21 = .ok (.iload_n 3, 1) := by decide +kernel
theorem dX9_again_22 : decode cX9_again 22 = .ok (.invokevirtual 223, 3) := by decide +kernel
theorem dX9_again_25 : decode cX9_again 25 = .ok (.istore 4, 2) := by decide +kernel
theorem dX9_again_27 : decode cX9_again 27 = .ok (.goto (-17), 3) := by decide +kernel
theorem dX9_again_30 : decode cX9_again 30 = .ok (.iload_n 3, 1) := by decide +kernel
theorem dX9_again_31 : decode cX9_again 31 = .ok (.ireturn, 1) := by decide +kernel
theorem dX9_endOf_0 : decode cX9_endOf 0 = .ok (.iload_n 2, 1) := by decide +kernel
theorem dX9_endOf_1 : decode cX9_endOf 1 = .ok (.istore_n 3, 1) := by decide +kernel
theorem dX9_endOf_2 : decode cX9_endOf 2 = .ok (.aload_n 0, 1) := by decide +kernel
theorem dX9_endOf_3 : decode cX9_endOf 3 = .ok (.getfield 41, 3) := by decide +kernel
theorem dX9_endOf_6 : decode cX9_endOf 6 = .ok (.iload_n 1, 1) := by decide +kernel
theorem dX9_endOf_7 : decode cX9_endOf 7 = .ok (.iaload, 1) := by decide +kernel
theorem dX9_endOf_8 : decode cX9_endOf 8 = .ok (.istore 4, 2) := by decide +kernel
theorem dX9_endOf_10 : decode cX9_endOf 10 = .ok (.iload 4, 2) := by decide +kernel
theorem dX9_endOf_12 : decode cX9_endOf 12 = .ok (.aload_n 0, 1) := by decide +kernel
theorem dX9_endOf_13 : decode cX9_endOf 13 = .ok (.getfield 41, 3) := by decide +kernel
theorem dX9_endOf_16 : decode cX9_endOf 16 = .ok (.iload_n 1, 1) := by decide +kernel
theorem dX9_endOf_17 : decode cX9_endOf 17 = .ok (.iconst 1, 1) := by decide +kernel
theorem dX9_endOf_18 : decode cX9_endOf 18 = .ok (.iadd, 1) := by decide +kernel
theorem dX9_endOf_19 : decode cX9_endOf 19 = .ok (.iaload, 1) := by decide +kernel
theorem dX9_endOf_20 : decode cX9_endOf 20 = .ok (.if_icmp .ge 98, 3) := by decide +kernel
theorem dX9_endOf_23 : decode cX9_endOf 23 = .ok (.aload_n 0, 1) := by decide +kernel
theorem dX9_endOf_24 : decode cX9_endOf 24 = .ok (.getfield 38, 3) := by decide +kernel
theorem dX9_endOf_27 : decode cX9_endOf 27 = .ok (.iload 4, 2) := by decide +kernel
theorem dX9_endOf_29 : decode cX9_endOf 29 = .ok (.iaload, 1) := by decide +kernel
theorem dX9_endOf_30 : decode cX9_endOf 30 = .ok (.bipush 42, 2) := by decide +kernel
theorem dX9_endOf_32 : decode cX9_endOf 32 = .ok (.if_icmp .ne 13, 3) := by decide +kernel
theorem dX9_endOf_35 : decode cX9_endOf 35 = .ok (.aload_n 0, 1) := by decide +kernel
theorem dX9_endOf_36 : decode cX9_endOf 36 = .ok (.iload 4, 2) := by decide +kernel
theorem dX9_endOf_38 : decode cX9_endOf 38 = .ok (.iload_n 3, 1) := by decide +kernel
theorem dX9_endOf_39 : decode cX9_endOf 39 = .ok (.invokevirtual 227, 3) := by decide +kernel
theorem dX9_endOf_42 : decode cX9_endOf 42 = .ok (.goto 10, 3) := by decide +kernel
theorem dX9_endOf_45 : decode cX9_endOf 45 = .ok (.aload_n 0, 1) := by decide +kernel
theorem dX9_endOf_46 : decode cX9_endOf 46 = .ok (.iload 4, 2) := by decide +kernel
theorem dX9_endOf_48 : decode cX9_endOf 48 = .ok (.iload_n 3, 1) := by decide +kernel
theorem dX9_endOf_49 : decode cX9_endOf 49 = .ok (.invokevirtual 223, 3) := by decide +kernel
theorem dX9_endOf_52 : decode cX9_endOf 52 = .ok (.istore 5, 2) := by decide +kernel
theorem dX9_endOf_54 : decode cX9_endOf 54 = .ok (.aload_n 0, 1) := by decide +kernel
theorem dX9_endOf_55 : decode cX9_endOf 55 = .ok (.getfield 38, 3) := by decide +kernel
theorem dX9_endOf_58 : decode cX9_endOf 58 = .ok (.iload 4, 2) := by decide +kernel
theorem dX9_endOf_60 : decode cX9_endOf 60 = .ok (.iaload, 1) := by decide +kernel
theorem dX9_endOf_61 : decode cX9_endOf 61 = .ok (.bipush 63, 2) := by decide +kernel
theorem dX9_endOf_63 : decode cX9_endOf 63 = .ok (.if_icmp .ne 16, 3) := by decide +kernel
theorem dX9_endOf_66 : decode cX9_endOf 66 = .ok (.iload 5, 2) := by decide +kernel
theorem dX9_endOf_68 : decode cX9_endOf 68 = .ok (.ifCond .ge 7, 3) := by decide +kernel
theorem dX9_endOf_71 : decode cX9_endOf 71 = .ok (.iload_n 3, 1) := by decide +kernel
theorem dX9_endOf_72 : decode cX9_endOf 72 = .ok (.goto 5, 3) := by decide +kernel
theorem dX9_endOf_75 : decode cX9_endOf 75 = .ok (.iload 5, 2) := by decide +kernel
theorem dX9_endOf_77 : decode cX9_endOf 77 = .ok (.istore 5, 2) := by decide +kernel
theorem dX9_endOf_79 : decode cX9_endOf 79 = .ok (.iload 5, 2) := by decide +kernel
theorem dX9_endOf_81 : decode cX9_endOf 81 = .ok (.ifCond .ge 5, 3) := by decide +kernel
theorem dX9_endOf_84 : decode cX9_endOf 84 = .ok (.iconst (-1), 1) := by decide +kernel
theorem dX9_endOf_85 : decode cX9_endOf 85 = .ok (.ireturn, 1) := by decide +kernel
theorem dX9_endOf_86 : decode cX9_endOf 86 = .ok (.aload_n 0, 1) := by decide +kernel
theorem dX9_endOf_87 : decode cX9_endOf 87 = .ok (.getfield 38, 3) := by decide +kernel
theorem dX9_endOf_90 : decode cX9_endOf 90 = .ok (.iload 4, 2) := by decide +kernel
theorem dX9_endOf_92 : decode cX9_endOf 92 = .ok (.iaload, 1) := by decide +kernel
theorem dX9_endOf_93 : decode cX9_endOf 93 = .ok (.bipush 43, 2) := by decide +kernel
theorem dX9_endOf_95 : decode cX9_endOf 95 = .ok (.if_icmp .ne 14, 3) := by decide +kernel
theorem dX9_endOf_98 : decode cX9_endOf 98 = .ok (.aload_n 0, 1) := by decide +kernel
theorem dX9_endOf_99 : decode cX9_endOf 99 = .ok (.iload 4, 2) := by decide +kernel
theorem dX9_endOf_101 : decode cX9_endOf 101 = .ok (.iload 5, 2) := by decide +kernel
theorem dX9_endOf_103 : decode cX9_endOf 103 = .ok (.invokevirtual 227, 3) := by decide +kernel
theorem dX9_endOf_106 : decode cX9_endOf 106 = .ok (.goto 5, 3) := by decide +kernel
theorem dX9_endOf_109 : decode cX9_endOf 109 = .ok (.iload 5, 2) := by decide +kernel
theorem dX9_endOf_111 : decode cX9_endOf 111 = .ok (.istore_n 3, 1) := by decide +kernel
theorem dX9_endOf_112 : decode cX9_endOf 112 = .ok (.iinc 4 1, 3) := by decide +kernel
theorem dX9_endOf_115 : decode cX9_endOf 115 = .ok (.goto (-105), 3) := by decide +kernel
theorem dX9_endOf_118 : decode cX9_endOf 118 = .ok (.iload_n 3, 1) := by decide +kernel
theorem dX9_endOf_119 : decode cX9_endOf 119 = .ok (.ireturn, 1) := by decide +kernel
theorem dX9_alternativeOf_0 : decode cX9_alternativeOf 0 = .ok (.aload_n 0, 1) := by decide +kernel
theorem dX9_alternativeOf_1 : decode cX9_alternativeOf 1 = .ok (.getfield 44, 3) := by decide +kernel
theorem dX9_alternativeOf_4 : decode cX9_alternativeOf 4 = .ok (.iload_n 1, 1) := by decide +kernel
theorem dX9_alternativeOf_5 : decode cX9_alternativeOf 5 = .ok (.iaload, 1) := by decide +kernel
theorem dX9_alternativeOf_6 : decode cX9_alternativeOf 6 = .ok (.istore_n 3, 1) := by decide +kernel
theorem dX9_alternativeOf_7 : decode cX9_alternativeOf 7 = .ok (.iload_n 3, 1) := by decide +kernel
theorem dX9_alternativeOf_8 : decode cX9_alternativeOf 8 = .ok (.aload_n 0, 1) := by decide +kernel
theorem dX9_alternativeOf_9 : decode cX9_alternativeOf 9 = .ok (.getfield 47, 3) := by decide +kernel
theorem dX9_alternativeOf_12 : decode cX9_alternativeOf 12 = .ok (.iload_n 1, 1) := by decide +kernel
theorem dX9_alternativeOf_13 : decode cX9_alternativeOf 13 = .ok (.iaload, 1) := by decide +kernel
theorem dX9_alternativeOf_14 : decode cX9_alternativeOf 14 = .ok (.if_icmp .ge 20, 3) := by decide +kernel
theorem dX9_alternativeOf_17 : decode cX9_alternativeOf 17 = .ok (.aload_n 0, 1) := by decide +kernel
theorem dX9_alternativeOf_18 : decode cX9_alternativeOf 18 = .ok (.iload_n 3, 1) := by decide +kernel
theorem dX9_alternativeOf_19 : decode cX9_alternativeOf 19 = .ok (.iload_n 2, 1) := by decide +kernel
theorem dX9_alternativeOf_20 : decode cX9_alternativeOf 20 = .ok (.invokevirtual 230, 3) := by decide +kernel
theorem dX9_alternativeOf_23 : decode cX9_alternativeOf 23 = .ok (.ifCond .lt 5, 3) := by decide +kernel
theorem dX9_alternativeOf_26 : decode cX9_alternativeOf 26 = .ok (.iload_n 3, 1) := by decide +kernel
theorem dX9_alternativeOf_27 : decode cX9_alternativeOf 27 = .ok (.ireturn, 1) := by decide +kernel
theorem dX9_alternativeOf_28 : decode cX9_alternativeOf 28 = .ok (.iinc 3 1, 3) := by decide +kernel
theorem dX9_alternativeOf_31 : decode cX9_alternativeOf 31 = .ok (.goto (-24), 3) := by decide +kernel
theorem dX9_alternativeOf_34 : decode cX9_alternativeOf 34 = .ok (.iconst (-1), 1) := by decide +kernel
theorem dX9_alternativeOf_35 : decode cX9_alternativeOf 35 = .ok (.ireturn, 1) := by decide +kernel
theorem dX9_findEnds_0 : decode cX9_findEnds 0 = .ok (.aload_n 0, 1) := by decide +kernel
theorem dX9_findEnds_1 : decode cX9_findEnds 1 = .ok (.getfield 220, 3) := by decide +kernel
theorem dX9_findEnds_4 : decode cX9_findEnds 4 = .ok (.istore_n 1, 1) := by decide +kernel
theorem dX9_findEnds_5 : decode cX9_findEnds 5 = .ok (.iload_n 1, 1) := by decide +kernel
theorem dX9_findEnds_6 : decode cX9_findEnds 6 = .ok (.ifCond .lt 67, 3) := by decide +kernel
theorem dX9_findEnds_9 : decode cX9_findEnds 9 = .ok (.iconst 0, 1) := by decide +kernel
theorem dX9_findEnds_10 : decode cX9_findEnds 10 = .ok (.istore_n 2, 1) := by decide +kernel
theorem dX9_findEnds_11 : decode cX9_findEnds 11 = .ok (.iload_n 2, 1) := by decide +kernel
theorem dX9_findEnds_12 : decode cX9_findEnds 12 = .ok (.aload_n 0, 1) := by decide +kernel
theorem dX9_findEnds_13 : decode cX9_findEnds 13 = .ok (.getfield 180, 3) := by decide +kernel
theorem dX9_findEnds_16 : decode cX9_findEnds 16 = .ok (.if_icmp .ge 51, 3) := by decide +kernel
theorem dX9_findEnds_19 : decode cX9_findEnds 19 = .ok (.aload_n 0, 1) := by decide +kernel
theorem dX9_findEnds_20 : decode cX9_findEnds 20 = .ok (.aload_n 0, 1) := by decide +kernel
theorem dX9_findEnds_21 : decode cX9_findEnds 21 = .ok (.getfield 56, 3) := by decide +kernel
theorem dX9_findEnds_24 : decode cX9_findEnds 24 = .ok (.iload_n 2, 1) := by decide +kernel
theorem dX9_findEnds_25 : decode cX9_findEnds 25 = .ok (.iaload, 1) := by decide +kernel
theorem dX9_findEnds_26 : decode cX9_findEnds 26 = .ok (.iload_n 1, 1) := by decide +kernel
theorem dX9_findEnds_27 : decode cX9_findEnds 27 = .ok (.invokevirtual 233, 3) := by decide +kernel
theorem dX9_findEnds_30 : decode cX9_findEnds 30 = .ok (.istore_n 3, 1) := by decide +kernel
theorem dX9_findEnds_31 : decode cX9_findEnds 31 = .ok (.aload_n 0, 1) := by decide +kernel
theorem dX9_findEnds_32 : decode cX9_findEnds 32 = .ok (.getfield 62, 3) := by decide +kernel
theorem dX9_findEnds_35 : decode cX9_findEnds 35 = .ok (.bipush 33, 2) := by decide +kernel
theorem dX9_findEnds_37 : decode cX9_findEnds 37 = .ok (.aload_n 0, 1) := by decide +kernel
theorem dX9_findEnds_38 : decode cX9_findEnds 38 = .ok (.getfield 56, 3) := by decide +kernel
theorem dX9_findEnds_41 : decode cX9_findEnds 41 = .ok (.iload_n 2, 1) := by decide +kernel
theorem dX9_findEnds_42 : decode cX9_findEnds 42 = .ok (.iaload, 1) := by decide +kernel
theorem dX9_findEnds_43 : decode cX9_findEnds 43 = .ok (.imul, 1) := by decide +kernel
theorem dX9_findEnds_44 : decode cX9_findEnds 44 = .ok (.iload_n 1, 1) := by decide +kernel
theorem dX9_findEnds_45 : decode cX9_findEnds 45 = .ok (.iadd, 1) := by decide +kernel
theorem dX9_findEnds_46 : decode cX9_findEnds 46 = .ok (.iload_n 3, 1) := by decide +kernel
theorem dX9_findEnds_47 : decode cX9_findEnds 47 = .ok (.ifCond .ge 7, 3) := by decide +kernel
theorem dX9_findEnds_50 : decode cX9_findEnds 50 = .ok (.iconst (-1), 1) := by decide +kernel
theorem dX9_findEnds_51 : decode cX9_findEnds 51 = .ok (.goto 9, 3) := by decide +kernel
theorem dX9_findEnds_54 : decode cX9_findEnds 54 = .ok (.aload_n 0, 1) := by decide +kernel
theorem dX9_findEnds_55 : decode cX9_findEnds 55 = .ok (.iload_n 3, 1) := by decide +kernel
theorem dX9_findEnds_56 : decode cX9_findEnds 56 = .ok (.iload_n 1, 1) := by decide +kernel
theorem dX9_findEnds_57 : decode cX9_findEnds 57 = .ok (.invokevirtual 230, 3) := by decide +kernel
theorem dX9_findEnds_60 : decode cX9_findEnds 60 = .ok (.iastore, 1) := by decide +kernel
theorem dX9_findEnds_61 : decode cX9_findEnds 61 = .ok (.iinc 2 1, 3) := by decide +kernel
theorem dX9_findEnds_64 : decode cX9_findEnds 64 = .ok (.goto (-53), 3) := by decide +kernel
theorem dX9_findEnds_67 : decode cX9_findEnds 67 = .ok (.iinc 1 (-1), 3) := by decide +kernel
theorem dX9_findEnds_70 : decode cX9_findEnds 70 = .ok (.goto (-65), 3) := by decide +kernel
theorem dX9_findEnds_73 : decode cX9_findEnds 73 = .ok (.return_, 1) := by decide +kernel
theorem dX9_addNode_0 : decode cX9_addNode 0 = .ok (.aload_n 0, 1) := by decide +kernel
theorem dX9_addNode_1 : decode cX9_addNode 1 = .ok (.getfield 236, 3) := by decide +kernel
theorem dX9_addNode_4 : decode cX9_addNode 4 = .ok (.bipush 60, 2) := by decide +kernel
theorem dX9_addNode_6 : decode cX9_addNode 6 = .ok (.if_icmp .ne 5, 3) := by decide +kernel
theorem dX9_addNode_9 : decode cX9_addNode 9 = .ok (.iconst 0, 1) := by decide +kernel
theorem dX9_addNode_10 : decode cX9_addNode 10 = .ok (.ireturn, 1) := by decide +kernel
theorem dX9_addNode_11 : decode cX9_addNode 11 = .ok (.aload_n 0, 1) := by decide +kernel
theorem dX9_addNode_12 : decode cX9_addNode 12 = .ok (.getfield 65, 3) := by decide +kernel
theorem dX9_addNode_15 : decode cX9_addNode 15 = .ok (.aload_n 0, 1) := by decide +kernel
theorem dX9_addNode_16 : decode cX9_addNode 16 = .ok (.getfield 236, 3) := by decide +kernel
theorem dX9_addNode_19 : decode cX9_addNode 19 = .ok (.iload_n 1, 1) := by decide +kernel
theorem dX9_addNode_20 : decode cX9_addNode 20 = .ok (.iastore, 1) := by decide +kernel
theorem dX9_addNode_21 : decode cX9_addNode 21 = .ok (.aload_n 0, 1) := by decide +kernel
theorem dX9_addNode_22 : decode cX9_addNode 22 = .ok (.getfield 68, 3) := by decide +kernel
theorem dX9_addNode_25 : decode cX9_addNode 25 = .ok (.aload_n 0, 1) := by decide +kernel
theorem dX9_addNode_26 : decode cX9_addNode 26 = .ok (.getfield 236, 3) := by decide +kernel
theorem dX9_addNode_29 : decode cX9_addNode 29 = .ok (.iload_n 2, 1) := by decide +kernel
theorem dX9_addNode_30 : decode cX9_addNode 30 = .ok (.iastore, 1) := by decide +kernel
theorem dX9_addNode_31 : decode cX9_addNode 31 = .ok (.aload_n 0, 1) := by decide +kernel
theorem dX9_addNode_32 : decode cX9_addNode 32 = .ok (.getfield 71, 3) := by decide +kernel
theorem dX9_addNode_35 : decode cX9_addNode 35 = .ok (.aload_n 0, 1) := by decide +kernel
theorem dX9_addNode_36 : decode cX9_addNode 36 = .ok (.getfield 236, 3) := by decide +kernel
theorem dX9_addNode_39 : decode cX9_addNode 39 = .ok (.iload_n 3, 1) := by decide +kernel
theorem dX9_addNode_40 : decode cX9_addNode 40 = .ok (.iastore, 1) := by decide +kernel
theorem dX9_addNode_41 : decode cX9_addNode 41 = .ok (.aload_n 0, 1) := by decide +kernel
theorem dX9_addNode_42 : decode cX9_addNode 42 = .ok (.getfield 74, 3) := by decide +kernel
theorem dX9_addNode_45 : decode cX9_addNode 45 = .ok (.aload_n 0, 1) := by decide +kernel
theorem dX9_addNode_46 : decode cX9_addNode 46 = .ok (.getfield 236, 3) := by decide +kernel
theorem dX9_addNode_49 : decode cX9_addNode 49 = .ok (.iload 4, 2) := by decide +kernel
theorem dX9_addNode_51 : decode cX9_addNode 51 = .ok (.iastore, 1) := by decide +kernel
theorem dX9_addNode_52 : decode cX9_addNode 52 = .ok (.aload_n 0, 1) := by decide +kernel
theorem dX9_addNode_53 : decode cX9_addNode 53 = .ok (.getfield 77, 3) := by decide +kernel
theorem dX9_addNode_56 : decode cX9_addNode 56 = .ok (.aload_n 0, 1) := by decide +kernel
theorem dX9_addNode_57 : decode cX9_addNode 57 = .ok (.getfield 236, 3) := by decide +kernel
theorem dX9_addNode_60 : decode cX9_addNode 60 = .ok (.iload 5, 2) := by decide +kernel
theorem dX9_addNode_62 : decode cX9_addNode 62 = .ok (.iastore, 1) := by decide +kernel
theorem dX9_addNode_63 : decode cX9_addNode 63 = .ok (.aload_n 0, 1) := by decide +kernel
theorem dX9_addNode_64 : decode cX9_addNode 64 = .ok (.getfield 80, 3) := by decide +kernel
theorem dX9_addNode_67 : decode cX9_addNode 67 = .ok (.aload_n 0, 1) := by decide +kernel
theorem dX9_addNode_68 : decode cX9_addNode 68 = .ok (.getfield 236, 3) := by decide +kernel
theorem dX9_addNode_71 : decode cX9_addNode 71 = .ok (.iload 6, 2) := by decide +kernel
theorem dX9_addNode_73 : decode cX9_addNode 73 = .ok (.iastore, 1) := by decide +kernel
theorem dX9_addNode_74 : decode cX9_addNode 74 = .ok (.aload_n 0, 1) := by decide +kernel
theorem dX9_addNode_75 : decode cX9_addNode 75 = .ok (.dup, 1) := by decide +kernel
theorem dX9_addNode_76 : decode cX9_addNode 76 = .ok (.getfield 236, 3) := by decide +kernel
theorem dX9_addNode_79 : decode cX9_addNode 79 = .ok (.iconst 1, 1) := by decide +kernel
theorem dX9_addNode_80 : decode cX9_addNode 80 = .ok (.iadd, 1) := by decide +kernel
theorem dX9_addNode_81 : decode cX9_addNode 81 = .ok (.putfield 236, 3) := by decide +kernel
theorem dX9_addNode_84 : decode cX9_addNode 84 = .ok (.iconst 1, 1) := by decide +kernel
theorem dX9_addNode_85 : decode cX9_addNode 85 = .ok (.ireturn, 1) := by decide +kernel
theorem dX9_openFrame_0 : decode cX9_openFrame 0 = .ok (.aload_n 0, 1) := by decide +kernel
theorem dX9_openFrame_1 : decode cX9_openFrame 1 = .ok (.aload_n 0, 1) := by decide +kernel
theorem dX9_openFrame_2 : decode cX9_openFrame 2 = .ok (.getfield 65, 3) := by decide +kernel
theorem dX9_openFrame_5 : decode cX9_openFrame 5 = .ok (.iload_n 2, 1) := by decide +kernel
theorem dX9_openFrame_6 : decode cX9_openFrame 6 = .ok (.iaload, 1) := by decide +kernel
theorem dX9_openFrame_7 : decode cX9_openFrame 7 = .ok (.aload_n 0, 1) := by decide +kernel
theorem dX9_openFrame_8 : decode cX9_openFrame 8 = .ok (.getfield 71, 3) := by decide +kernel
theorem dX9_openFrame_11 : decode cX9_openFrame 11 = .ok (.iload_n 2, 1) := by decide +kernel
theorem dX9_openFrame_12 : decode cX9_openFrame 12 = .ok (.iaload, 1) := by decide +kernel
theorem dX9_openFrame_13 : decode cX9_openFrame 13 = .ok (.invokevirtual 233, 3) := by decide +kernel
theorem dX9_openFrame_16 : decode cX9_openFrame 16 = .ok (.istore_n 3, 1) := by decide +kernel
theorem dX9_openFrame_17 : decode cX9_openFrame 17 = .ok (.aload_n 0, 1) := by decide +kernel
theorem dX9_openFrame_18 : decode cX9_openFrame 18 = .ok (.getfield 83, 3) := by decide +kernel
theorem dX9_openFrame_21 : decode cX9_openFrame 21 = .ok (.iload_n 1, 1) := by decide +kernel
theorem dX9_openFrame_22 : decode cX9_openFrame 22 = .ok (.iload_n 2, 1) := by decide +kernel
theorem dX9_openFrame_23 : decode cX9_openFrame 23 = .ok (.iastore, 1) := by decide +kernel
theorem dX9_openFrame_24 : decode cX9_openFrame 24 = .ok (.aload_n 0, 1) := by decide +kernel
theorem dX9_openFrame_25 : decode cX9_openFrame 25 = .ok (.getfield 86, 3) := by decide +kernel
theorem dX9_openFrame_28 : decode cX9_openFrame 28 = .ok (.iload_n 1, 1) := by decide +kernel
theorem dX9_openFrame_29 : decode cX9_openFrame 29 = .ok (.aload_n 0, 1) := by decide +kernel
theorem dX9_openFrame_30 : decode cX9_openFrame 30 = .ok (.getfield 41, 3) := by decide +kernel
theorem dX9_openFrame_33 : decode cX9_openFrame 33 = .ok (.iload_n 3, 1) := by decide +kernel
theorem dX9_openFrame_34 : decode cX9_openFrame 34 = .ok (.iaload, 1) := by decide +kernel
theorem dX9_openFrame_35 : decode cX9_openFrame 35 = .ok (.iastore, 1) := by decide +kernel
theorem dX9_openFrame_36 : decode cX9_openFrame 36 = .ok (.aload_n 0, 1) := by decide +kernel
theorem dX9_openFrame_37 : decode cX9_openFrame 37 = .ok (.getfield 89, 3) := by decide +kernel
theorem dX9_openFrame_40 : decode cX9_openFrame 40 = .ok (.iload_n 1, 1) := by decide +kernel
theorem dX9_openFrame_41 : decode cX9_openFrame 41 = .ok (.aload_n 0, 1) := by decide +kernel
theorem dX9_openFrame_42 : decode cX9_openFrame 42 = .ok (.getfield 41, 3) := by decide +kernel
theorem dX9_openFrame_45 : decode cX9_openFrame 45 = .ok (.iload_n 3, 1) := by decide +kernel
theorem dX9_openFrame_46 : decode cX9_openFrame 46 = .ok (.iconst 1, 1) := by decide +kernel
theorem dX9_openFrame_47 : decode cX9_openFrame 47 = .ok (.iadd, 1) := by decide +kernel
theorem dX9_openFrame_48 : decode cX9_openFrame 48 = .ok (.iaload, 1) := by decide +kernel
theorem dX9_openFrame_49 : decode cX9_openFrame 49 = .ok (.iastore, 1) := by decide +kernel
theorem dX9_openFrame_50 : decode cX9_openFrame 50 = .ok (.aload_n 0, 1) := by decide +kernel
theorem dX9_openFrame_51 : decode cX9_openFrame 51 = .ok (.getfield 92, 3) := by decide +kernel
theorem dX9_openFrame_54 : decode cX9_openFrame 54 = .ok (.iload_n 1, 1) := by decide +kernel
theorem dX9_openFrame_55 : decode cX9_openFrame 55 = .ok (.aload_n 0, 1) := by decide +kernel
theorem dX9_openFrame_56 : decode cX9_openFrame 56 = .ok (.getfield 71, 3) := by decide +kernel
theorem dX9_openFrame_59 : decode cX9_openFrame 59 = .ok (.iload_n 2, 1) := by decide +kernel
theorem dX9_openFrame_60 : decode cX9_openFrame 60 = .ok (.iaload, 1) := by decide +kernel
theorem dX9_openFrame_61 : decode cX9_openFrame 61 = .ok (.iastore, 1) := by decide +kernel
theorem dX9_openFrame_62 : decode cX9_openFrame 62 = .ok (.aload_n 0, 1) := by decide +kernel
theorem dX9_openFrame_63 : decode cX9_openFrame 63 = .ok (.getfield 95, 3) := by decide +kernel
theorem dX9_openFrame_66 : decode cX9_openFrame 66 = .ok (.iload_n 1, 1) := by decide +kernel
theorem dX9_openFrame_67 : decode cX9_openFrame 67 = .ok (.iconst 0, 1) := by decide +kernel
theorem dX9_openFrame_68 : decode cX9_openFrame 68 = .ok (.iastore, 1) := by decide +kernel
theorem dX9_openFrame_69 : decode cX9_openFrame 69 = .ok (.return_, 1) := by decide +kernel
theorem dX9_taking_0 : decode cX9_taking 0 = .ok (.aload_n 0, 1) := by decide +kernel
theorem dX9_taking_1 : decode cX9_taking 1 = .ok (.iload_n 1, 1) := by decide +kernel
theorem dX9_taking_2 : decode cX9_taking 2 = .ok (.iload_n 2, 1) := by decide +kernel
theorem dX9_taking_3 : decode cX9_taking 3 = .ok (.invokevirtual 223, 3) := by decide +kernel
theorem dX9_taking_6 : decode cX9_taking 6 = .ok (.istore 4, 2) := by decide +kernel
theorem dX9_taking_8 : decode cX9_taking 8 = .ok (.aload_n 0, 1) := by decide +kernel
theorem dX9_taking_9 : decode cX9_taking 9 = .ok (.getfield 38, 3) := by decide +kernel
theorem dX9_taking_12 : decode cX9_taking 12 = .ok (.iload_n 1, 1) := by decide +kernel
theorem dX9_taking_13 : decode cX9_taking 13 = .ok (.iaload, 1) := by decide +kernel
theorem dX9_taking_14 : decode cX9_taking 14 = .ok (.ifCond .eq 14, 3) := by decide +kernel
theorem dX9_taking_17 : decode cX9_taking 17 = .ok (.aload_n 0, 1) := by decide +kernel
theorem dX9_taking_18 : decode cX9_taking 18 = .ok (.getfield 38, 3) := by decide +kernel
theorem dX9_taking_21 : decode cX9_taking 21 = .ok (.iload_n 1, 1) := by decide +kernel
theorem dX9_taking_22 : decode cX9_taking 22 = .ok (.iaload, 1) := by decide +kernel
theorem dX9_taking_23 : decode cX9_taking 23 = .ok (.bipush 63, 2) := by decide +kernel
theorem dX9_taking_25 : decode cX9_taking 25 = .ok (.if_icmp .ne 20, 3) := by decide +kernel
theorem dX9_taking_28 : decode cX9_taking 28 = .ok (.iload_n 3, 1) := by decide +kernel
theorem dX9_taking_29 : decode cX9_taking 29 = .ok (.ifCond .ne 12, 3) := by decide +kernel
theorem dX9_taking_32 : decode cX9_taking 32 = .ok (.iload 4, 2) := by decide +kernel
theorem dX9_taking_34 : decode cX9_taking 34 = .ok (.ifCond .lt 7, 3) := by decide +kernel
theorem dX9_taking_37 : decode cX9_taking 37 = .ok (.iconst 1, 1) := by decide +kernel
theorem dX9_taking_38 : decode cX9_taking 38 = .ok (.goto 33, 3) := by decide +kernel
theorem dX9_taking_41 : decode cX9_taking 41 = .ok (.iconst 0, 1) := by decide +kernel
theorem dX9_taking_42 : decode cX9_taking 42 = .ok (.goto 29, 3) := by decide +kernel
theorem dX9_taking_45 : decode cX9_taking 45 = .ok (.aload_n 0, 1) := by decide +kernel
theorem dX9_taking_46 : decode cX9_taking 46 = .ok (.getfield 38, 3) := by decide +kernel
theorem dX9_taking_49 : decode cX9_taking 49 = .ok (.iload_n 1, 1) := by decide +kernel
theorem dX9_taking_50 : decode cX9_taking 50 = .ok (.iaload, 1) := by decide +kernel
theorem dX9_taking_51 : decode cX9_taking 51 = .ok (.bipush 43, 2) := by decide +kernel
theorem dX9_taking_53 : decode cX9_taking 53 = .ok (.if_icmp .ne 7, 3) := by decide +kernel
theorem dX9_taking_56 : decode cX9_taking 56 = .ok (.iload_n 3, 1) := by decide +kernel
theorem dX9_taking_57 : decode cX9_taking 57 = .ok (.ifCond .eq 9, 3) := by decide +kernel
theorem dX9_taking_60 : decode cX9_taking 60 = .ok (.iload 4, 2) := by decide +kernel
theorem dX9_taking_62 : decode cX9_taking 62 = .ok (.iload_n 2, 1) := by decide +kernel
theorem dX9_taking_63 : decode cX9_taking 63 = .ok (.if_icmp .le 7, 3) := by decide +kernel
theorem dX9_taking_66 : decode cX9_taking 66 = .ok (.iconst 1, 1) := by decide +kernel
theorem dX9_taking_67 : decode cX9_taking 67 = .ok (.goto 4, 3) := by decide +kernel
theorem dX9_taking_70 : decode cX9_taking 70 = .ok (.iconst 0, 1) := by decide +kernel
theorem dX9_taking_71 : decode cX9_taking 71 = .ok (.istore 5, 2) := by decide +kernel
theorem dX9_taking_73 : decode cX9_taking 73 = .ok (.iload 5, 2) := by decide +kernel
theorem dX9_taking_75 : decode cX9_taking 75 = .ok (.ifCond .eq 8, 3) := by decide +kernel
theorem dX9_taking_78 : decode cX9_taking 78 = .ok (.iload 4, 2) := by decide +kernel
theorem dX9_taking_80 : decode cX9_taking 80 = .ok (.goto 4, 3) := by decide +kernel
theorem dX9_taking_83 : decode cX9_taking 83 = .ok (.iconst (-1), 1) := by decide +kernel
theorem dX9_taking_84 : decode cX9_taking 84 = .ok (.ireturn, 1) := by decide +kernel
theorem dX9_isLoose_0 : decode cX9_isLoose 0 = .ok (.aload_n 0, 1) := by decide +kernel
theorem dX9_isLoose_1 : decode cX9_isLoose 1 = .ok (.getfield 38, 3) := by decide +kernel
theorem dX9_isLoose_4 : decode cX9_isLoose 4 = .ok (.iload_n 1, 1) := by decide +kernel
theorem dX9_isLoose_5 : decode cX9_isLoose 5 = .ok (.iaload, 1) := by decide +kernel
theorem dX9_isLoose_6 : decode cX9_isLoose 6 = .ok (.bipush 43, 2) := by decide +kernel
theorem dX9_isLoose_8 : decode cX9_isLoose 8 = .ok (.if_icmp .ne 21, 3) := by decide +kernel
theorem dX9_isLoose_11 : decode cX9_isLoose 11 = .ok (.iload_n 3, 1) := by decide +kernel
theorem dX9_isLoose_12 : decode cX9_isLoose 12 = .ok (.ifCond .gt 13, 3) := by decide +kernel
theorem dX9_isLoose_15 : decode cX9_isLoose 15 = .ok (.aload_n 0, 1) := by decide +kernel
theorem dX9_isLoose_16 : decode cX9_isLoose 16 = .ok (.iload_n 1, 1) := by decide +kernel
theorem dX9_isLoose_17 : decode cX9_isLoose 17 = .ok (.iload_n 2, 1) := by decide +kernel
theorem dX9_isLoose_18 : decode cX9_isLoose 18 = .ok (.invokevirtual 223, 3) := by decide +kernel
theorem dX9_isLoose_21 : decode cX9_isLoose 21 = .ok (.iload_n 2, 1) := by decide +kernel
theorem dX9_isLoose_22 : decode cX9_isLoose 22 = .ok (.if_icmp .le 7, 3) := by decide +kernel
theorem dX9_isLoose_25 : decode cX9_isLoose 25 = .ok (.iconst 1, 1) := by decide +kernel
theorem dX9_isLoose_26 : decode cX9_isLoose 26 = .ok (.goto 4, 3) := by decide +kernel
theorem dX9_isLoose_29 : decode cX9_isLoose 29 = .ok (.iconst 0, 1) := by decide +kernel
theorem dX9_isLoose_30 : decode cX9_isLoose 30 = .ok (.istore 4, 2) := by decide +kernel
theorem dX9_isLoose_32 : decode cX9_isLoose 32 = .ok (.aload_n 0, 1) := by decide +kernel
theorem dX9_isLoose_33 : decode cX9_isLoose 33 = .ok (.getfield 38, 3) := by decide +kernel
theorem dX9_isLoose_36 : decode cX9_isLoose 36 = .ok (.iload_n 1, 1) := by decide +kernel
theorem dX9_isLoose_37 : decode cX9_isLoose 37 = .ok (.iaload, 1) := by decide +kernel
theorem dX9_isLoose_38 : decode cX9_isLoose 38 = .ok (.bipush 63, 2) := by decide +kernel
theorem dX9_isLoose_40 : decode cX9_isLoose 40 = .ok (.if_icmp .eq 19, 3) := by decide +kernel
theorem dX9_isLoose_43 : decode cX9_isLoose 43 = .ok (.aload_n 0, 1) := by decide +kernel
theorem dX9_isLoose_44 : decode cX9_isLoose 44 = .ok (.getfield 38, 3) := by decide +kernel
theorem dX9_isLoose_47 : decode cX9_isLoose 47 = .ok (.iload_n 1, 1) := by decide +kernel
theorem dX9_isLoose_48 : decode cX9_isLoose 48 = .ok (.iaload, 1) := by decide +kernel
theorem dX9_isLoose_49 : decode cX9_isLoose 49 = .ok (.bipush 42, 2) := by decide +kernel
theorem dX9_isLoose_51 : decode cX9_isLoose 51 = .ok (.if_icmp .eq 8, 3) := by decide +kernel
theorem dX9_isLoose_54 : decode cX9_isLoose 54 = .ok (.iload 4, 2) := by decide +kernel
theorem dX9_isLoose_56 : decode cX9_isLoose 56 = .ok (.ifCond .eq 7, 3) := by decide +kernel
theorem dX9_isLoose_59 : decode cX9_isLoose 59 = .ok (.iconst 1, 1) := by decide +kernel
theorem dX9_isLoose_60 : decode cX9_isLoose 60 = .ok (.goto 4, 3) := by decide +kernel
theorem dX9_isLoose_63 : decode cX9_isLoose 63 = .ok (.iconst 0, 1) := by decide +kernel
theorem dX9_isLoose_64 : decode cX9_isLoose 64 = .ok (.ireturn, 1) := by decide +kernel
theorem dX9_buildTree_0 : decode cX9_buildTree 0 = .ok (.aload_n 0, 1) := by decide +kernel
theorem dX9_buildTree_1 : decode cX9_buildTree 1 = .ok (.iconst 0, 1) := by decide +kernel
theorem dX9_buildTree_2 : decode cX9_buildTree 2 = .ok (.putfield 236, 3) := by decide +kernel
theorem dX9_buildTree_5 : decode cX9_buildTree 5 = .ok (.aload_n 0, 1) := by decide +kernel
theorem dX9_buildTree_6 : decode cX9_buildTree 6 = .ok (.aload_n 0, 1) := by decide +kernel
theorem dX9_buildTree_7 : decode cX9_buildTree 7 = .ok (.getfield 189, 3) := by decide +kernel
theorem dX9_buildTree_10 : decode cX9_buildTree 10 = .ok (.iconst 0, 1) := by decide +kernel
theorem dX9_buildTree_11 : decode cX9_buildTree 11 = .ok (.iconst 0, 1) := by decide +kernel
theorem dX9_buildTree_12 : decode cX9_buildTree 12 = .ok (.aload_n 0, 1) := by decide +kernel
theorem dX9_buildTree_13 : decode cX9_buildTree 13 = .ok (.getfield 220, 3) := by decide +kernel
theorem dX9_buildTree_16 : decode cX9_buildTree 16 = .ok (.iconst 0, 1) := by decide +kernel
theorem dX9_buildTree_17 : decode cX9_buildTree 17 = .ok (.iconst (-1), 1) := by decide +kernel
theorem dX9_buildTree_18 : decode cX9_buildTree 18 = .ok (.invokevirtual 239, 3) := by decide +kernel
theorem dX9_buildTree_21 : decode cX9_buildTree 21 = .ok (.pop, 1) := by decide +kernel
theorem dX9_buildTree_22 : decode cX9_buildTree 22 = .ok (.aload_n 0, 1) := by decide +kernel
theorem dX9_buildTree_23 : decode cX9_buildTree 23 = .ok (.iconst 0, 1) := by decide +kernel
theorem dX9_buildTree_24 : decode cX9_buildTree 24 = .ok (.iconst 0, 1) := by decide +kernel
theorem dX9_buildTree_25 : decode cX9_buildTree 25 = .ok (.invokevirtual 243, 3) := by decide +kernel
theorem dX9_buildTree_28 : decode cX9_buildTree 28 = .ok (.iconst 0, 1) := by decide +kernel
theorem dX9_buildTree_29 : decode cX9_buildTree 29 = .ok (.istore_n 1, 1) := by decide +kernel
theorem dX9_buildTree_30 : decode cX9_buildTree 30 = .ok (.iload_n 1, 1) := by decide +kernel
theorem dX9_buildTree_31 : decode cX9_buildTree 31 = .ok (.ifCond .lt 232, 3) := by decide +kernel
theorem dX9_buildTree_34 : decode cX9_buildTree 34 = .ok (.aload_n 0, 1) := by decide +kernel
theorem dX9_buildTree_35 : decode cX9_buildTree 35 = .ok (.getfield 86, 3) := by decide +kernel
theorem dX9_buildTree_38 : decode cX9_buildTree 38 = .ok (.iload_n 1, 1) := by decide +kernel
theorem dX9_buildTree_39 : decode cX9_buildTree 39 = .ok (.iaload, 1) := by decide +kernel
theorem dX9_buildTree_40 : decode cX9_buildTree 40 = .ok (.istore_n 2, 1) := by decide +kernel
theorem dX9_buildTree_41 : decode cX9_buildTree 41 = .ok (.iload_n 2, 1) := by decide +kernel
theorem dX9_buildTree_42 : decode cX9_buildTree 42 = .ok (.aload_n 0, 1) := by decide +kernel
theorem dX9_buildTree_43 : decode cX9_buildTree 43 = .ok (.getfield 89, 3) := by decide +kernel
theorem dX9_buildTree_46 : decode cX9_buildTree 46 = .ok (.iload_n 1, 1) := by decide +kernel
theorem dX9_buildTree_47 : decode cX9_buildTree 47 = .ok (.iaload, 1) := by decide +kernel
theorem dX9_buildTree_48 : decode cX9_buildTree 48 = .ok (.if_icmp .ne 9, 3) := by decide +kernel
theorem dX9_buildTree_51 : decode cX9_buildTree 51 = .ok (.iinc 1 (-1), 3) := by decide +kernel
theorem dX9_buildTree_54 : decode cX9_buildTree 54 = .ok (.goto 206, 3) := by decide +kernel
theorem dX9_buildTree_57 : decode cX9_buildTree 57 = .ok (.aload_n 0, 1) := by decide +kernel
theorem dX9_buildTree_58 : decode cX9_buildTree 58 = .ok (.getfield 38, 3) := by decide +kernel
theorem dX9_buildTree_61 : decode cX9_buildTree 61 = .ok (.iload_n 2, 1) := by decide +kernel
theorem dX9_buildTree_62 : decode cX9_buildTree 62 = .ok (.iaload, 1) := by decide +kernel
theorem dX9_buildTree_63 : decode cX9_buildTree 63 = .ok (.ifCond .ne 38, 3) := by decide +kernel
theorem dX9_buildTree_66 : decode cX9_buildTree 66 = .ok (.aload_n 0, 1) := by decide +kernel
theorem dX9_buildTree_67 : decode cX9_buildTree 67 = .ok (.getfield 35, 3) := by decide +kernel
theorem dX9_buildTree_70 : decode cX9_buildTree 70 = .ok (.iload_n 2, 1) := by decide +kernel
theorem dX9_buildTree_71 : decode cX9_buildTree 71 = .ok (.iaload, 1) := by decide +kernel
theorem dX9_buildTree_72 : decode cX9_buildTree 72 = .ok (.invokestatic 149, 3) := by decide +kernel
theorem dX9_buildTree_75 : decode cX9_buildTree 75 = .ok (.ifCond .ne 26, 3) := by decide +kernel
theorem dX9_buildTree_78 : decode cX9_buildTree 78 = .ok (.aload_n 0, 1) := by decide +kernel
theorem dX9_buildTree_79 : decode cX9_buildTree 79 = .ok (.getfield 86, 3) := by decide +kernel
theorem dX9_buildTree_82 : decode cX9_buildTree 82 = .ok (.iload_n 1, 1) := by decide +kernel
theorem dX9_buildTree_83 : decode cX9_buildTree 83 = .ok (.dup2, 1) := by decide +kernel
theorem dX9_buildTree_84 : decode cX9_buildTree 84 = .ok (.iaload, 1) := by decide +kernel
theorem dX9_buildTree_85 : decode cX9_buildTree 85 = .ok (.iconst 1, 1) := by decide +kernel
theorem dX9_buildTree_86 : decode cX9_buildTree 86 = .ok (.iadd, 1) := by decide +kernel
theorem dX9_buildTree_87 : decode cX9_buildTree 87 = .ok (.iastore, 1) := by decide +kernel
theorem dX9_buildTree_88 : decode cX9_buildTree 88 = .ok (.aload_n 0, 1) := by decide +kernel
theorem dX9_buildTree_89 : decode cX9_buildTree 89 = .ok (.getfield 92, 3) := by decide +kernel
theorem dX9_buildTree_92 : decode cX9_buildTree 92 = .ok (.iload_n 1, 1) := by decide +kernel
theorem dX9_buildTree_93 : decode cX9_buildTree 93 = .ok (.dup2, 1) := by decide +kernel
theorem dX9_buildTree_94 : decode cX9_buildTree 94 = .ok (.iaload, 1) := by decide +kernel
theorem dX9_buildTree_95 : decode cX9_buildTree 95 = .ok (.iconst 1, 1) := by decide +kernel
theorem dX9_buildTree_96 : decode cX9_buildTree 96 = .ok (.iadd, 1) := by decide +kernel
theorem dX9_buildTree_97 : decode cX9_buildTree 97 = .ok (.iastore, 1) := by decide +kernel
theorem dX9_buildTree_98 : decode cX9_buildTree 98 = .ok (.goto 162, 3) := by decide +kernel
theorem dX9_buildTree_101 : decode cX9_buildTree 101 = .ok (.aload_n 0, 1) := by decide +kernel
theorem dX9_buildTree_102 : decode cX9_buildTree 102 = .ok (.getfield 92, 3) := by decide +kernel
theorem dX9_buildTree_105 : decode cX9_buildTree 105 = .ok (.iload_n 1, 1) := by decide +kernel
theorem dX9_buildTree_106 : decode cX9_buildTree 106 = .ok (.iaload, 1) := by decide +kernel
theorem dX9_buildTree_107 : decode cX9_buildTree 107 = .ok (.istore_n 3, 1) := by decide +kernel
theorem dX9_buildTree_108 : decode cX9_buildTree 108 = .ok (.aload_n 0, 1) := by decide +kernel
theorem dX9_buildTree_109 : decode cX9_buildTree 109 = .ok (.iload_n 2, 1) := by decide +kernel
theorem dX9_buildTree_110 : decode cX9_buildTree 110 = .ok (.iload_n 3, 1) := by decide +kernel
theorem dX9_buildTree_111 : decode cX9_buildTree 111 = .ok (.aload_n 0, 1) := by decide +kernel
theorem dX9_buildTree_112 : decode cX9_buildTree 112 = .ok (.getfield 95, 3) := by decide +kernel
theorem dX9_buildTree_115 : decode cX9_buildTree 115 = .ok (.iload_n 1, 1) := by decide +kernel
theorem dX9_buildTree_116 : decode cX9_buildTree 116 = .ok (.iaload, 1) := by decide +kernel
theorem dX9_buildTree_117 : decode cX9_buildTree 117 = .ok (.invokevirtual 246, 3) := by decide +kernel
theorem dX9_buildTree_120 : decode cX9_buildTree 120 = .ok (.istore 4, 2) := by decide +kernel
theorem dX9_buildTree_122 : decode cX9_buildTree 122 = .ok (.iload 4, 2) := by decide +kernel
theorem dX9_buildTree_124 : decode cX9_buildTree 124 = .ok (.ifCond .ge 23, 3) := by decide +kernel
theorem dX9_buildTree_127 : decode cX9_buildTree 127 = .ok (.aload_n 0, 1) := by decide +kernel
theorem dX9_buildTree_128 : decode cX9_buildTree 128 = .ok (.getfield 86, 3) := by decide +kernel
theorem dX9_buildTree_131 : decode cX9_buildTree 131 = .ok (.iload_n 1, 1) := by decide +kernel
theorem dX9_buildTree_132 : decode cX9_buildTree 132 = .ok (.dup2, 1) := by decide +kernel
theorem dX9_buildTree_133 : decode cX9_buildTree 133 = .ok (.iaload, 1) := by decide +kernel
theorem dX9_buildTree_134 : decode cX9_buildTree 134 = .ok (.iconst 1, 1) := by decide +kernel
theorem dX9_buildTree_135 : decode cX9_buildTree 135 = .ok (.iadd, 1) := by decide +kernel
theorem dX9_buildTree_136 : decode cX9_buildTree 136 = .ok (.iastore, 1) := by decide +kernel
theorem dX9_buildTree_137 : decode cX9_buildTree 137 = .ok (.aload_n 0, 1) := by decide +kernel
theorem dX9_buildTree_138 : decode cX9_buildTree 138 = .ok (.getfield 95, 3) := by decide +kernel
theorem dX9_buildTree_141 : decode cX9_buildTree 141 = .ok (.iload_n 1, 1) := by decide +kernel
theorem dX9_buildTree_142 : decode cX9_buildTree 142 = .ok (.iconst 0, 1) := by decide +kernel
theorem dX9_buildTree_143 : decode cX9_buildTree 143 = .ok (.iastore, 1) := by decide +kernel
theorem dX9_buildTree_144 : decode cX9_buildTree 144 = .ok (.goto 116, 3) := by decide +kernel
theorem dX9_buildTree_147 : decode cX9_buildTree 147 = .ok (.aload_n 0, 1) := by decide +kernel
theorem dX9_buildTree_148 : decode cX9_buildTree 148 = .ok (.getfield 35, 3) := by decide +kernel
theorem dX9_buildTree_151 : decode cX9_buildTree 151 = .ok (.iload_n 2, 1) := by decide +kernel
theorem dX9_buildTree_152 : decode cX9_buildTree 152 = .ok (.iaload, 1) := by decide +kernel
theorem dX9_buildTree_153 : decode cX9_buildTree 153 = .ok (.invokestatic 149, 3) := by decide +kernel
theorem dX9_buildTree_156 : decode cX9_buildTree 156 = .ok (.istore 5, 2) := by decide +kernel
theorem dX9_buildTree_158 : decode cX9_buildTree 158 = .ok (.aload_n 0, 1) := by decide +kernel
theorem dX9_buildTree_159 : decode cX9_buildTree 159 = .ok (.getfield 83, 3) := by decide +kernel
theorem dX9_buildTree_162 : decode cX9_buildTree 162 = .ok (.iload_n 1, 1) := by decide +kernel
theorem dX9_buildTree_163 : decode cX9_buildTree 163 = .ok (.iaload, 1) := by decide +kernel
theorem dX9_buildTree_164 : decode cX9_buildTree 164 = .ok (.istore 6, 2) := by decide +kernel
theorem dX9_buildTree_166 : decode cX9_buildTree 166 = .ok (.aload_n 0, 1) := by decide +kernel
theorem dX9_buildTree_167 : decode cX9_buildTree 167 = .ok (.iload 5, 2) := by decide +kernel
theorem dX9_buildTree_169 : decode cX9_buildTree 169 = .ok (.ifCond .eq 15, 3) := by decide +kernel
theorem dX9_buildTree_172 : decode cX9_buildTree 172 = .ok (.aload_n 0, 1) := by decide +kernel
theorem dX9_buildTree_173 : decode cX9_buildTree 173 = .ok (.getfield 35, 3) := by decide +kernel
theorem dX9_buildTree_176 : decode cX9_buildTree 176 = .ok (.iload_n 2, 1) := by decide +kernel
theorem dX9_buildTree_177 : decode cX9_buildTree 177 = .ok (.iaload, 1) := by decide +kernel
theorem dX9_buildTree_178 : decode cX9_buildTree 178 = .ok (.bipush 65, 2) := by decide +kernel
theorem dX9_buildTree_180 : decode cX9_buildTree 180 = .ok (.isub, 1) := by decide +kernel
theorem dX9_buildTree_181 : decode cX9_buildTree 181 = .ok (.goto 5, 3) := by decide +kernel
theorem dX9_buildTree_184 : decode cX9_buildTree 184 = .ok (.bipush 6, 2) := by decide +kernel
theorem dX9_buildTree_186 : decode cX9_buildTree 186 = .ok (.aload_n 0, 1) := by decide +kernel
theorem dX9_buildTree_187 : decode cX9_buildTree 187 = .ok (.iload_n 2, 1) := by decide +kernel
theorem dX9_buildTree_188 : decode cX9_buildTree 188 = .ok (.iload 4, 2) := by decide +kernel
theorem dX9_buildTree_190 : decode cX9_buildTree 190 = .ok (.aload_n 0, 1) := by decide +kernel
theorem dX9_buildTree_191 : decode cX9_buildTree 191 = .ok (.getfield 95, 3) := by decide +kernel
theorem dX9_buildTree_194 : decode cX9_buildTree 194 = .ok (.iload_n 1, 1) := by decide +kernel
theorem dX9_buildTree_195 : decode cX9_buildTree 195 = .ok (.iaload, 1) := by decide +kernel
theorem dX9_buildTree_196 : decode cX9_buildTree 196 = .ok (.invokevirtual 250, 3) := by decide +kernel
theorem dX9_buildTree_199 : decode cX9_buildTree 199 = .ok (.iload_n 3, 1) := by decide +kernel
theorem dX9_buildTree_200 : decode cX9_buildTree 200 = .ok (.iload 4, 2) := by decide +kernel
theorem dX9_buildTree_202 : decode cX9_buildTree 202 = .ok (.iload_n 3, 1) := by decide +kernel
theorem dX9_buildTree_203 : decode cX9_buildTree 203 = .ok (.isub, 1) := by decide +kernel
theorem dX9_buildTree_204 : decode cX9_buildTree 204 = .ok (.aload_n 0, 1) := by decide +kernel
theorem dX9_buildTree_205 : decode cX9_buildTree 205 = .ok (.getfield 77, 3) := by decide +kernel
theorem dX9_buildTree_208 : decode cX9_buildTree 208 = .ok (.iload 6, 2) := by decide +kernel
theorem dX9_buildTree_210 : decode cX9_buildTree 210 = .ok (.iaload, 1) := by decide +kernel
theorem dX9_buildTree_211 : decode cX9_buildTree 211 = .ok (.iconst 1, 1) := by decide +kernel
theorem dX9_buildTree_212 : decode cX9_buildTree 212 = .ok (.iadd, 1) := by decide +kernel
theorem dX9_buildTree_213 : decode cX9_buildTree 213 = .ok (.iload 6, 2) := by decide +kernel
theorem dX9_buildTree_215 : decode cX9_buildTree 215 = .ok (.invokevirtual 239, 3) := by decide +kernel
theorem dX9_buildTree_218 : decode cX9_buildTree 218 = .ok (.ifCond .ne 5, 3) := by decide +kernel
theorem dX9_buildTree_221 : decode cX9_buildTree 221 = .ok (.iconst 0, 1) := by decide +kernel
theorem dX9_buildTree_222 : decode cX9_buildTree 222 = .ok (.ireturn, 1) := by decide +kernel
theorem dX9_buildTree_223 : decode cX9_buildTree 223 = .ok (.aload_n 0, 1) := by decide +kernel
theorem dX9_buildTree_224 : decode cX9_buildTree 224 = .ok (.getfield 95, 3) := by decide +kernel
theorem dX9_buildTree_227 : decode cX9_buildTree 227 = .ok (.iload_n 1, 1) := by decide +kernel
theorem dX9_buildTree_228 : decode cX9_buildTree 228 = .ok (.dup2, 1) := by decide +kernel
theorem dX9_buildTree_229 : decode cX9_buildTree 229 = .ok (.iaload, 1) := by decide +kernel
theorem dX9_buildTree_230 : decode cX9_buildTree 230 = .ok (.iconst 1, 1) := by decide +kernel
theorem dX9_buildTree_231 : decode cX9_buildTree 231 = .ok (.iadd, 1) := by decide +kernel
theorem dX9_buildTree_232 : decode cX9_buildTree 232 = .ok (.iastore, 1) := by decide +kernel
theorem dX9_buildTree_233 : decode cX9_buildTree 233 = .ok (.aload_n 0, 1) := by decide +kernel
theorem dX9_buildTree_234 : decode cX9_buildTree 234 = .ok (.getfield 92, 3) := by decide +kernel
theorem dX9_buildTree_237 : decode cX9_buildTree 237 = .ok (.iload_n 1, 1) := by decide +kernel
theorem dX9_buildTree_238 : decode cX9_buildTree 238 = .ok (.iload 4, 2) := by decide +kernel
theorem dX9_buildTree_240 : decode cX9_buildTree 240 = .ok (.iastore, 1) := by decide +kernel
theorem dX9_buildTree_241 : decode cX9_buildTree 241 = .ok (.iload 5, 2) := by decide +kernel
theorem dX9_buildTree_243 : decode cX9_buildTree 243 = .ok (.ifCond .eq 17, 3) := by decide +kernel
theorem dX9_buildTree_246 : decode cX9_buildTree 246 = .ok (.iinc 1 1, 3) := by decide +kernel
theorem dX9_buildTree_249 : decode cX9_buildTree 249 = .ok (.aload_n 0, 1) := by decide +kernel
theorem dX9_buildTree_250 : decode cX9_buildTree 250 = .ok (.iload_n 1, 1) := by decide +kernel
theorem dX9_buildTree_251 : decode cX9_buildTree 251 = .ok (.aload_n 0, 1) := by decide +kernel
theorem dX9_buildTree_252 : decode cX9_buildTree 252 = .ok (.getfield 236, 3) := by decide +kernel
theorem dX9_buildTree_255 : decode cX9_buildTree 255 = .ok (.iconst 1, 1) := by decide +kernel
theorem dX9_buildTree_256 : decode cX9_buildTree 256 = .ok (.isub, 1) := by decide +kernel
theorem dX9_buildTree_257 : decode cX9_buildTree 257 = .ok (.invokevirtual 243, 3) := by decide +kernel
theorem dX9_buildTree_260 : decode cX9_buildTree 260 = .ok (.goto (-230), 3) := by decide +kernel
theorem dX9_buildTree_263 : decode cX9_buildTree 263 = .ok (.iconst 1, 1) := by decide +kernel
theorem dX9_buildTree_264 : decode cX9_buildTree 264 = .ok (.ireturn, 1) := by decide +kernel
theorem dX9_parse_0 : decode cX9_parse 0 = .ok (.aload_n 0, 1) := by decide +kernel
theorem dX9_parse_1 : decode cX9_parse 1 = .ok (.iload_n 2, 1) := by decide +kernel
theorem dX9_parse_2 : decode cX9_parse 2 = .ok (.putfield 220, 3) := by decide +kernel
theorem dX9_parse_5 : decode cX9_parse 5 = .ok (.iconst 0, 1) := by decide +kernel
theorem dX9_parse_6 : decode cX9_parse 6 = .ok (.istore_n 3, 1) := by decide +kernel
theorem dX9_parse_7 : decode cX9_parse 7 = .ok (.iload_n 3, 1) := by decide +kernel
theorem dX9_parse_8 : decode cX9_parse 8 = .ok (.iload_n 2, 1) := by decide +kernel
theorem dX9_parse_9 : decode cX9_parse 9 = .ok (.if_icmp .ge 18, 3) := by decide +kernel
theorem dX9_parse_12 : decode cX9_parse 12 = .ok (.aload_n 0, 1) := by decide +kernel
theorem dX9_parse_13 : decode cX9_parse 13 = .ok (.getfield 59, 3) := by decide +kernel
theorem dX9_parse_16 : decode cX9_parse 16 = .ok (.iload_n 3, 1) := by decide +kernel
theorem dX9_parse_17 : decode cX9_parse 17 = .ok (.aload_n 1, 1) := by decide +kernel
theorem dX9_parse_18 : decode cX9_parse 18 = .ok (.iload_n 3, 1) := by decide +kernel
theorem dX9_parse_19 : decode cX9_parse 19 = .ok (.iaload, 1) := by decide +kernel
theorem dX9_parse_20 : decode cX9_parse 20 = .ok (.iastore, 1) := by decide +kernel
theorem dX9_parse_21 : decode cX9_parse 21 = .ok (.iinc 3 1, 3) := by decide +kernel
theorem dX9_parse_24 : decode cX9_parse 24 = .ok (.goto (-17), 3) := by decide +kernel
theorem dX9_parse_27 : decode cX9_parse 27 = .ok (.aload_n 0, 1) := by decide +kernel
theorem dX9_parse_28 : decode cX9_parse 28 = .ok (.iconst 0, 1) := by decide +kernel
theorem dX9_parse_29 : decode cX9_parse 29 = .ok (.putfield 236, 3) := by decide +kernel
theorem dX9_parse_32 : decode cX9_parse 32 = .ok (.aload_n 0, 1) := by decide +kernel
theorem dX9_parse_33 : decode cX9_parse 33 = .ok (.getfield 201, 3) := by decide +kernel
theorem dX9_parse_36 : decode cX9_parse 36 = .ok (.ifCond .ne 5, 3) := by decide +kernel
theorem dX9_parse_39 : decode cX9_parse 39 = .ok (.iconst 0, 1) := by decide +kernel
theorem dX9_parse_40 : decode cX9_parse 40 = .ok (.ireturn, 1) := by decide +kernel
theorem dX9_parse_41 : decode cX9_parse 41 = .ok (.aload_n 0, 1) := by decide +kernel
theorem dX9_parse_42 : decode cX9_parse 42 = .ok (.invokevirtual 253, 3) := by decide +kernel
theorem dX9_parse_45 : decode cX9_parse 45 = .ok (.aload_n 0, 1) := by decide +kernel
theorem dX9_parse_46 : decode cX9_parse 46 = .ok (.getfield 62, 3) := by decide +kernel
theorem dX9_parse_49 : decode cX9_parse 49 = .ok (.bipush 33, 2) := by decide +kernel
theorem dX9_parse_51 : decode cX9_parse 51 = .ok (.aload_n 0, 1) := by decide +kernel
theorem dX9_parse_52 : decode cX9_parse 52 = .ok (.getfield 189, 3) := by decide +kernel
theorem dX9_parse_55 : decode cX9_parse 55 = .ok (.imul, 1) := by decide +kernel
theorem dX9_parse_56 : decode cX9_parse 56 = .ok (.iaload, 1) := by decide +kernel
theorem dX9_parse_57 : decode cX9_parse 57 = .ok (.iload_n 2, 1) := by decide +kernel
theorem dX9_parse_58 : decode cX9_parse 58 = .ok (.if_icmp .ne 14, 3) := by decide +kernel
theorem dX9_parse_61 : decode cX9_parse 61 = .ok (.aload_n 0, 1) := by decide +kernel
theorem dX9_parse_62 : decode cX9_parse 62 = .ok (.invokevirtual 256, 3) := by decide +kernel
theorem dX9_parse_65 : decode cX9_parse 65 = .ok (.ifCond .eq 7, 3) := by decide +kernel
theorem dX9_parse_68 : decode cX9_parse 68 = .ok (.iconst 1, 1) := by decide +kernel
theorem dX9_parse_69 : decode cX9_parse 69 = .ok (.goto 4, 3) := by decide +kernel
theorem dX9_parse_72 : decode cX9_parse 72 = .ok (.iconst 0, 1) := by decide +kernel
theorem dX9_parse_73 : decode cX9_parse 73 = .ok (.istore_n 3, 1) := by decide +kernel
theorem dX9_parse_74 : decode cX9_parse 74 = .ok (.aload_n 0, 1) := by decide +kernel
theorem dX9_parse_75 : decode cX9_parse 75 = .ok (.iload_n 3, 1) := by decide +kernel
theorem dX9_parse_76 : decode cX9_parse 76 = .ok (.ifCond .eq 10, 3) := by decide +kernel
theorem dX9_parse_79 : decode cX9_parse 79 = .ok (.aload_n 0, 1) := by decide +kernel
theorem dX9_parse_80 : decode cX9_parse 80 = .ok (.getfield 236, 3) := by decide +kernel
theorem dX9_parse_83 : decode cX9_parse 83 = .ok (.goto 4, 3) := by decide +kernel
theorem dX9_parse_86 : decode cX9_parse 86 = .ok (.iconst 0, 1) := by decide +kernel
theorem dX9_parse_87 : decode cX9_parse 87 = .ok (.putfield 236, 3) := by decide +kernel
