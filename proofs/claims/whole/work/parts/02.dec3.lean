theorem dX9_parse_90 : decode cX9_parse 90 = .ok (.iload_n 3, 1) := by decide +kernel
theorem dX9_parse_91 : decode cX9_parse 91 = .ok (.ireturn, 1) := by decide +kernel
theorem dX9_nodes_0 : decode cX9_nodes 0 = .ok (.aload_n 0, 1) := by decide +kernel
theorem dX9_nodes_1 : decode cX9_nodes 1 = .ok (.aload_n 0, 1) := by decide +kernel
theorem dX9_nodes_2 : decode cX9_nodes 2 = .ok (.getfield 7, 3) := by decide +kernel
theorem dX9_nodes_5 : decode cX9_nodes 5 = .ok (.aload_n 0, 1) := by decide +kernel
theorem dX9_nodes_6 : decode cX9_nodes 6 = .ok (.getfield 145, 3) := by decide +kernel
theorem dX9_nodes_9 : decode cX9_nodes 9 = .ok (.invokevirtual 259, 3) := by decide +kernel
theorem dX9_nodes_12 : decode cX9_nodes 12 = .ok (.istore_n 1, 1) := by decide +kernel
theorem dX9_nodes_13 : decode cX9_nodes 13 = .ok (.aload_n 0, 1) := by decide +kernel
theorem dX9_nodes_14 : decode cX9_nodes 14 = .ok (.getfield 201, 3) := by decide +kernel
theorem dX9_nodes_17 : decode cX9_nodes 17 = .ok (.ifCond .eq 18, 3) := by decide +kernel
theorem dX9_nodes_20 : decode cX9_nodes 20 = .ok (.iload_n 1, 1) := by decide +kernel
theorem dX9_nodes_21 : decode cX9_nodes 21 = .ok (.ifCond .eq 10, 3) := by decide +kernel
theorem dX9_nodes_24 : decode cX9_nodes 24 = .ok (.aload_n 0, 1) := by decide +kernel
theorem dX9_nodes_25 : decode cX9_nodes 25 = .ok (.getfield 236, 3) := by decide +kernel
theorem dX9_nodes_28 : decode cX9_nodes 28 = .ok (.goto 8, 3) := by decide +kernel
theorem dX9_nodes_31 : decode cX9_nodes 31 = .ok (.iconst 0, 1) := by decide +kernel
theorem dX9_nodes_32 : decode cX9_nodes 32 = .ok (.goto 4, 3) := by decide +kernel
theorem dX9_nodes_35 : decode cX9_nodes 35 = .ok (.iconst (-1), 1) := by decide +kernel
theorem dX9_nodes_36 : decode cX9_nodes 36 = .ok (.ireturn, 1) := by decide +kernel
theorem dX9_node_0 : decode cX9_node 0 = .ok (.aload_n 0, 1) := by decide +kernel
theorem dX9_node_1 : decode cX9_node 1 = .ok (.aload_n 0, 1) := by decide +kernel
theorem dX9_node_2 : decode cX9_node 2 = .ok (.getfield 7, 3) := by decide +kernel
theorem dX9_node_5 : decode cX9_node 5 = .ok (.aload_n 0, 1) := by decide +kernel
theorem dX9_node_6 : decode cX9_node 6 = .ok (.getfield 145, 3) := by decide +kernel
theorem dX9_node_9 : decode cX9_node 9 = .ok (.invokevirtual 259, 3) := by decide +kernel
theorem dX9_node_12 : decode cX9_node 12 = .ok (.ifCond .eq 19, 3) := by decide +kernel
theorem dX9_node_15 : decode cX9_node 15 = .ok (.iload_n 1, 1) := by decide +kernel
theorem dX9_node_16 : decode cX9_node 16 = .ok (.ifCond .lt 15, 3) := by decide +kernel
theorem dX9_node_19 : decode cX9_node 19 = .ok (.iload_n 1, 1) := by decide +kernel
theorem dX9_node_20 : decode cX9_node 20 = .ok (.aload_n 0, 1) := by decide +kernel
theorem dX9_node_21 : decode cX9_node 21 = .ok (.getfield 236, 3) := by decide +kernel
theorem dX9_node_24 : decode cX9_node 24 = .ok (.if_icmp .ge 7, 3) := by decide +kernel
theorem dX9_node_27 : decode cX9_node 27 = .ok (.iconst 1, 1) := by decide +kernel
theorem dX9_node_28 : decode cX9_node 28 = .ok (.goto 4, 3) := by decide +kernel
theorem dX9_node_31 : decode cX9_node 31 = .ok (.iconst 0, 1) := by decide +kernel
theorem dX9_node_32 : decode cX9_node 32 = .ok (.istore_n 2, 1) := by decide +kernel
theorem dX9_node_33 : decode cX9_node 33 = .ok (.iload_n 2, 1) := by decide +kernel
theorem dX9_node_34 : decode cX9_node 34 = .ok (.ifCond .eq 44, 3) := by decide +kernel
theorem dX9_node_37 : decode cX9_node 37 = .ok (.sipush 10000, 3) := by decide +kernel
theorem dX9_node_40 : decode cX9_node 40 = .ok (.aload_n 0, 1) := by decide +kernel
theorem dX9_node_41 : decode cX9_node 41 = .ok (.getfield 65, 3) := by decide +kernel
theorem dX9_node_44 : decode cX9_node 44 = .ok (.iload_n 1, 1) := by decide +kernel
theorem dX9_node_45 : decode cX9_node 45 = .ok (.iaload, 1) := by decide +kernel
theorem dX9_node_46 : decode cX9_node 46 = .ok (.imul, 1) := by decide +kernel
theorem dX9_node_47 : decode cX9_node 47 = .ok (.sipush 5000, 3) := by decide +kernel
theorem dX9_node_50 : decode cX9_node 50 = .ok (.aload_n 0, 1) := by decide +kernel
theorem dX9_node_51 : decode cX9_node 51 = .ok (.getfield 68, 3) := by decide +kernel
theorem dX9_node_54 : decode cX9_node 54 = .ok (.iload_n 1, 1) := by decide +kernel
theorem dX9_node_55 : decode cX9_node 55 = .ok (.iaload, 1) := by decide +kernel
theorem dX9_node_56 : decode cX9_node 56 = .ok (.imul, 1) := by decide +kernel
theorem dX9_node_57 : decode cX9_node 57 = .ok (.iadd, 1) := by decide +kernel
theorem dX9_node_58 : decode cX9_node 58 = .ok (.bipush 40, 2) := by decide +kernel
theorem dX9_node_60 : decode cX9_node 60 = .ok (.aload_n 0, 1) := by decide +kernel
theorem dX9_node_61 : decode cX9_node 61 = .ok (.getfield 71, 3) := by decide +kernel
theorem dX9_node_64 : decode cX9_node 64 = .ok (.iload_n 1, 1) := by decide +kernel
theorem dX9_node_65 : decode cX9_node 65 = .ok (.iaload, 1) := by decide +kernel
theorem dX9_node_66 : decode cX9_node 66 = .ok (.imul, 1) := by decide +kernel
theorem dX9_node_67 : decode cX9_node 67 = .ok (.iadd, 1) := by decide +kernel
theorem dX9_node_68 : decode cX9_node 68 = .ok (.aload_n 0, 1) := by decide +kernel
theorem dX9_node_69 : decode cX9_node 69 = .ok (.getfield 74, 3) := by decide +kernel
theorem dX9_node_72 : decode cX9_node 72 = .ok (.iload_n 1, 1) := by decide +kernel
theorem dX9_node_73 : decode cX9_node 73 = .ok (.iaload, 1) := by decide +kernel
theorem dX9_node_74 : decode cX9_node 74 = .ok (.iadd, 1) := by decide +kernel
theorem dX9_node_75 : decode cX9_node 75 = .ok (.goto 4, 3) := by decide +kernel
theorem dX9_node_78 : decode cX9_node 78 = .ok (.iconst (-1), 1) := by decide +kernel
theorem dX9_node_79 : decode cX9_node 79 = .ok (.ireturn, 1) := by decide +kernel
theorem dX9_depth_0 : decode cX9_depth 0 = .ok (.aload_n 0, 1) := by decide +kernel
theorem dX9_depth_1 : decode cX9_depth 1 = .ok (.aload_n 0, 1) := by decide +kernel
theorem dX9_depth_2 : decode cX9_depth 2 = .ok (.getfield 7, 3) := by decide +kernel
theorem dX9_depth_5 : decode cX9_depth 5 = .ok (.aload_n 0, 1) := by decide +kernel
theorem dX9_depth_6 : decode cX9_depth 6 = .ok (.getfield 145, 3) := by decide +kernel
theorem dX9_depth_9 : decode cX9_depth 9 = .ok (.invokevirtual 259, 3) := by decide +kernel
theorem dX9_depth_12 : decode cX9_depth 12 = .ok (.ifCond .eq 19, 3) := by decide +kernel
theorem dX9_depth_15 : decode cX9_depth 15 = .ok (.iload_n 1, 1) := by decide +kernel
theorem dX9_depth_16 : decode cX9_depth 16 = .ok (.ifCond .lt 15, 3) := by decide +kernel
theorem dX9_depth_19 : decode cX9_depth 19 = .ok (.iload_n 1, 1) := by decide +kernel
theorem dX9_depth_20 : decode cX9_depth 20 = .ok (.aload_n 0, 1) := by decide +kernel
theorem dX9_depth_21 : decode cX9_depth 21 = .ok (.getfield 236, 3) := by decide +kernel
theorem dX9_depth_24 : decode cX9_depth 24 = .ok (.if_icmp .ge 7, 3) := by decide +kernel
theorem dX9_depth_27 : decode cX9_depth 27 = .ok (.iconst 1, 1) := by decide +kernel
theorem dX9_depth_28 : decode cX9_depth 28 = .ok (.goto 4, 3) := by decide +kernel
theorem dX9_depth_31 : decode cX9_depth 31 = .ok (.iconst 0, 1) := by decide +kernel
theorem dX9_depth_32 : decode cX9_depth 32 = .ok (.istore_n 2, 1) := by decide +kernel
theorem dX9_depth_33 : decode cX9_depth 33 = .ok (.iload_n 2, 1) := by decide +kernel
theorem dX9_depth_34 : decode cX9_depth 34 = .ok (.ifCond .eq 12, 3) := by decide +kernel
theorem dX9_depth_37 : decode cX9_depth 37 = .ok (.aload_n 0, 1) := by decide +kernel
theorem dX9_depth_38 : decode cX9_depth 38 = .ok (.getfield 77, 3) := by decide +kernel
theorem dX9_depth_41 : decode cX9_depth 41 = .ok (.iload_n 1, 1) := by decide +kernel
theorem dX9_depth_42 : decode cX9_depth 42 = .ok (.iaload, 1) := by decide +kernel
theorem dX9_depth_43 : decode cX9_depth 43 = .ok (.goto 4, 3) := by decide +kernel
theorem dX9_depth_46 : decode cX9_depth 46 = .ok (.iconst (-1), 1) := by decide +kernel
theorem dX9_depth_47 : decode cX9_depth 47 = .ok (.ireturn, 1) := by decide +kernel
theorem dX9_isKnown_0 : decode cX9_isKnown 0 = .ok (.aload_n 0, 1) := by decide +kernel
theorem dX9_isKnown_1 : decode cX9_isKnown 1 = .ok (.getfield 102, 3) := by decide +kernel
theorem dX9_isKnown_4 : decode cX9_isKnown 4 = .ok (.iload_n 1, 1) := by decide +kernel
theorem dX9_isKnown_5 : decode cX9_isKnown 5 = .ok (.iaload, 1) := by decide +kernel
theorem dX9_isKnown_6 : decode cX9_isKnown 6 = .ok (.aload_n 0, 1) := by decide +kernel
theorem dX9_isKnown_7 : decode cX9_isKnown 7 = .ok (.getfield 263, 3) := by decide +kernel
theorem dX9_isKnown_10 : decode cX9_isKnown 10 = .ok (.if_icmp .ne 7, 3) := by decide +kernel
theorem dX9_isKnown_13 : decode cX9_isKnown 13 = .ok (.iconst 1, 1) := by decide +kernel
theorem dX9_isKnown_14 : decode cX9_isKnown 14 = .ok (.goto 4, 3) := by decide +kernel
theorem dX9_isKnown_17 : decode cX9_isKnown 17 = .ok (.iconst 0, 1) := by decide +kernel
theorem dX9_isKnown_18 : decode cX9_isKnown 18 = .ok (.istore_n 2, 1) := by decide +kernel
theorem dX9_isKnown_19 : decode cX9_isKnown 19 = .ok (.iconst 0, 1) := by decide +kernel
theorem dX9_isKnown_20 : decode cX9_isKnown 20 = .ok (.istore_n 3, 1) := by decide +kernel
theorem dX9_isKnown_21 : decode cX9_isKnown 21 = .ok (.iload_n 3, 1) := by decide +kernel
theorem dX9_isKnown_22 : decode cX9_isKnown 22 = .ok (.aload_n 0, 1) := by decide +kernel
theorem dX9_isKnown_23 : decode cX9_isKnown 23 = .ok (.getfield 263, 3) := by decide +kernel
theorem dX9_isKnown_26 : decode cX9_isKnown 26 = .ok (.if_icmp .ge 39, 3) := by decide +kernel
theorem dX9_isKnown_29 : decode cX9_isKnown 29 = .ok (.iload_n 2, 1) := by decide +kernel
theorem dX9_isKnown_30 : decode cX9_isKnown 30 = .ok (.ifCond .eq 35, 3) := by decide +kernel
theorem dX9_isKnown_33 : decode cX9_isKnown 33 = .ok (.aload_n 0, 1) := by decide +kernel
theorem dX9_isKnown_34 : decode cX9_isKnown 34 = .ok (.getfield 105, 3) := by decide +kernel
theorem dX9_isKnown_37 : decode cX9_isKnown 37 = .ok (.bipush 32, 2) := by decide +kernel
theorem dX9_isKnown_39 : decode cX9_isKnown 39 = .ok (.iload_n 1, 1) := by decide +kernel
theorem dX9_isKnown_40 : decode cX9_isKnown 40 = .ok (.imul, 1) := by decide +kernel
theorem dX9_isKnown_41 : decode cX9_isKnown 41 = .ok (.iload_n 3, 1) := by decide +kernel
theorem dX9_isKnown_42 : decode cX9_isKnown 42 = .ok (.iadd, 1) := by decide +kernel
theorem dX9_isKnown_43 : decode cX9_isKnown 43 = .ok (.iaload, 1) := by decide +kernel
theorem dX9_isKnown_44 : decode cX9_isKnown 44 = .ok (.aload_n 0, 1) := by decide +kernel
theorem dX9_isKnown_45 : decode cX9_isKnown 45 = .ok (.getfield 108, 3) := by decide +kernel
theorem dX9_isKnown_48 : decode cX9_isKnown 48 = .ok (.iload_n 3, 1) := by decide +kernel
theorem dX9_isKnown_49 : decode cX9_isKnown 49 = .ok (.iaload, 1) := by decide +kernel
theorem dX9_isKnown_50 : decode cX9_isKnown 50 = .ok (.if_icmp .ne 7, 3) := by decide +kernel
theorem dX9_isKnown_53 : decode cX9_isKnown 53 = .ok (.iconst 1, 1) := by decide +kernel
theorem dX9_isKnown_54 : decode cX9_isKnown 54 = .ok (.goto 4, 3) := by decide +kernel
theorem dX9_isKnown_57 : decode cX9_isKnown 57 = .ok (.iconst 0, 1) := by decide +kernel
theorem dX9_isKnown_58 : decode cX9_isKnown 58 = .ok (.istore_n 2, 1) := by decide +kernel
theorem dX9_isKnown_59 : decode cX9_isKnown 59 = .ok (.iinc 3 1, 3) := by decide +kernel
theorem dX9_isKnown_62 : decode cX9_isKnown 62 = .ok (.goto (-41), 3) := by decide +kernel
theorem dX9_isKnown_65 : decode cX9_isKnown 65 = .ok (.iload_n 2, 1) := by decide +kernel
theorem dX9_isKnown_66 : decode cX9_isKnown 66 = .ok (.ireturn, 1) := by decide +kernel
theorem dX9_keep_0 : decode cX9_keep 0 = .ok (.aload_n 0, 1) := by decide +kernel
theorem dX9_keep_1 : decode cX9_keep 1 = .ok (.getfield 166, 3) := by decide +kernel
theorem dX9_keep_4 : decode cX9_keep 4 = .ok (.bipush 24, 2) := by decide +kernel
theorem dX9_keep_6 : decode cX9_keep 6 = .ok (.if_icmp .ne 76, 3) := by decide +kernel
theorem dX9_keep_9 : decode cX9_keep 9 = .ok (.iconst 0, 1) := by decide +kernel
theorem dX9_keep_10 : decode cX9_keep 10 = .ok (.istore_n 1, 1) := by decide +kernel
theorem dX9_keep_11 : decode cX9_keep 11 = .ok (.iload_n 1, 1) := by decide +kernel
theorem dX9_keep_12 : decode cX9_keep 12 = .ok (.bipush 23, 2) := by decide +kernel
theorem dX9_keep_14 : decode cX9_keep 14 = .ok (.if_icmp .ge 62, 3) := by decide +kernel
theorem dX9_keep_17 : decode cX9_keep 17 = .ok (.aload_n 0, 1) := by decide +kernel
theorem dX9_keep_18 : decode cX9_keep 18 = .ok (.getfield 102, 3) := by decide +kernel
theorem dX9_keep_21 : decode cX9_keep 21 = .ok (.iload_n 1, 1) := by decide +kernel
theorem dX9_keep_22 : decode cX9_keep 22 = .ok (.aload_n 0, 1) := by decide +kernel
theorem dX9_keep_23 : decode cX9_keep 23 = .ok (.getfield 102, 3) := by decide +kernel
theorem dX9_keep_26 : decode cX9_keep 26 = .ok (.iload_n 1, 1) := by decide +kernel
theorem dX9_keep_27 : decode cX9_keep 27 = .ok (.iconst 1, 1) := by decide +kernel
theorem dX9_keep_28 : decode cX9_keep 28 = .ok (.iadd, 1) := by decide +kernel
theorem dX9_keep_29 : decode cX9_keep 29 = .ok (.iaload, 1) := by decide +kernel
theorem dX9_keep_30 : decode cX9_keep 30 = .ok (.iastore, 1) := by decide +kernel
theorem dX9_keep_31 : decode cX9_keep 31 = .ok (.iconst 0, 1) := by decide +kernel
theorem dX9_keep_32 : decode cX9_keep 32 = .ok (.istore_n 2, 1) := by decide +kernel
theorem dX9_keep_33 : decode cX9_keep 33 = .ok (.iload_n 2, 1) := by decide +kernel
theorem dX9_keep_34 : decode cX9_keep 34 = .ok (.bipush 32, 2) := by decide +kernel
theorem dX9_keep_36 : decode cX9_keep 36 = .ok (.if_icmp .ge 34, 3) := by decide +kernel
theorem dX9_keep_39 : decode cX9_keep 39 = .ok (.aload_n 0, 1) := by decide +kernel
theorem dX9_keep_40 : decode cX9_keep 40 = .ok (.getfield 105, 3) := by decide +kernel
theorem dX9_keep_43 : decode cX9_keep 43 = .ok (.bipush 32, 2) := by decide +kernel
theorem dX9_keep_45 : decode cX9_keep 45 = .ok (.iload_n 1, 1) := by decide +kernel
theorem dX9_keep_46 : decode cX9_keep 46 = .ok (.imul, 1) := by decide +kernel
theorem dX9_keep_47 : decode cX9_keep 47 = .ok (.iload_n 2, 1) := by decide +kernel
theorem dX9_keep_48 : decode cX9_keep 48 = .ok (.iadd, 1) := by decide +kernel
theorem dX9_keep_49 : decode cX9_keep 49 = .ok (.aload_n 0, 1) := by decide +kernel
theorem dX9_keep_50 : decode cX9_keep 50 = .ok (.getfield 105, 3) := by decide +kernel
theorem dX9_keep_53 : decode cX9_keep 53 = .ok (.bipush 32, 2) := by decide +kernel
theorem dX9_keep_55 : decode cX9_keep 55 = .ok (.iload_n 1, 1) := by decide +kernel
theorem dX9_keep_56 : decode cX9_keep 56 = .ok (.imul, 1) := by decide +kernel
theorem dX9_keep_57 : decode cX9_keep 57 = .ok (.bipush 32, 2) := by decide +kernel
theorem dX9_keep_59 : decode cX9_keep 59 = .ok (.iadd, 1) := by decide +kernel
theorem dX9_keep_60 : decode cX9_keep 60 = .ok (.iload_n 2, 1) := by decide +kernel
theorem dX9_keep_61 : decode cX9_keep 61 = .ok (.iadd, 1) := by decide +kernel
theorem dX9_keep_62 : decode cX9_keep 62 = .ok (.iaload, 1) := by decide +kernel
theorem dX9_keep_63 : decode cX9_keep 63 = .ok (.iastore, 1) := by decide +kernel
theorem dX9_keep_64 : decode cX9_keep 64 = .ok (.iinc 2 1, 3) := by decide +kernel
theorem dX9_keep_67 : decode cX9_keep 67 = .ok (.goto (-34), 3) := by decide +kernel
theorem dX9_keep_70 : decode cX9_keep 70 = .ok (.iinc 1 1, 3) := by decide +kernel
theorem dX9_keep_73 : decode cX9_keep 73 = .ok (.goto (-62), 3) := by decide +kernel
theorem dX9_keep_76 : decode cX9_keep 76 = .ok (.aload_n 0, 1) := by decide +kernel
theorem dX9_keep_77 : decode cX9_keep 77 = .ok (.bipush 23, 2) := by decide +kernel
theorem dX9_keep_79 : decode cX9_keep 79 = .ok (.putfield 166, 3) := by decide +kernel
theorem dX9_keep_82 : decode cX9_keep 82 = .ok (.aload_n 0, 1) := by decide +kernel
theorem dX9_keep_83 : decode cX9_keep 83 = .ok (.getfield 102, 3) := by decide +kernel
theorem dX9_keep_86 : decode cX9_keep 86 = .ok (.aload_n 0, 1) := by decide +kernel
theorem dX9_keep_87 : decode cX9_keep 87 = .ok (.getfield 166, 3) := by decide +kernel
theorem dX9_keep_90 : decode cX9_keep 90 = .ok (.aload_n 0, 1) := by decide +kernel
theorem dX9_keep_91 : decode cX9_keep 91 = .ok (.getfield 263, 3) := by decide +kernel
theorem dX9_keep_94 : decode cX9_keep 94 = .ok (.iastore, 1) := by decide +kernel
theorem dX9_keep_95 : decode cX9_keep 95 = .ok (.iconst 0, 1) := by decide +kernel
theorem dX9_keep_96 : decode cX9_keep 96 = .ok (.istore_n 1, 1) := by decide +kernel
theorem dX9_keep_97 : decode cX9_keep 97 = .ok (.iload_n 1, 1) := by decide +kernel
theorem dX9_keep_98 : decode cX9_keep 98 = .ok (.aload_n 0, 1) := by decide +kernel
theorem dX9_keep_99 : decode cX9_keep 99 = .ok (.getfield 263, 3) := by decide +kernel
theorem dX9_keep_102 : decode cX9_keep 102 = .ok (.if_icmp .ge 29, 3) := by decide +kernel
theorem dX9_keep_105 : decode cX9_keep 105 = .ok (.aload_n 0, 1) := by decide +kernel
theorem dX9_keep_106 : decode cX9_keep 106 = .ok (.getfield 105, 3) := by decide +kernel
theorem dX9_keep_109 : decode cX9_keep 109 = .ok (.bipush 32, 2) := by decide +kernel
theorem dX9_keep_111 : decode cX9_keep 111 = .ok (.aload_n 0, 1) := by decide +kernel
theorem dX9_keep_112 : decode cX9_keep 112 = .ok (.getfield 166, 3) := by decide +kernel
theorem dX9_keep_115 : decode cX9_keep 115 = .ok (.imul, 1) := by decide +kernel
theorem dX9_keep_116 : decode cX9_keep 116 = .ok (.iload_n 1, 1) := by decide +kernel
theorem dX9_keep_117 : decode cX9_keep 117 = .ok (.iadd, 1) := by decide +kernel
theorem dX9_keep_118 : decode cX9_keep 118 = .ok (.aload_n 0, 1) := by decide +kernel
theorem dX9_keep_119 : decode cX9_keep 119 = .ok (.getfield 108, 3) := by decide +kernel
theorem dX9_keep_122 : decode cX9_keep 122 = .ok (.iload_n 1, 1) := by decide +kernel
theorem dX9_keep_123 : decode cX9_keep 123 = .ok (.iaload, 1) := by decide +kernel
theorem dX9_keep_124 : decode cX9_keep 124 = .ok (.iastore, 1) := by decide +kernel
theorem dX9_keep_125 : decode cX9_keep 125 = .ok (.iinc 1 1, 3) := by decide +kernel
theorem dX9_keep_128 : decode cX9_keep 128 = .ok (.goto (-31), 3) := by decide +kernel
theorem dX9_keep_131 : decode cX9_keep 131 = .ok (.aload_n 0, 1) := by decide +kernel
theorem dX9_keep_132 : decode cX9_keep 132 = .ok (.dup, 1) := by decide +kernel
theorem dX9_keep_133 : decode cX9_keep 133 = .ok (.getfield 166, 3) := by decide +kernel
theorem dX9_keep_136 : decode cX9_keep 136 = .ok (.iconst 1, 1) := by decide +kernel
theorem dX9_keep_137 : decode cX9_keep 137 = .ok (.iadd, 1) := by decide +kernel
theorem dX9_keep_138 : decode cX9_keep 138 = .ok (.putfield 166, 3) := by decide +kernel
theorem dX9_keep_141 : decode cX9_keep 141 = .ok (.return_, 1) := by decide +kernel
theorem dX9_ask_0 : decode cX9_ask 0 = .ok (.iconst 0, 1) := by decide +kernel
theorem dX9_ask_1 : decode cX9_ask 1 = .ok (.istore_n 1, 1) := by decide +kernel
theorem dX9_ask_2 : decode cX9_ask 2 = .ok (.iconst 0, 1) := by decide +kernel
theorem dX9_ask_3 : decode cX9_ask 3 = .ok (.istore_n 2, 1) := by decide +kernel
theorem dX9_ask_4 : decode cX9_ask 4 = .ok (.iload_n 2, 1) := by decide +kernel
theorem dX9_ask_5 : decode cX9_ask 5 = .ok (.aload_n 0, 1) := by decide +kernel
theorem dX9_ask_6 : decode cX9_ask 6 = .ok (.getfield 166, 3) := by decide +kernel
theorem dX9_ask_9 : decode cX9_ask 9 = .ok (.if_icmp .ge 27, 3) := by decide +kernel
theorem dX9_ask_12 : decode cX9_ask 12 = .ok (.iload_n 1, 1) := by decide +kernel
theorem dX9_ask_13 : decode cX9_ask 13 = .ok (.ifCond .ne 11, 3) := by decide +kernel
theorem dX9_ask_16 : decode cX9_ask 16 = .ok (.aload_n 0, 1) := by decide +kernel
theorem dX9_ask_17 : decode cX9_ask 17 = .ok (.iload_n 2, 1) := by decide +kernel
theorem dX9_ask_18 : decode cX9_ask 18 = .ok (.invokevirtual 266, 3) := by decide +kernel
theorem dX9_ask_21 : decode cX9_ask 21 = .ok (.ifCond .eq 7, 3) := by decide +kernel
theorem dX9_ask_24 : decode cX9_ask 24 = .ok (.iconst 1, 1) := by decide +kernel
theorem dX9_ask_25 : decode cX9_ask 25 = .ok (.goto 4, 3) := by decide +kernel
theorem dX9_ask_28 : decode cX9_ask 28 = .ok (.iconst 0, 1) := by decide +kernel
theorem dX9_ask_29 : decode cX9_ask 29 = .ok (.istore_n 1, 1) := by decide +kernel
theorem dX9_ask_30 : decode cX9_ask 30 = .ok (.iinc 2 1, 3) := by decide +kernel
theorem dX9_ask_33 : decode cX9_ask 33 = .ok (.goto (-29), 3) := by decide +kernel
theorem dX9_ask_36 : decode cX9_ask 36 = .ok (.iload_n 1, 1) := by decide +kernel
theorem dX9_ask_37 : decode cX9_ask 37 = .ok (.ifCond .ne 17, 3) := by decide +kernel
theorem dX9_ask_40 : decode cX9_ask 40 = .ok (.aload_n 0, 1) := by decide +kernel
theorem dX9_ask_41 : decode cX9_ask 41 = .ok (.getfield 269, 3) := by decide +kernel
theorem dX9_ask_44 : decode cX9_ask 44 = .ok (.ifCond .ne 10, 3) := by decide +kernel
theorem dX9_ask_47 : decode cX9_ask 47 = .ok (.aload_n 0, 1) := by decide +kernel
theorem dX9_ask_48 : decode cX9_ask 48 = .ok (.iconst 1, 1) := by decide +kernel
theorem dX9_ask_49 : decode cX9_ask 49 = .ok (.putfield 272, 3) := by decide +kernel
theorem dX9_ask_52 : decode cX9_ask 52 = .ok (.iconst 0, 1) := by decide +kernel
theorem dX9_ask_53 : decode cX9_ask 53 = .ok (.ireturn, 1) := by decide +kernel
theorem dX9_ask_54 : decode cX9_ask 54 = .ok (.iload_n 1, 1) := by decide +kernel
theorem dX9_ask_55 : decode cX9_ask 55 = .ok (.ifCond .eq 16, 3) := by decide +kernel
theorem dX9_ask_58 : decode cX9_ask 58 = .ok (.aload_n 0, 1) := by decide +kernel
theorem dX9_ask_59 : decode cX9_ask 59 = .ok (.dup, 1) := by decide +kernel
theorem dX9_ask_60 : decode cX9_ask 60 = .ok (.getfield 275, 3) := by decide +kernel
theorem dX9_ask_63 : decode cX9_ask 63 = .ok (.iconst 1, 1) := by decide +kernel
theorem dX9_ask_64 : decode cX9_ask 64 = .ok (.iadd, 1) := by decide +kernel
theorem dX9_ask_65 : decode cX9_ask 65 = .ok (.putfield 275, 3) := by decide +kernel
theorem dX9_ask_68 : decode cX9_ask 68 = .ok (.goto 34, 3) := by decide +kernel
theorem dX9_ask_71 : decode cX9_ask 71 = .ok (.aload_n 0, 1) := by decide +kernel
theorem dX9_ask_72 : decode cX9_ask 72 = .ok (.dup, 1) := by decide +kernel
theorem dX9_ask_73 : decode cX9_ask 73 = .ok (.getfield 269, 3) := by decide +kernel
theorem dX9_ask_76 : decode cX9_ask 76 = .ok (.iconst 1, 1) := by decide +kernel
theorem dX9_ask_77 : decode cX9_ask 77 = .ok (.isub, 1) := by decide +kernel
theorem dX9_ask_78 : decode cX9_ask 78 = .ok (.putfield 269, 3) := by decide +kernel
theorem dX9_ask_81 : decode cX9_ask 81 = .ok (.aload_n 0, 1) := by decide +kernel
theorem dX9_ask_82 : decode cX9_ask 82 = .ok (.dup, 1) := by decide +kernel
theorem dX9_ask_83 : decode cX9_ask 83 = .ok (.getfield 278, 3) := by decide +kernel
theorem dX9_ask_86 : decode cX9_ask 86 = .ok (.iconst 1, 1) := by decide +kernel
theorem dX9_ask_87 : decode cX9_ask 87 = .ok (.iadd, 1) := by decide +kernel
theorem dX9_ask_88 : decode cX9_ask 88 = .ok (.putfield 278, 3) := by decide +kernel
theorem dX9_ask_91 : decode cX9_ask 91 = .ok (.aload_n 0, 1) := by decide +kernel
theorem dX9_ask_92 : decode cX9_ask 92 = .ok (.getfield 98, 3) := by decide +kernel
theorem dX9_ask_95 : decode cX9_ask 95 = .ok (.ifCond .eq 7, 3) := by decide +kernel
theorem dX9_ask_98 : decode cX9_ask 98 = .ok (.aload_n 0, 1) := by decide +kernel
theorem dX9_ask_99 : decode cX9_ask 99 = .ok (.invokevirtual 281, 3) := by decide +kernel
theorem dX9_ask_102 : decode cX9_ask 102 = .ok (.aload_n 0, 1) := by decide +kernel
theorem dX9_ask_103 : decode cX9_ask 103 = .ok (.aload_n 0, 1) := by decide +kernel
theorem dX9_ask_104 : decode cX9_ask 104 = .ok (.getfield 108, 3) := by decide +kernel
theorem dX9_ask_107 : decode cX9_ask 107 = .ok (.aload_n 0, 1) := by decide +kernel
theorem dX9_ask_108 : decode cX9_ask 108 = .ok (.getfield 263, 3) := by decide +kernel
theorem dX9_ask_111 : decode cX9_ask 111 = .ok (.invokevirtual 176, 3) := by decide +kernel
theorem dX9_ask_114 : decode cX9_ask 114 = .ok (.iconst 1, 1) := by decide +kernel
theorem dX9_ask_115 : decode cX9_ask 115 = .ok (.if_icmp .ne 7, 3) := by decide +kernel
theorem dX9_ask_118 : decode cX9_ask 118 = .ok (.iconst 1, 1) := by decide +kernel
theorem dX9_ask_119 : decode cX9_ask 119 = .ok (.goto 4, 3) := by decide +kernel
theorem dX9_ask_122 : decode cX9_ask 122 = .ok (.iconst 0, 1) := by decide +kernel
theorem dX9_ask_123 : decode cX9_ask 123 = .ok (.istore_n 2, 1) := by decide +kernel
theorem dX9_ask_124 : decode cX9_ask 124 = .ok (.iconst 0, 1) := by decide +kernel
theorem dX9_ask_125 : decode cX9_ask 125 = .ok (.istore_n 3, 1) := by decide +kernel
theorem dX9_ask_126 : decode cX9_ask 126 = .ok (.iload_n 3, 1) := by decide +kernel
theorem dX9_ask_127 : decode cX9_ask 127 = .ok (.aload_n 0, 1) := by decide +kernel
theorem dX9_ask_128 : decode cX9_ask 128 = .ok (.getfield 263, 3) := by decide +kernel
theorem dX9_ask_131 : decode cX9_ask 131 = .ok (.if_icmp .ge 25, 3) := by decide +kernel
theorem dX9_ask_134 : decode cX9_ask 134 = .ok (.iload_n 2, 1) := by decide +kernel
theorem dX9_ask_135 : decode cX9_ask 135 = .ok (.ifCond .eq 21, 3) := by decide +kernel
theorem dX9_ask_138 : decode cX9_ask 138 = .ok (.aload_n 0, 1) := by decide +kernel
theorem dX9_ask_139 : decode cX9_ask 139 = .ok (.getfield 7, 3) := by decide +kernel
theorem dX9_ask_142 : decode cX9_ask 142 = .ok (.iload_n 3, 1) := by decide +kernel
theorem dX9_ask_143 : decode cX9_ask 143 = .ok (.aload_n 0, 1) := by decide +kernel
theorem dX9_ask_144 : decode cX9_ask 144 = .ok (.getfield 108, 3) := by decide +kernel
theorem dX9_ask_147 : decode cX9_ask 147 = .ok (.iload_n 3, 1) := by decide +kernel
theorem dX9_ask_148 : decode cX9_ask 148 = .ok (.iaload, 1) := by decide +kernel
theorem dX9_ask_149 : decode cX9_ask 149 = .ok (.iastore, 1) := by decide +kernel
theorem dX9_ask_150 : decode cX9_ask 150 = .ok (.iinc 3 1, 3) := by decide +kernel
theorem dX9_ask_153 : decode cX9_ask 153 = .ok (.goto (-27), 3) := by decide +kernel
theorem dX9_ask_156 : decode cX9_ask 156 = .ok (.aload_n 0, 1) := by decide +kernel
theorem dX9_ask_157 : decode cX9_ask 157 = .ok (.iload_n 2, 1) := by decide +kernel
theorem dX9_ask_158 : decode cX9_ask 158 = .ok (.ifCond .eq 10, 3) := by decide +kernel
theorem dX9_ask_161 : decode cX9_ask 161 = .ok (.aload_n 0, 1) := by decide +kernel
theorem dX9_ask_162 : decode cX9_ask 162 = .ok (.getfield 263, 3) := by decide +kernel
theorem dX9_ask_165 : decode cX9_ask 165 = .ok (.goto 7, 3) := by decide +kernel
theorem dX9_ask_168 : decode cX9_ask 168 = .ok (.aload_n 0, 1) := by decide +kernel
theorem dX9_ask_169 : decode cX9_ask 169 = .ok (.getfield 145, 3) := by decide +kernel
theorem dX9_ask_172 : decode cX9_ask 172 = .ok (.putfield 145, 3) := by decide +kernel
theorem dX9_ask_175 : decode cX9_ask 175 = .ok (.iload_n 2, 1) := by decide +kernel
theorem dX9_ask_176 : decode cX9_ask 176 = .ok (.ireturn, 1) := by decide +kernel
theorem dX9_askBits_0 : decode cX9_askBits 0 = .ok (.aload_n 0, 1) := by decide +kernel
theorem dX9_askBits_1 : decode cX9_askBits 1 = .ok (.iconst 0, 1) := by decide +kernel
theorem dX9_askBits_2 : decode cX9_askBits 2 = .ok (.putfield 263, 3) := by decide +kernel
theorem dX9_askBits_5 : decode cX9_askBits 5 = .ok (.iconst 0, 1) := by decide +kernel
theorem dX9_askBits_6 : decode cX9_askBits 6 = .ok (.istore_n 2, 1) := by decide +kernel
theorem dX9_askBits_7 : decode cX9_askBits 7 = .ok (.iload_n 2, 1) := by decide +kernel
theorem dX9_askBits_8 : decode cX9_askBits 8 = .ok (.aload_n 0, 1) := by decide +kernel
theorem dX9_askBits_9 : decode cX9_askBits 9 = .ok (.getfield 284, 3) := by decide +kernel
theorem dX9_askBits_12 : decode cX9_askBits 12 = .ok (.if_icmp .ge 43, 3) := by decide +kernel
theorem dX9_askBits_15 : decode cX9_askBits 15 = .ok (.iload_n 1, 1) := by decide +kernel
theorem dX9_askBits_16 : decode cX9_askBits 16 = .ok (.iload_n 2, 1) := by decide +kernel
theorem dX9_askBits_17 : decode cX9_askBits 17 = .ok (.ishr, 1) := by decide +kernel
theorem dX9_askBits_18 : decode cX9_askBits 18 = .ok (.iconst 1, 1) := by decide +kernel
theorem dX9_askBits_19 : decode cX9_askBits 19 = .ok (.iand, 1) := by decide +kernel
theorem dX9_askBits_20 : decode cX9_askBits 20 = .ok (.iconst 1, 1) := by decide +kernel
theorem dX9_askBits_21 : decode cX9_askBits 21 = .ok (.if_icmp .ne 28, 3) := by decide +kernel
theorem dX9_askBits_24 : decode cX9_askBits 24 = .ok (.aload_n 0, 1) := by decide +kernel
theorem dX9_askBits_25 : decode cX9_askBits 25 = .ok (.getfield 108, 3) := by decide +kernel
theorem dX9_askBits_28 : decode cX9_askBits 28 = .ok (.aload_n 0, 1) := by decide +kernel
theorem dX9_askBits_29 : decode cX9_askBits 29 = .ok (.getfield 263, 3) := by decide +kernel
theorem dX9_askBits_32 : decode cX9_askBits 32 = .ok (.aload_n 0, 1) := by decide +kernel
theorem dX9_askBits_33 : decode cX9_askBits 33 = .ok (.getfield 111, 3) := by decide +kernel
theorem dX9_askBits_36 : decode cX9_askBits 36 = .ok (.iload_n 2, 1) := by decide +kernel
theorem dX9_askBits_37 : decode cX9_askBits 37 = .ok (.iaload, 1) := by decide +kernel
theorem dX9_askBits_38 : decode cX9_askBits 38 = .ok (.iastore, 1) := by decide +kernel
theorem dX9_askBits_39 : decode cX9_askBits 39 = .ok (.aload_n 0, 1) := by decide +kernel
theorem dX9_askBits_40 : decode cX9_askBits 40 = .ok (.dup, 1) := by decide +kernel
theorem dX9_askBits_41 : decode cX9_askBits 41 = .ok (.getfield 263, 3) := by decide +kernel
theorem dX9_askBits_44 : decode cX9_askBits 44 = .ok (.iconst 1, 1) := by decide +kernel
theorem dX9_askBits_45 : decode cX9_askBits 45 = .ok (.iadd, 1) := by decide +kernel
theorem dX9_askBits_46 : decode cX9_askBits 46 = .ok (.putfield 263, 3) := by decide +kernel
theorem dX9_askBits_49 : decode cX9_askBits 49 = .ok (.iinc 2 1, 3) := by decide +kernel
theorem dX9_askBits_52 : decode cX9_askBits 52 = .ok (.goto (-45), 3) := by decide +kernel
theorem dX9_askBits_55 : decode cX9_askBits 55 = .ok (.aload_n 0, 1) := by decide +kernel
theorem dX9_askBits_56 : decode cX9_askBits 56 = .ok (.invokevirtual 287, 3) := by decide +kernel
theorem dX9_askBits_59 : decode cX9_askBits 59 = .ok (.ireturn, 1) := by decide +kernel
theorem dX9_unitBits_0 : decode cX9_unitBits 0 = .ok (.iconst 0, 1) := by decide +kernel
theorem dX9_unitBits_1 : decode cX9_unitBits 1 = .ok (.istore_n 3, 1) := by decide +kernel
theorem dX9_unitBits_2 : decode cX9_unitBits 2 = .ok (.iload_n 1, 1) := by decide +kernel
theorem dX9_unitBits_3 : decode cX9_unitBits 3 = .ok (.istore 4, 2) := by decide +kernel
theorem dX9_unitBits_5 : decode cX9_unitBits 5 = .ok (.iload 4, 2) := by decide +kernel
theorem dX9_unitBits_7 : decode cX9_unitBits 7 = .ok (.iload_n 2, 1) := by decide +kernel
theorem dX9_unitBits_8 : decode cX9_unitBits 8 = .ok (.if_icmp .ge 19, 3) := by decide +kernel
theorem dX9_unitBits_11 : decode cX9_unitBits 11 = .ok (.iload_n 3, 1) := by decide +kernel
theorem dX9_unitBits_12 : decode cX9_unitBits 12 = .ok (.aload_n 0, 1) := by decide +kernel
theorem dX9_unitBits_13 : decode cX9_unitBits 13 = .ok (.getfield 114, 3) := by decide +kernel
theorem dX9_unitBits_16 : decode cX9_unitBits 16 = .ok (.iload 4, 2) := by decide +kernel
theorem dX9_unitBits_18 : decode cX9_unitBits 18 = .ok (.iaload, 1) := by decide +kernel
theorem dX9_unitBits_19 : decode cX9_unitBits 19 = .ok (.ior, 1) := by decide +kernel
theorem dX9_unitBits_20 : decode cX9_unitBits 20 = .ok (.istore_n 3, 1) := by decide +kernel
theorem dX9_unitBits_21 : decode cX9_unitBits 21 = .ok (.iinc 4 1, 3) := by decide +kernel
theorem dX9_unitBits_24 : decode cX9_unitBits 24 = .ok (.goto (-19), 3) := by decide +kernel
theorem dX9_unitBits_27 : decode cX9_unitBits 27 = .ok (.iload_n 3, 1) := by decide +kernel
theorem dX9_unitBits_28 : decode cX9_unitBits 28 = .ok (.ireturn, 1) := by decide +kernel
theorem dX9_drop_0 : decode cX9_drop 0 = .ok (.iload_n 1, 1) := by decide +kernel
theorem dX9_drop_1 : decode cX9_drop 1 = .ok (.istore_n 3, 1) := by decide +kernel
theorem dX9_drop_2 : decode cX9_drop 2 = .ok (.iload_n 3, 1) := by decide +kernel
theorem dX9_drop_3 : decode cX9_drop 3 = .ok (.iload_n 2, 1) := by decide +kernel
theorem dX9_drop_4 : decode cX9_drop 4 = .ok (.if_icmp .ge 30, 3) := by decide +kernel
theorem dX9_drop_7 : decode cX9_drop 7 = .ok (.aload_n 0, 1) := by decide +kernel
theorem dX9_drop_8 : decode cX9_drop 8 = .ok (.getfield 117, 3) := by decide +kernel
theorem dX9_drop_11 : decode cX9_drop 11 = .ok (.iload_n 3, 1) := by decide +kernel
theorem dX9_drop_12 : decode cX9_drop 12 = .ok (.iaload, 1) := by decide +kernel
theorem dX9_drop_13 : decode cX9_drop 13 = .ok (.ifCond .lt 15, 3) := by decide +kernel
theorem dX9_drop_16 : decode cX9_drop 16 = .ok (.aload_n 0, 1) := by decide +kernel
theorem dX9_drop_17 : decode cX9_drop 17 = .ok (.getfield 120, 3) := by decide +kernel
theorem dX9_drop_20 : decode cX9_drop 20 = .ok (.aload_n 0, 1) := by decide +kernel
theorem dX9_drop_21 : decode cX9_drop 21 = .ok (.getfield 117, 3) := by decide +kernel
theorem dX9_drop_24 : decode cX9_drop 24 = .ok (.iload_n 3, 1) := by decide +kernel
theorem dX9_drop_25 : decode cX9_drop 25 = .ok (.iaload, 1) := by decide +kernel
theorem dX9_drop_26 : decode cX9_drop 26 = .ok (.iconst 1, 1) := by decide +kernel
theorem dX9_drop_27 : decode cX9_drop 27 = .ok (.bastore, 1) := by decide +kernel
theorem dX9_drop_28 : decode cX9_drop 28 = .ok (.iinc 3 1, 3) := by decide +kernel
theorem dX9_drop_31 : decode cX9_drop 31 = .ok (.goto (-29), 3) := by decide +kernel
theorem dX9_drop_34 : decode cX9_drop 34 = .ok (.iload_n 2, 1) := by decide +kernel
theorem dX9_drop_35 : decode cX9_drop 35 = .ok (.istore_n 3, 1) := by decide +kernel
theorem dX9_drop_36 : decode cX9_drop 36 = .ok (.iload_n 3, 1) := by decide +kernel
theorem dX9_drop_37 : decode cX9_drop 37 = .ok (.aload_n 0, 1) := by decide +kernel
theorem dX9_drop_38 : decode cX9_drop 38 = .ok (.getfield 290, 3) := by decide +kernel
theorem dX9_drop_41 : decode cX9_drop 41 = .ok (.if_icmp .ge 41, 3) := by decide +kernel
theorem dX9_drop_44 : decode cX9_drop 44 = .ok (.aload_n 0, 1) := by decide +kernel
theorem dX9_drop_45 : decode cX9_drop 45 = .ok (.getfield 114, 3) := by decide +kernel
theorem dX9_drop_48 : decode cX9_drop 48 = .ok (.iload_n 1, 1) := by decide +kernel
theorem dX9_drop_49 : decode cX9_drop 49 = .ok (.iload_n 3, 1) := by decide +kernel
theorem dX9_drop_50 : decode cX9_drop 50 = .ok (.iadd, 1) := by decide +kernel
theorem dX9_drop_51 : decode cX9_drop 51 = .ok (.iload_n 2, 1) := by decide +kernel
theorem dX9_drop_52 : decode cX9_drop 52 = .ok (.isub, 1) := by decide +kernel
theorem dX9_drop_53 : decode cX9_drop 53 = .ok (.aload_n 0, 1) := by decide +kernel
theorem dX9_drop_54 : decode cX9_drop 54 = .ok (.getfield 114, 3) := by decide +kernel
theorem dX9_drop_57 : decode cX9_drop 57 = .ok (.iload_n 3, 1) := by decide +kernel
theorem dX9_drop_58 : decode cX9_drop 58 = .ok (.iaload, 1) := by decide +kernel
theorem dX9_drop_59 : decode cX9_drop 59 = .ok (.iastore, 1) := by decide +kernel
theorem dX9_drop_60 : decode cX9_drop 60 = .ok (.aload_n 0, 1) := by decide +kernel
theorem dX9_drop_61 : decode cX9_drop 61 = .ok (.getfield 117, 3) := by decide +kernel
theorem dX9_drop_64 : decode cX9_drop 64 = .ok (.iload_n 1, 1) := by decide +kernel
theorem dX9_drop_65 : decode cX9_drop 65 = .ok (.iload_n 3, 1) := by decide +kernel
theorem dX9_drop_66 : decode cX9_drop 66 = .ok (.iadd, 1) := by decide +kernel
theorem dX9_drop_67 : decode cX9_drop 67 = .ok (.iload_n 2, 1) := by decide +kernel
theorem dX9_drop_68 : decode cX9_drop 68 = .ok (.isub, 1) := by decide +kernel
theorem dX9_drop_69 : decode cX9_drop 69 = .ok (.aload_n 0, 1) := by decide +kernel
theorem dX9_drop_70 : decode cX9_drop 70 = .ok (.getfield 117, 3) := by decide +kernel
theorem dX9_drop_73 : decode cX9_drop 73 = .ok (.iload_n 3, 1) := by decide +kernel
theorem dX9_drop_74 : decode cX9_drop 74 = .ok (.iaload, 1) := by decide +kernel
theorem dX9_drop_75 : decode cX9_drop 75 = .ok (.iastore, 1) := by decide +kernel
theorem dX9_drop_76 : decode cX9_drop 76 = .ok (.iinc 3 1, 3) := by decide +kernel
theorem dX9_drop_79 : decode cX9_drop 79 = .ok (.goto (-43), 3) := by decide +kernel
theorem dX9_drop_82 : decode cX9_drop 82 = .ok (.aload_n 0, 1) := by decide +kernel
theorem dX9_drop_83 : decode cX9_drop 83 = .ok (.dup, 1) := by decide +kernel
theorem dX9_drop_84 : decode cX9_drop 84 = .ok (.getfield 290, 3) := by decide +kernel
theorem dX9_drop_87 : decode cX9_drop 87 = .ok (.iload_n 2, 1) := by decide +kernel
theorem dX9_drop_88 : decode cX9_drop 88 = .ok (.iload_n 1, 1) := by decide +kernel
theorem dX9_drop_89 : decode cX9_drop 89 = .ok (.isub, 1) := by decide +kernel
theorem dX9_drop_90 : decode cX9_drop 90 = .ok (.isub, 1) := by decide +kernel
theorem dX9_drop_91 : decode cX9_drop 91 = .ok (.putfield 290, 3) := by decide +kernel
theorem dX9_drop_94 : decode cX9_drop 94 = .ok (.return_, 1) := by decide +kernel
theorem dX9_round_0 : decode cX9_round 0 = .ok (.aload_n 0, 1) := by decide +kernel
theorem dX9_round_1 : decode cX9_round 1 = .ok (.getfield 290, 3) := by decide +kernel
theorem dX9_round_4 : decode cX9_round 4 = .ok (.istore_n 2, 1) := by decide +kernel
theorem dX9_round_5 : decode cX9_round 5 = .ok (.iconst 0, 1) := by decide +kernel
theorem dX9_round_6 : decode cX9_round 6 = .ok (.istore_n 3, 1) := by decide +kernel
theorem dX9_round_7 : decode cX9_round 7 = .ok (.iload_n 3, 1) := by decide +kernel
theorem dX9_round_8 : decode cX9_round 8 = .ok (.iload_n 1, 1) := by decide +kernel
theorem dX9_round_9 : decode cX9_round 9 = .ok (.if_icmp .ge 106, 3) := by decide +kernel
theorem dX9_round_12 : decode cX9_round 12 = .ok (.iload_n 1, 1) := by decide +kernel
theorem dX9_round_13 : decode cX9_round 13 = .ok (.iconst 1, 1) := by decide +kernel
theorem dX9_round_14 : decode cX9_round 14 = .ok (.if_icmp .le 101, 3) := by decide +kernel
theorem dX9_round_17 : decode cX9_round 17 = .ok (.iload_n 3, 1) := by decide +kernel
theorem dX9_round_18 : decode cX9_round 18 = .ok (.iload_n 2, 1) := by decide +kernel
theorem dX9_round_19 : decode cX9_round 19 = .ok (.imul, 1) := by decide +kernel
theorem dX9_round_20 : decode cX9_round 20 = .ok (.iload_n 1, 1) := by decide +kernel
theorem dX9_round_21 : decode cX9_round 21 = .ok (.idiv, 1) := by decide +kernel
theorem dX9_round_22 : decode cX9_round 22 = .ok (.istore 4, 2) := by decide +kernel
theorem dX9_round_24 : decode cX9_round 24 = .ok (.iload_n 3, 1) := by decide +kernel
theorem dX9_round_25 : decode cX9_round 25 = .ok (.iconst 1, 1) := by decide +kernel
theorem dX9_round_26 : decode cX9_round 26 = .ok (.iadd, 1) := by decide +kernel
theorem dX9_round_27 : decode cX9_round 27 = .ok (.iload_n 2, 1) := by decide +kernel
theorem dX9_round_28 : decode cX9_round 28 = .ok (.imul, 1) := by decide +kernel
theorem dX9_round_29 : decode cX9_round 29 = .ok (.iload_n 1, 1) := by decide +kernel
theorem dX9_round_30 : decode cX9_round 30 = .ok (.idiv, 1) := by decide +kernel
theorem dX9_round_31 : decode cX9_round 31 = .ok (.istore 5, 2) := by decide +kernel
theorem dX9_round_33 : decode cX9_round 33 = .ok (.aload_n 0, 1) := by decide +kernel
theorem dX9_round_34 : decode cX9_round 34 = .ok (.getfield 293, 3) := by decide +kernel
theorem dX9_round_37 : decode cX9_round 37 = .ok (.aload_n 0, 1) := by decide +kernel
theorem dX9_round_38 : decode cX9_round 38 = .ok (.iconst 0, 1) := by decide +kernel
theorem dX9_round_39 : decode cX9_round 39 = .ok (.iload 4, 2) := by decide +kernel
theorem dX9_round_41 : decode cX9_round 41 = .ok (.invokevirtual 296, 3) := by decide +kernel
theorem dX9_round_44 : decode cX9_round 44 = .ok (.aload_n 0, 1) := by decide +kernel
theorem dX9_round_45 : decode cX9_round 45 = .ok (.iload 5, 2) := by decide +kernel
theorem dX9_round_47 : decode cX9_round 47 = .ok (.iload_n 2, 1) := by decide +kernel
theorem dX9_round_48 : decode cX9_round 48 = .ok (.invokevirtual 296, 3) := by decide +kernel
theorem dX9_round_51 : decode cX9_round 51 = .ok (.ior, 1) := by decide +kernel
theorem dX9_round_52 : decode cX9_round 52 = .ok (.iconst (-1), 1) := by decide +kernel
theorem dX9_round_53 : decode cX9_round 53 = .ok (.ixor, 1) := by decide +kernel
theorem dX9_round_54 : decode cX9_round 54 = .ok (.iand, 1) := by decide +kernel
theorem dX9_round_55 : decode cX9_round 55 = .ok (.istore 6, 2) := by decide +kernel
theorem dX9_round_57 : decode cX9_round 57 = .ok (.aload_n 0, 1) := by decide +kernel
theorem dX9_round_58 : decode cX9_round 58 = .ok (.iload 6, 2) := by decide +kernel
theorem dX9_round_60 : decode cX9_round 60 = .ok (.invokevirtual 299, 3) := by decide +kernel
theorem dX9_round_63 : decode cX9_round 63 = .ok (.ifCond .eq 37, 3) := by decide +kernel
theorem dX9_round_66 : decode cX9_round 66 = .ok (.aload_n 0, 1) := by decide +kernel
theorem dX9_round_67 : decode cX9_round 67 = .ok (.iload 6, 2) := by decide +kernel
theorem dX9_round_69 : decode cX9_round 69 = .ok (.putfield 293, 3) := by decide +kernel
theorem dX9_round_72 : decode cX9_round 72 = .ok (.aload_n 0, 1) := by decide +kernel
theorem dX9_round_73 : decode cX9_round 73 = .ok (.iload 5, 2) := by decide +kernel
theorem dX9_round_75 : decode cX9_round 75 = .ok (.iload_n 2, 1) := by decide +kernel
theorem dX9_round_76 : decode cX9_round 76 = .ok (.invokevirtual 302, 3) := by decide +kernel
theorem dX9_round_79 : decode cX9_round 79 = .ok (.aload_n 0, 1) := by decide +kernel
theorem dX9_round_80 : decode cX9_round 80 = .ok (.iconst 0, 1) := by decide +kernel
theorem dX9_round_81 : decode cX9_round 81 = .ok (.iload 4, 2) := by decide +kernel
theorem dX9_round_83 : decode cX9_round 83 = .ok (.invokevirtual 302, 3) := by decide +kernel
theorem dX9_round_86 : decode cX9_round 86 = .ok (.aload_n 0, 1) := by decide +kernel
theorem dX9_round_87 : decode cX9_round 87 = .ok (.getfield 290, 3) := by decide +kernel
theorem dX9_round_90 : decode cX9_round 90 = .ok (.iconst 1, 1) := by decide +kernel
theorem dX9_round_91 : decode cX9_round 91 = .ok (.if_icmp .ne 7, 3) := by decide +kernel
theorem dX9_round_94 : decode cX9_round 94 = .ok (.iconst 1, 1) := by decide +kernel
theorem dX9_round_95 : decode cX9_round 95 = .ok (.goto 4, 3) := by decide +kernel
theorem dX9_round_98 : decode cX9_round 98 = .ok (.iconst 2, 1) := by decide +kernel
theorem dX9_round_99 : decode cX9_round 99 = .ok (.ireturn, 1) := by decide +kernel
theorem dX9_round_100 : decode cX9_round 100 = .ok (.aload_n 0, 1) := by decide +kernel
theorem dX9_round_101 : decode cX9_round 101 = .ok (.getfield 272, 3) := by decide +kernel
theorem dX9_round_104 : decode cX9_round 104 = .ok (.ifCond .eq 5, 3) := by decide +kernel
theorem dX9_round_107 : decode cX9_round 107 = .ok (.iconst 0, 1) := by decide +kernel
theorem dX9_round_108 : decode cX9_round 108 = .ok (.ireturn, 1) := by decide +kernel
theorem dX9_round_109 : decode cX9_round 109 = .ok (.iinc 3 1, 3) := by decide +kernel
theorem dX9_round_112 : decode cX9_round 112 = .ok (.goto (-105), 3) := by decide +kernel
theorem dX9_round_115 : decode cX9_round 115 = .ok (.iconst 0, 1) := by decide +kernel
theorem dX9_round_116 : decode cX9_round 116 = .ok (.istore_n 3, 1) := by decide +kernel
theorem dX9_round_117 : decode cX9_round 117 = .ok (.iload_n 3, 1) := by decide +kernel
theorem dX9_round_118 : decode cX9_round 118 = .ok (.iload_n 1, 1) := by decide +kernel
theorem dX9_round_119 : decode cX9_round 119 = .ok (.if_icmp .ge 114, 3) := by decide +kernel
theorem dX9_round_122 : decode cX9_round 122 = .ok (.iload_n 1, 1) := by decide +kernel
theorem dX9_round_123 : decode cX9_round 123 = .ok (.iconst 2, 1) := by decide +kernel
theorem dX9_round_124 : decode cX9_round 124 = .ok (.if_icmp .eq 109, 3) := by decide +kernel
theorem dX9_round_127 : decode cX9_round 127 = .ok (.iload_n 3, 1) := by decide +kernel
theorem dX9_round_128 : decode cX9_round 128 = .ok (.iload_n 2, 1) := by decide +kernel
theorem dX9_round_129 : decode cX9_round 129 = .ok (.imul, 1) := by decide +kernel
theorem dX9_round_130 : decode cX9_round 130 = .ok (.iload_n 1, 1) := by decide +kernel
theorem dX9_round_131 : decode cX9_round 131 = .ok (.idiv, 1) := by decide +kernel
theorem dX9_round_132 : decode cX9_round 132 = .ok (.istore 4, 2) := by decide +kernel
theorem dX9_round_134 : decode cX9_round 134 = .ok (.iload_n 3, 1) := by decide +kernel
theorem dX9_round_135 : decode cX9_round 135 = .ok (.iconst 1, 1) := by decide +kernel
theorem dX9_round_136 : decode cX9_round 136 = .ok (.iadd, 1) := by decide +kernel
theorem dX9_round_137 : decode cX9_round 137 = .ok (.iload_n 2, 1) := by decide +kernel
theorem dX9_round_138 : decode cX9_round 138 = .ok (.imul, 1) := by decide +kernel
theorem dX9_round_139 : decode cX9_round 139 = .ok (.iload_n 1, 1) := by decide +kernel
theorem dX9_round_140 : decode cX9_round 140 = .ok (.idiv, 1) := by decide +kernel
theorem dX9_round_141 : decode cX9_round 141 = .ok (.istore 5, 2) := by decide +kernel
theorem dX9_round_143 : decode cX9_round 143 = .ok (.aload_n 0, 1) := by decide +kernel
theorem dX9_round_144 : decode cX9_round 144 = .ok (.getfield 293, 3) := by decide +kernel
theorem dX9_round_147 : decode cX9_round 147 = .ok (.aload_n 0, 1) := by decide +kernel
theorem dX9_round_148 : decode cX9_round 148 = .ok (.iload 4, 2) := by decide +kernel
theorem dX9_round_150 : decode cX9_round 150 = .ok (.iload 5, 2) := by decide +kernel
theorem dX9_round_152 : decode cX9_round 152 = .ok (.invokevirtual 296, 3) := by decide +kernel
theorem dX9_round_155 : decode cX9_round 155 = .ok (.iconst (-1), 1) := by decide +kernel
theorem dX9_round_156 : decode cX9_round 156 = .ok (.ixor, 1) := by decide +kernel
theorem dX9_round_157 : decode cX9_round 157 = .ok (.iand, 1) := by decide +kernel
theorem dX9_round_158 : decode cX9_round 158 = .ok (.istore 6, 2) := by decide +kernel
theorem dX9_round_160 : decode cX9_round 160 = .ok (.aload_n 0, 1) := by decide +kernel
theorem dX9_round_161 : decode cX9_round 161 = .ok (.iload 6, 2) := by decide +kernel
theorem dX9_round_163 : decode cX9_round 163 = .ok (.invokevirtual 299, 3) := by decide +kernel
theorem dX9_round_166 : decode cX9_round 166 = .ok (.ifCond .eq 52, 3) := by decide +kernel
theorem dX9_round_169 : decode cX9_round 169 = .ok (.aload_n 0, 1) := by decide +kernel
theorem dX9_round_170 : decode cX9_round 170 = .ok (.iload 6, 2) := by decide +kernel
theorem dX9_round_172 : decode cX9_round 172 = .ok (.putfield 293, 3) := by decide +kernel
theorem dX9_round_175 : decode cX9_round 175 = .ok (.aload_n 0, 1) := by decide +kernel
theorem dX9_round_176 : decode cX9_round 176 = .ok (.iload 4, 2) := by decide +kernel
theorem dX9_round_178 : decode cX9_round 178 = .ok (.iload 5, 2) := by decide +kernel
theorem dX9_round_180 : decode cX9_round 180 = .ok (.invokevirtual 302, 3) := by decide +kernel
theorem dX9_round_183 : decode cX9_round 183 = .ok (.iload_n 1, 1) := by decide +kernel
theorem dX9_round_184 : decode cX9_round 184 = .ok (.iconst 1, 1) := by decide +kernel
theorem dX9_round_185 : decode cX9_round 185 = .ok (.isub, 1) := by decide +kernel
theorem dX9_round_186 : decode cX9_round 186 = .ok (.iconst 2, 1) := by decide +kernel
theorem dX9_round_187 : decode cX9_round 187 = .ok (.if_icmp .ge 7, 3) := by decide +kernel
theorem dX9_round_190 : decode cX9_round 190 = .ok (.iconst 2, 1) := by decide +kernel
theorem dX9_round_191 : decode cX9_round 191 = .ok (.goto 6, 3) := by decide +kernel
theorem dX9_round_194 : decode cX9_round 194 = .ok (.iload_n 1, 1) := by decide +kernel
theorem dX9_round_195 : decode cX9_round 195 = .ok (.iconst 1, 1) := by decide +kernel
theorem dX9_round_196 : decode cX9_round 196 = .ok (.isub, 1) := by decide +kernel
theorem dX9_round_197 : decode cX9_round 197 = .ok (.istore 7, 2) := by decide +kernel
theorem dX9_round_199 : decode cX9_round 199 = .ok (.iload 7, 2) := by decide +kernel
theorem dX9_round_201 : decode cX9_round 201 = .ok (.aload_n 0, 1) := by decide +kernel
theorem dX9_round_202 : decode cX9_round 202 = .ok (.getfield 290, 3) := by decide +kernel
theorem dX9_round_205 : decode cX9_round 205 = .ok (.if_icmp .ge 8, 3) := by decide +kernel
theorem dX9_round_208 : decode cX9_round 208 = .ok (.iload 7, 2) := by decide +kernel
theorem dX9_round_210 : decode cX9_round 210 = .ok (.goto 7, 3) := by decide +kernel
theorem dX9_round_213 : decode cX9_round 213 = .ok (.aload_n 0, 1) := by decide +kernel
theorem dX9_round_214 : decode cX9_round 214 = .ok (.getfield 290, 3) := by decide +kernel
theorem dX9_round_217 : decode cX9_round 217 = .ok (.ireturn, 1) := by decide +kernel
theorem dX9_round_218 : decode cX9_round 218 = .ok (.aload_n 0, 1) := by decide +kernel
theorem dX9_round_219 : decode cX9_round 219 = .ok (.getfield 272, 3) := by decide +kernel
theorem dX9_round_222 : decode cX9_round 222 = .ok (.ifCond .eq 5, 3) := by decide +kernel
theorem dX9_round_225 : decode cX9_round 225 = .ok (.iconst 0, 1) := by decide +kernel
theorem dX9_round_226 : decode cX9_round 226 = .ok (.ireturn, 1) := by decide +kernel
theorem dX9_round_227 : decode cX9_round 227 = .ok (.iinc 3 1, 3) := by decide +kernel
theorem dX9_round_230 : decode cX9_round 230 = .ok (.goto (-113), 3) := by decide +kernel
theorem dX9_round_233 : decode cX9_round 233 = .ok (.iload_n 1, 1) := by decide +kernel
theorem dX9_round_234 : decode cX9_round 234 = .ok (.iload_n 2, 1) := by decide +kernel
theorem dX9_round_235 : decode cX9_round 235 = .ok (.if_icmp .ne 7, 3) := by decide +kernel
theorem dX9_round_238 : decode cX9_round 238 = .ok (.iconst 0, 1) := by decide +kernel
theorem dX9_round_239 : decode cX9_round 239 = .ok (.goto 17, 3) := by decide +kernel
theorem dX9_round_242 : decode cX9_round 242 = .ok (.iconst 2, 1) := by decide +kernel
theorem dX9_round_243 : decode cX9_round 243 = .ok (.iload_n 1, 1) := by decide +kernel
theorem dX9_round_244 : decode cX9_round 244 = .ok (.imul, 1) := by decide +kernel
theorem dX9_round_245 : decode cX9_round 245 = .ok (.iload_n 2, 1) := by decide +kernel
theorem dX9_round_246 : decode cX9_round 246 = .ok (.if_icmp .ge 9, 3) := by decide +kernel
theorem dX9_round_249 : decode cX9_round 249 = .ok (.iconst 2, 1) := by decide +kernel
theorem dX9_round_250 : decode cX9_round 250 = .ok (.iload_n 1, 1) := by decide +kernel
theorem dX9_round_251 : decode cX9_round 251 = .ok (.imul, 1) := by decide +kernel
theorem dX9_round_252 : decode cX9_round 252 = .ok (.goto 4, 3) := by decide +kernel
theorem dX9_round_255 : decode cX9_round 255 = .ok (.iload_n 2, 1) := by decide +kernel
theorem dX9_round_256 : decode cX9_round 256 = .ok (.ireturn, 1) := by decide +kernel
theorem dX9_lessen_0 : decode cX9_lessen 0 = .ok (.aload_n 0, 1) := by decide +kernel
theorem dX9_lessen_1 : decode cX9_lessen 1 = .ok (.getfield 290, 3) := by decide +kernel
theorem dX9_lessen_4 : decode cX9_lessen 4 = .ok (.iconst 1, 1) := by decide +kernel
theorem dX9_lessen_5 : decode cX9_lessen 5 = .ok (.if_icmp .ne 7, 3) := by decide +kernel
theorem dX9_lessen_8 : decode cX9_lessen 8 = .ok (.iconst 1, 1) := by decide +kernel
theorem dX9_lessen_9 : decode cX9_lessen 9 = .ok (.goto 4, 3) := by decide +kernel
theorem dX9_lessen_12 : decode cX9_lessen 12 = .ok (.iconst 2, 1) := by decide +kernel
theorem dX9_lessen_13 : decode cX9_lessen 13 = .ok (.istore_n 1, 1) := by decide +kernel
theorem dX9_lessen_14 : decode cX9_lessen 14 = .ok (.aload_n 0, 1) := by decide +kernel
theorem dX9_lessen_15 : decode cX9_lessen 15 = .ok (.getfield 290, 3) := by decide +kernel
theorem dX9_lessen_18 : decode cX9_lessen 18 = .ok (.ifCond .le 23, 3) := by decide +kernel
theorem dX9_lessen_21 : decode cX9_lessen 21 = .ok (.iload_n 1, 1) := by decide +kernel
theorem dX9_lessen_22 : decode cX9_lessen 22 = .ok (.ifCond .le 19, 3) := by decide +kernel
theorem dX9_lessen_25 : decode cX9_lessen 25 = .ok (.aload_n 0, 1) := by decide +kernel
theorem dX9_lessen_26 : decode cX9_lessen 26 = .ok (.getfield 272, 3) := by decide +kernel
theorem dX9_lessen_29 : decode cX9_lessen 29 = .ok (.ifCond .ne 12, 3) := by decide +kernel
theorem dX9_lessen_32 : decode cX9_lessen 32 = .ok (.aload_n 0, 1) := by decide +kernel
theorem dX9_lessen_33 : decode cX9_lessen 33 = .ok (.iload_n 1, 1) := by decide +kernel
theorem dX9_lessen_34 : decode cX9_lessen 34 = .ok (.invokevirtual 305, 3) := by decide +kernel
theorem dX9_lessen_37 : decode cX9_lessen 37 = .ok (.istore_n 1, 1) := by decide +kernel
theorem dX9_lessen_38 : decode cX9_lessen 38 = .ok (.goto (-24), 3) := by decide +kernel
theorem dX9_lessen_41 : decode cX9_lessen 41 = .ok (.return_, 1) := by decide +kernel
theorem dX9_addUnit_0 : decode cX9_addUnit 0 = .ok (.aload_n 0, 1) := by decide +kernel
theorem dX9_addUnit_1 : decode cX9_addUnit 1 = .ok (.getfield 114, 3) := by decide +kernel
theorem dX9_addUnit_4 : decode cX9_addUnit 4 = .ok (.aload_n 0, 1) := by decide +kernel
theorem dX9_addUnit_5 : decode cX9_addUnit 5 = .ok (.getfield 290, 3) := by decide +kernel
theorem dX9_addUnit_8 : decode cX9_addUnit 8 = .ok (.iload_n 1, 1) := by decide +kernel
theorem dX9_addUnit_9 : decode cX9_addUnit 9 = .ok (.iastore, 1) := by decide +kernel
theorem dX9_addUnit_10 : decode cX9_addUnit 10 = .ok (.aload_n 0, 1) := by decide +kernel
theorem dX9_addUnit_11 : decode cX9_addUnit 11 = .ok (.getfield 117, 3) := by decide +kernel
theorem dX9_addUnit_14 : decode cX9_addUnit 14 = .ok (.aload_n 0, 1) := by decide +kernel
theorem dX9_addUnit_15 : decode cX9_addUnit 15 = .ok (.getfield 290, 3) := by decide +kernel
theorem dX9_addUnit_18 : decode cX9_addUnit 18 = .ok (.iload_n 2, 1) := by decide +kernel
theorem dX9_addUnit_19 : decode cX9_addUnit 19 = .ok (.iastore, 1) := by decide +kernel
theorem dX9_addUnit_20 : decode cX9_addUnit 20 = .ok (.aload_n 0, 1) := by decide +kernel
theorem dX9_addUnit_21 : decode cX9_addUnit 21 = .ok (.dup, 1) := by decide +kernel
theorem dX9_addUnit_22 : decode cX9_addUnit 22 = .ok (.getfield 290, 3) := by decide +kernel
theorem dX9_addUnit_25 : decode cX9_addUnit 25 = .ok (.iconst 1, 1) := by decide +kernel
theorem dX9_addUnit_26 : decode cX9_addUnit 26 = .ok (.iadd, 1) := by decide +kernel
theorem dX9_addUnit_27 : decode cX9_addUnit 27 = .ok (.putfield 290, 3) := by decide +kernel
theorem dX9_addUnit_30 : decode cX9_addUnit 30 = .ok (.return_, 1) := by decide +kernel
theorem dX9_run_0 : decode cX9_run 0 = .ok (.iconst 0, 1) := by decide +kernel
theorem dX9_run_1 : decode cX9_run 1 = .ok (.istore_n 2, 1) := by decide +kernel
theorem dX9_run_2 : decode cX9_run 2 = .ok (.iload_n 0, 1) := by decide +kernel
theorem dX9_run_3 : decode cX9_run 3 = .ok (.istore_n 3, 1) := by decide +kernel
theorem dX9_run_4 : decode cX9_run 4 = .ok (.iload_n 3, 1) := by decide +kernel
theorem dX9_run_5 : decode cX9_run 5 = .ok (.iload_n 0, 1) := by decide +kernel
theorem dX9_run_6 : decode cX9_run 6 = .ok (.iload_n 1, 1) := by decide +kernel
theorem dX9_run_7 : decode cX9_run 7 = .ok (.iadd, 1) := by decide +kernel
theorem dX9_run_8 : decode cX9_run 8 = .ok (.if_icmp .ge 15, 3) := by decide +kernel
theorem dX9_run_11 : decode cX9_run 11 = .ok (.iload_n 2, 1) := by decide +kernel
theorem dX9_run_12 : decode cX9_run 12 = .ok (.iconst 1, 1) := by decide +kernel
theorem dX9_run_13 : decode cX9_run 13 = .ok (.iload_n 3, 1) := by decide +kernel
theorem dX9_run_14 : decode cX9_run 14 = .ok (.ishl, 1) := by decide +kernel
theorem dX9_run_15 : decode cX9_run 15 = .ok (.ior, 1) := by decide +kernel
theorem dX9_run_16 : decode cX9_run 16 = .ok (.istore_n 2, 1) := by decide +kernel
theorem dX9_run_17 : decode cX9_run 17 = .ok (.iinc 3 1, 3) := by decide +kernel
theorem dX9_run_20 : decode cX9_run 20 = .ok (.goto (-16), 3) := by decide +kernel
theorem dX9_run_23 : decode cX9_run 23 = .ok (.iload_n 2, 1) := by decide +kernel
theorem dX9_run_24 : decode cX9_run 24 = .ok (.ireturn, 1) := by decide +kernel
theorem dX9_setBase_0 : decode cX9_setBase 0 = .ok (.aload_n 0, 1) := by decide +kernel
theorem dX9_setBase_1 : decode cX9_setBase 1 = .ok (.aload_n 0, 1) := by decide +kernel
theorem dX9_setBase_2 : decode cX9_setBase 2 = .ok (.getfield 145, 3) := by decide +kernel
theorem dX9_setBase_5 : decode cX9_setBase 5 = .ok (.putfield 284, 3) := by decide +kernel
theorem dX9_setBase_8 : decode cX9_setBase 8 = .ok (.iconst 0, 1) := by decide +kernel
theorem dX9_setBase_9 : decode cX9_setBase 9 = .ok (.istore_n 1, 1) := by decide +kernel
theorem dX9_setBase_10 : decode cX9_setBase 10 = .ok (.iload_n 1, 1) := by decide +kernel
theorem dX9_setBase_11 : decode cX9_setBase 11 = .ok (.aload_n 0, 1) := by decide +kernel
theorem dX9_setBase_12 : decode cX9_setBase 12 = .ok (.getfield 145, 3) := by decide +kernel
theorem dX9_setBase_15 : decode cX9_setBase 15 = .ok (.if_icmp .ge 21, 3) := by decide +kernel
theorem dX9_setBase_18 : decode cX9_setBase 18 = .ok (.aload_n 0, 1) := by decide +kernel
theorem dX9_setBase_19 : decode cX9_setBase 19 = .ok (.getfield 111, 3) := by decide +kernel
theorem dX9_setBase_22 : decode cX9_setBase 22 = .ok (.iload_n 1, 1) := by decide +kernel
theorem dX9_setBase_23 : decode cX9_setBase 23 = .ok (.aload_n 0, 1) := by decide +kernel
theorem dX9_setBase_24 : decode cX9_setBase 24 = .ok (.getfield 7, 3) := by decide +kernel
theorem dX9_setBase_27 : decode cX9_setBase 27 = .ok (.iload_n 1, 1) := by decide +kernel
theorem dX9_setBase_28 : decode cX9_setBase 28 = .ok (.iaload, 1) := by decide +kernel
theorem dX9_setBase_29 : decode cX9_setBase 29 = .ok (.iastore, 1) := by decide +kernel
theorem dX9_setBase_30 : decode cX9_setBase 30 = .ok (.iinc 1 1, 3) := by decide +kernel
theorem dX9_setBase_33 : decode cX9_setBase 33 = .ok (.goto (-23), 3) := by decide +kernel
theorem dX9_setBase_36 : decode cX9_setBase 36 = .ok (.aload_n 0, 1) := by decide +kernel
theorem dX9_setBase_37 : decode cX9_setBase 37 = .ok (.iconst 0, 1) := by decide +kernel
theorem dX9_setBase_38 : decode cX9_setBase 38 = .ok (.aload_n 0, 1) := by decide +kernel
theorem dX9_setBase_39 : decode cX9_setBase 39 = .ok (.getfield 145, 3) := by decide +kernel
theorem dX9_setBase_42 : decode cX9_setBase 42 = .ok (.invokestatic 309, 3) := by decide +kernel
theorem dX9_setBase_45 : decode cX9_setBase 45 = .ok (.putfield 293, 3) := by decide +kernel
theorem dX9_setBase_48 : decode cX9_setBase 48 = .ok (.aload_n 0, 1) := by decide +kernel
theorem dX9_setBase_49 : decode cX9_setBase 49 = .ok (.iconst 0, 1) := by decide +kernel
theorem dX9_setBase_50 : decode cX9_setBase 50 = .ok (.putfield 290, 3) := by decide +kernel
theorem dX9_setBase_53 : decode cX9_setBase 53 = .ok (.return_, 1) := by decide +kernel
theorem dX9_byPlaces_0 : decode cX9_byPlaces 0 = .ok (.aload_n 0, 1) := by decide +kernel
theorem dX9_byPlaces_1 : decode cX9_byPlaces 1 = .ok (.invokevirtual 312, 3) := by decide +kernel
theorem dX9_byPlaces_4 : decode cX9_byPlaces 4 = .ok (.iconst 0, 1) := by decide +kernel
theorem dX9_byPlaces_5 : decode cX9_byPlaces 5 = .ok (.istore_n 2, 1) := by decide +kernel
theorem dX9_byPlaces_6 : decode cX9_byPlaces 6 = .ok (.iconst 1, 1) := by decide +kernel
theorem dX9_byPlaces_7 : decode cX9_byPlaces 7 = .ok (.istore_n 3, 1) := by decide +kernel
theorem dX9_byPlaces_8 : decode cX9_byPlaces 8 = .ok (.iload_n 3, 1) := by decide +kernel
theorem dX9_byPlaces_9 : decode cX9_byPlaces 9 = .ok (.aload_n 0, 1) := by decide +kernel
theorem dX9_byPlaces_10 : decode cX9_byPlaces 10 = .ok (.getfield 284, 3) := by decide +kernel
theorem dX9_byPlaces_13 : decode cX9_byPlaces 13 = .ok (.if_icmp .gt 71, 3) := by decide +kernel
theorem dX9_byPlaces_16 : decode cX9_byPlaces 16 = .ok (.iload_n 3, 1) := by decide +kernel
theorem dX9_byPlaces_17 : decode cX9_byPlaces 17 = .ok (.aload_n 0, 1) := by decide +kernel
theorem dX9_byPlaces_18 : decode cX9_byPlaces 18 = .ok (.getfield 284, 3) := by decide +kernel
theorem dX9_byPlaces_21 : decode cX9_byPlaces 21 = .ok (.if_icmp .eq 31, 3) := by decide +kernel
theorem dX9_byPlaces_24 : decode cX9_byPlaces 24 = .ok (.iload_n 1, 1) := by decide +kernel
theorem dX9_byPlaces_25 : decode cX9_byPlaces 25 = .ok (.ifCond .eq 27, 3) := by decide +kernel
theorem dX9_byPlaces_28 : decode cX9_byPlaces 28 = .ok (.aload_n 0, 1) := by decide +kernel
theorem dX9_byPlaces_29 : decode cX9_byPlaces 29 = .ok (.getfield 111, 3) := by decide +kernel
theorem dX9_byPlaces_32 : decode cX9_byPlaces 32 = .ok (.iload_n 3, 1) := by decide +kernel
theorem dX9_byPlaces_33 : decode cX9_byPlaces 33 = .ok (.iaload, 1) := by decide +kernel
theorem dX9_byPlaces_34 : decode cX9_byPlaces 34 = .ok (.bipush 32, 2) := by decide +kernel
theorem dX9_byPlaces_36 : decode cX9_byPlaces 36 = .ok (.if_icmp .eq 20, 3) := by decide +kernel
theorem dX9_byPlaces_39 : decode cX9_byPlaces 39 = .ok (.aload_n 0, 1) := by decide +kernel
theorem dX9_byPlaces_40 : decode cX9_byPlaces 40 = .ok (.getfield 111, 3) := by decide +kernel
theorem dX9_byPlaces_43 : decode cX9_byPlaces 43 = .ok (.iload_n 3, 1) := by decide +kernel
theorem dX9_byPlaces_44 : decode cX9_byPlaces 44 = .ok (.iconst 1, 1) := by decide +kernel
theorem dX9_byPlaces_45 : decode cX9_byPlaces 45 = .ok (.isub, 1) := by decide +kernel
theorem dX9_byPlaces_46 : decode cX9_byPlaces 46 = .ok (.iaload, 1) := by decide +kernel
theorem dX9_byPlaces_47 : decode cX9_byPlaces 47 = .ok (.bipush 32, 2) := by decide +kernel
theorem dX9_byPlaces_49 : decode cX9_byPlaces 49 = .ok (.if_icmp .ne 7, 3) := by decide +kernel
theorem dX9_byPlaces_52 : decode cX9_byPlaces 52 = .ok (.iconst 1, 1) := by decide +kernel
theorem dX9_byPlaces_53 : decode cX9_byPlaces 53 = .ok (.goto 4, 3) := by decide +kernel
theorem dX9_byPlaces_56 : decode cX9_byPlaces 56 = .ok (.iconst 0, 1) := by decide +kernel
theorem dX9_byPlaces_57 : decode cX9_byPlaces 57 = .ok (.istore 4, 2) := by decide +kernel
theorem dX9_byPlaces_59 : decode cX9_byPlaces 59 = .ok (.iload 4, 2) := by decide +kernel
theorem dX9_byPlaces_61 : decode cX9_byPlaces 61 = .ok (.ifCond .eq 17, 3) := by decide +kernel
theorem dX9_byPlaces_64 : decode cX9_byPlaces 64 = .ok (.aload_n 0, 1) := by decide +kernel
theorem dX9_byPlaces_65 : decode cX9_byPlaces 65 = .ok (.iload_n 2, 1) := by decide +kernel
theorem dX9_byPlaces_66 : decode cX9_byPlaces 66 = .ok (.iload_n 3, 1) := by decide +kernel
theorem dX9_byPlaces_67 : decode cX9_byPlaces 67 = .ok (.iload_n 2, 1) := by decide +kernel
theorem dX9_byPlaces_68 : decode cX9_byPlaces 68 = .ok (.isub, 1) := by decide +kernel
theorem dX9_byPlaces_69 : decode cX9_byPlaces 69 = .ok (.invokestatic 309, 3) := by decide +kernel
theorem dX9_byPlaces_72 : decode cX9_byPlaces 72 = .ok (.iconst (-1), 1) := by decide +kernel
theorem dX9_byPlaces_73 : decode cX9_byPlaces 73 = .ok (.invokevirtual 315, 3) := by decide +kernel
theorem dX9_byPlaces_76 : decode cX9_byPlaces 76 = .ok (.iload_n 3, 1) := by decide +kernel
theorem dX9_byPlaces_77 : decode cX9_byPlaces 77 = .ok (.istore_n 2, 1) := by decide +kernel
theorem dX9_byPlaces_78 : decode cX9_byPlaces 78 = .ok (.iinc 3 1, 3) := by decide +kernel
theorem dX9_byPlaces_81 : decode cX9_byPlaces 81 = .ok (.goto (-73), 3) := by decide +kernel
theorem dX9_byPlaces_84 : decode cX9_byPlaces 84 = .ok (.aload_n 0, 1) := by decide +kernel
theorem dX9_byPlaces_85 : decode cX9_byPlaces 85 = .ok (.invokevirtual 318, 3) := by decide +kernel
theorem dX9_byPlaces_88 : decode cX9_byPlaces 88 = .ok (.return_, 1) := by decide +kernel
theorem dX9_isKept_0 : decode cX9_isKept 0 = .ok (.aload_n 0, 1) := by decide +kernel
theorem dX9_isKept_1 : decode cX9_isKept 1 = .ok (.getfield 80, 3) := by decide +kernel
theorem dX9_isKept_4 : decode cX9_isKept 4 = .ok (.iload_n 1, 1) := by decide +kernel
theorem dX9_isKept_5 : decode cX9_isKept 5 = .ok (.iaload, 1) := by decide +kernel
theorem dX9_isKept_6 : decode cX9_isKept 6 = .ok (.istore_n 2, 1) := by decide +kernel
theorem dX9_isKept_7 : decode cX9_isKept 7 = .ok (.iload_n 2, 1) := by decide +kernel
theorem dX9_isKept_8 : decode cX9_isKept 8 = .ok (.ifCond .lt 24, 3) := by decide +kernel
theorem dX9_isKept_11 : decode cX9_isKept 11 = .ok (.aload_n 0, 1) := by decide +kernel
theorem dX9_isKept_12 : decode cX9_isKept 12 = .ok (.getfield 120, 3) := by decide +kernel
theorem dX9_isKept_15 : decode cX9_isKept 15 = .ok (.iload_n 2, 1) := by decide +kernel
theorem dX9_isKept_16 : decode cX9_isKept 16 = .ok (.baload, 1) := by decide +kernel
theorem dX9_isKept_17 : decode cX9_isKept 17 = .ok (.ifCond .eq 5, 3) := by decide +kernel
theorem dX9_isKept_20 : decode cX9_isKept 20 = .ok (.iconst 0, 1) := by decide +kernel
theorem dX9_isKept_21 : decode cX9_isKept 21 = .ok (.ireturn, 1) := by decide +kernel
theorem dX9_isKept_22 : decode cX9_isKept 22 = .ok (.aload_n 0, 1) := by decide +kernel
theorem dX9_isKept_23 : decode cX9_isKept 23 = .ok (.getfield 80, 3) := by decide +kernel
theorem dX9_isKept_26 : decode cX9_isKept 26 = .ok (.iload_n 2, 1) := by decide +kernel
theorem dX9_isKept_27 : decode cX9_isKept 27 = .ok (.iaload, 1) := by decide +kernel
theorem dX9_isKept_28 : decode cX9_isKept 28 = .ok (.istore_n 2, 1) := by decide +kernel
theorem dX9_isKept_29 : decode cX9_isKept 29 = .ok (.goto (-22), 3) := by decide +kernel
theorem dX9_isKept_32 : decode cX9_isKept 32 = .ok (.iconst 1, 1) := by decide +kernel
theorem dX9_isKept_33 : decode cX9_isKept 33 = .ok (.ireturn, 1) := by decide +kernel
theorem dX9_byDepths_0 : decode cX9_byDepths 0 = .ok (.aload_n 0, 1) := by decide +kernel
theorem dX9_byDepths_1 : decode cX9_byDepths 1 = .ok (.invokevirtual 312, 3) := by decide +kernel
theorem dX9_byDepths_4 : decode cX9_byDepths 4 = .ok (.iconst 0, 1) := by decide +kernel
theorem dX9_byDepths_5 : decode cX9_byDepths 5 = .ok (.istore_n 1, 1) := by decide +kernel
theorem dX9_byDepths_6 : decode cX9_byDepths 6 = .ok (.iconst 0, 1) := by decide +kernel
theorem dX9_byDepths_7 : decode cX9_byDepths 7 = .ok (.istore_n 2, 1) := by decide +kernel
theorem dX9_byDepths_8 : decode cX9_byDepths 8 = .ok (.iload_n 2, 1) := by decide +kernel
theorem dX9_byDepths_9 : decode cX9_byDepths 9 = .ok (.aload_n 0, 1) := by decide +kernel
theorem dX9_byDepths_10 : decode cX9_byDepths 10 = .ok (.getfield 236, 3) := by decide +kernel
theorem dX9_byDepths_13 : decode cX9_byDepths 13 = .ok (.if_icmp .ge 37, 3) := by decide +kernel
theorem dX9_byDepths_16 : decode cX9_byDepths 16 = .ok (.aload_n 0, 1) := by decide +kernel
theorem dX9_byDepths_17 : decode cX9_byDepths 17 = .ok (.getfield 120, 3) := by decide +kernel
theorem dX9_byDepths_20 : decode cX9_byDepths 20 = .ok (.iload_n 2, 1) := by decide +kernel
theorem dX9_byDepths_21 : decode cX9_byDepths 21 = .ok (.iconst 0, 1) := by decide +kernel
theorem dX9_byDepths_22 : decode cX9_byDepths 22 = .ok (.bastore, 1) := by decide +kernel
theorem dX9_byDepths_23 : decode cX9_byDepths 23 = .ok (.aload_n 0, 1) := by decide +kernel
theorem dX9_byDepths_24 : decode cX9_byDepths 24 = .ok (.getfield 77, 3) := by decide +kernel
theorem dX9_byDepths_27 : decode cX9_byDepths 27 = .ok (.iload_n 2, 1) := by decide +kernel
theorem dX9_byDepths_28 : decode cX9_byDepths 28 = .ok (.iaload, 1) := by decide +kernel
theorem dX9_byDepths_29 : decode cX9_byDepths 29 = .ok (.iload_n 1, 1) := by decide +kernel
theorem dX9_byDepths_30 : decode cX9_byDepths 30 = .ok (.if_icmp .le 12, 3) := by decide +kernel
theorem dX9_byDepths_33 : decode cX9_byDepths 33 = .ok (.aload_n 0, 1) := by decide +kernel
theorem dX9_byDepths_34 : decode cX9_byDepths 34 = .ok (.getfield 77, 3) := by decide +kernel
theorem dX9_byDepths_37 : decode cX9_byDepths 37 = .ok (.iload_n 2, 1) := by decide +kernel
theorem dX9_byDepths_38 : decode cX9_byDepths 38 = .ok (.iaload, 1) := by decide +kernel
theorem dX9_byDepths_39 : decode cX9_byDepths 39 = .ok (.goto 4, 3) := by decide +kernel
theorem dX9_byDepths_42 : decode cX9_byDepths 42 = .ok (.iload_n 1, 1) := by decide +kernel
theorem dX9_byDepths_43 : decode cX9_byDepths 43 = .ok (.istore_n 1, 1) := by decide +kernel
theorem dX9_byDepths_44 : decode cX9_byDepths 44 = .ok (.iinc 2 1, 3) := by decide +kernel
theorem dX9_byDepths_47 : decode cX9_byDepths 47 = .ok (.goto (-39), 3) := by decide +kernel
theorem dX9_byDepths_50 : decode cX9_byDepths 50 = .ok (.iconst 1, 1) := by decide +kernel
theorem dX9_byDepths_51 : decode cX9_byDepths 51 = .ok (.istore_n 2, 1) := by decide +kernel
theorem dX9_byDepths_52 : decode cX9_byDepths 52 = .ok (.iload_n 2, 1) := by decide +kernel
theorem dX9_byDepths_53 : decode cX9_byDepths 53 = .ok (.iload_n 1, 1) := by decide +kernel
theorem dX9_byDepths_54 : decode cX9_byDepths 54 = .ok (.if_icmp .gt 79, 3) := by decide +kernel
theorem dX9_byDepths_57 : decode cX9_byDepths 57 = .ok (.aload_n 0, 1) := by decide +kernel
theorem dX9_byDepths_58 : decode cX9_byDepths 58 = .ok (.getfield 272, 3) := by decide +kernel
theorem dX9_byDepths_61 : decode cX9_byDepths 61 = .ok (.ifCond .ne 72, 3) := by decide +kernel
theorem dX9_byDepths_64 : decode cX9_byDepths 64 = .ok (.aload_n 0, 1) := by decide +kernel
theorem dX9_byDepths_65 : decode cX9_byDepths 65 = .ok (.iconst 0, 1) := by decide +kernel
theorem dX9_byDepths_66 : decode cX9_byDepths 66 = .ok (.putfield 290, 3) := by decide +kernel
theorem dX9_byDepths_69 : decode cX9_byDepths 69 = .ok (.iconst 0, 1) := by decide +kernel
theorem dX9_byDepths_70 : decode cX9_byDepths 70 = .ok (.istore_n 3, 1) := by decide +kernel
theorem dX9_byDepths_71 : decode cX9_byDepths 71 = .ok (.iload_n 3, 1) := by decide +kernel
theorem dX9_byDepths_72 : decode cX9_byDepths 72 = .ok (.aload_n 0, 1) := by decide +kernel
theorem dX9_byDepths_73 : decode cX9_byDepths 73 = .ok (.getfield 236, 3) := by decide +kernel
theorem dX9_byDepths_76 : decode cX9_byDepths 76 = .ok (.if_icmp .ge 47, 3) := by decide +kernel
theorem dX9_byDepths_79 : decode cX9_byDepths 79 = .ok (.aload_n 0, 1) := by decide +kernel
theorem dX9_byDepths_80 : decode cX9_byDepths 80 = .ok (.getfield 77, 3) := by decide +kernel
theorem dX9_byDepths_83 : decode cX9_byDepths 83 = .ok (.iload_n 3, 1) := by decide +kernel
theorem dX9_byDepths_84 : decode cX9_byDepths 84 = .ok (.iaload, 1) := by decide +kernel
theorem dX9_byDepths_85 : decode cX9_byDepths 85 = .ok (.iload_n 2, 1) := by decide +kernel
theorem dX9_byDepths_86 : decode cX9_byDepths 86 = .ok (.if_icmp .ne 31, 3) := by decide +kernel
theorem dX9_byDepths_89 : decode cX9_byDepths 89 = .ok (.aload_n 0, 1) := by decide +kernel
theorem dX9_byDepths_90 : decode cX9_byDepths 90 = .ok (.iload_n 3, 1) := by decide +kernel
theorem dX9_byDepths_91 : decode cX9_byDepths 91 = .ok (.invokevirtual 321, 3) := by decide +kernel
theorem dX9_byDepths_94 : decode cX9_byDepths 94 = .ok (.ifCond .eq 23, 3) := by decide +kernel
theorem dX9_byDepths_97 : decode cX9_byDepths 97 = .ok (.aload_n 0, 1) := by decide +kernel
theorem dX9_byDepths_98 : decode cX9_byDepths 98 = .ok (.aload_n 0, 1) := by decide +kernel
theorem dX9_byDepths_99 : decode cX9_byDepths 99 = .ok (.getfield 71, 3) := by decide +kernel
theorem dX9_byDepths_102 : decode cX9_byDepths 102 = .ok (.iload_n 3, 1) := by decide +kernel
theorem dX9_byDepths_103 : decode cX9_byDepths 103 = .ok (.iaload, 1) := by decide +kernel
theorem dX9_byDepths_104 : decode cX9_byDepths 104 = .ok (.aload_n 0, 1) := by decide +kernel
theorem dX9_byDepths_105 : decode cX9_byDepths 105 = .ok (.getfield 74, 3) := by decide +kernel
theorem dX9_byDepths_108 : decode cX9_byDepths 108 = .ok (.iload_n 3, 1) := by decide +kernel
theorem dX9_byDepths_109 : decode cX9_byDepths 109 = .ok (.iaload, 1) := by decide +kernel
theorem dX9_byDepths_110 : decode cX9_byDepths 110 = .ok (.invokestatic 309, 3) := by decide +kernel
theorem dX9_byDepths_113 : decode cX9_byDepths 113 = .ok (.iload_n 3, 1) := by decide +kernel
theorem dX9_byDepths_114 : decode cX9_byDepths 114 = .ok (.invokevirtual 315, 3) := by decide +kernel
theorem dX9_byDepths_117 : decode cX9_byDepths 117 = .ok (.iinc 3 1, 3) := by decide +kernel
theorem dX9_byDepths_120 : decode cX9_byDepths 120 = .ok (.goto (-49), 3) := by decide +kernel
theorem dX9_byDepths_123 : decode cX9_byDepths 123 = .ok (.aload_n 0, 1) := by decide +kernel
theorem dX9_byDepths_124 : decode cX9_byDepths 124 = .ok (.invokevirtual 318, 3) := by decide +kernel
theorem dX9_byDepths_127 : decode cX9_byDepths 127 = .ok (.iinc 2 1, 3) := by decide +kernel
theorem dX9_byDepths_130 : decode cX9_byDepths 130 = .ok (.goto (-78), 3) := by decide +kernel
theorem dX9_byDepths_133 : decode cX9_byDepths 133 = .ok (.return_, 1) := by decide +kernel
theorem dX9_againByDepths_0 : decode cX9_againByDepths 0 = .ok (.iconst 1, 1) := by decide +kernel
theorem dX9_againByDepths_1 : decode cX9_againByDepths 1 = .ok (.istore_n 1, 1) := by decide +kernel
theorem dX9_againByDepths_2 : decode cX9_againByDepths 2 = .ok (.iload_n 1, 1) := by decide +kernel
theorem dX9_againByDepths_3 : decode cX9_againByDepths 3 = .ok (.ifCond .eq 58, 3) := by decide +kernel
theorem dX9_againByDepths_6 : decode cX9_againByDepths 6 = .ok (.aload_n 0, 1) := by decide +kernel
theorem dX9_againByDepths_7 : decode cX9_againByDepths 7 = .ok (.getfield 272, 3) := by decide +kernel
theorem dX9_againByDepths_10 : decode cX9_againByDepths 10 = .ok (.ifCond .ne 51, 3) := by decide +kernel
theorem dX9_againByDepths_13 : decode cX9_againByDepths 13 = .ok (.aload_n 0, 1) := by decide +kernel
theorem dX9_againByDepths_14 : decode cX9_againByDepths 14 = .ok (.getfield 145, 3) := by decide +kernel
theorem dX9_againByDepths_17 : decode cX9_againByDepths 17 = .ok (.istore_n 2, 1) := by decide +kernel
theorem dX9_againByDepths_18 : decode cX9_againByDepths 18 = .ok (.aload_n 0, 1) := by decide +kernel
theorem dX9_againByDepths_19 : decode cX9_againByDepths 19 = .ok (.invokevirtual 324, 3) := by decide +kernel
theorem dX9_againByDepths_22 : decode cX9_againByDepths 22 = .ok (.aload_n 0, 1) := by decide +kernel
theorem dX9_againByDepths_23 : decode cX9_againByDepths 23 = .ok (.getfield 145, 3) := by decide +kernel
theorem dX9_againByDepths_26 : decode cX9_againByDepths 26 = .ok (.iload_n 2, 1) := by decide +kernel
theorem dX9_againByDepths_27 : decode cX9_againByDepths 27 = .ok (.if_icmp .ge 29, 3) := by decide +kernel
theorem dX9_againByDepths_30 : decode cX9_againByDepths 30 = .ok (.aload_n 0, 1) := by decide +kernel
theorem dX9_againByDepths_31 : decode cX9_againByDepths 31 = .ok (.getfield 272, 3) := by decide +kernel
theorem dX9_againByDepths_34 : decode cX9_againByDepths 34 = .ok (.ifCond .ne 22, 3) := by decide +kernel
theorem dX9_againByDepths_37 : decode cX9_againByDepths 37 = .ok (.aload_n 0, 1) := by decide +kernel
theorem dX9_againByDepths_38 : decode cX9_againByDepths 38 = .ok (.aload_n 0, 1) := by decide +kernel
theorem dX9_againByDepths_39 : decode cX9_againByDepths 39 = .ok (.getfield 7, 3) := by decide +kernel
theorem dX9_againByDepths_42 : decode cX9_againByDepths 42 = .ok (.aload_n 0, 1) := by decide +kernel
theorem dX9_againByDepths_43 : decode cX9_againByDepths 43 = .ok (.getfield 145, 3) := by decide +kernel
theorem dX9_againByDepths_46 : decode cX9_againByDepths 46 = .ok (.invokevirtual 259, 3) := by decide +kernel
theorem dX9_againByDepths_49 : decode cX9_againByDepths 49 = .ok (.ifCond .eq 7, 3) := by decide +kernel
theorem dX9_againByDepths_52 : decode cX9_againByDepths 52 = .ok (.iconst 1, 1) := by decide +kernel
theorem dX9_againByDepths_53 : decode cX9_againByDepths 53 = .ok (.goto 4, 3) := by decide +kernel
theorem dX9_againByDepths_56 : decode cX9_againByDepths 56 = .ok (.iconst 0, 1) := by decide +kernel
theorem dX9_againByDepths_57 : decode cX9_againByDepths 57 = .ok (.istore_n 1, 1) := by decide +kernel
theorem dX9_againByDepths_58 : decode cX9_againByDepths 58 = .ok (.goto (-56), 3) := by decide +kernel
theorem dX9_againByDepths_61 : decode cX9_againByDepths 61 = .ok (.return_, 1) := by decide +kernel
theorem dX9_take_0 : decode cX9_take 0 = .ok (.aload_n 0, 1) := by decide +kernel
theorem dX9_take_1 : decode cX9_take 1 = .ok (.iconst 0, 1) := by decide +kernel
theorem dX9_take_2 : decode cX9_take 2 = .ok (.putfield 263, 3) := by decide +kernel
theorem dX9_take_5 : decode cX9_take 5 = .ok (.iconst 0, 1) := by decide +kernel
theorem dX9_take_6 : decode cX9_take 6 = .ok (.istore 5, 2) := by decide +kernel
theorem dX9_take_8 : decode cX9_take 8 = .ok (.iload 5, 2) := by decide +kernel
theorem dX9_take_10 : decode cX9_take 10 = .ok (.iload_n 1, 1) := by decide +kernel
theorem dX9_take_11 : decode cX9_take 11 = .ok (.if_icmp .ge 35, 3) := by decide +kernel
theorem dX9_take_14 : decode cX9_take 14 = .ok (.aload_n 0, 1) := by decide +kernel
theorem dX9_take_15 : decode cX9_take 15 = .ok (.getfield 108, 3) := by decide +kernel
theorem dX9_take_18 : decode cX9_take 18 = .ok (.aload_n 0, 1) := by decide +kernel
theorem dX9_take_19 : decode cX9_take 19 = .ok (.getfield 263, 3) := by decide +kernel
theorem dX9_take_22 : decode cX9_take 22 = .ok (.aload_n 0, 1) := by decide +kernel
theorem dX9_take_23 : decode cX9_take 23 = .ok (.getfield 7, 3) := by decide +kernel
theorem dX9_take_26 : decode cX9_take 26 = .ok (.iload 5, 2) := by decide +kernel
theorem dX9_take_28 : decode cX9_take 28 = .ok (.iaload, 1) := by decide +kernel
theorem dX9_take_29 : decode cX9_take 29 = .ok (.iastore, 1) := by decide +kernel
theorem dX9_take_30 : decode cX9_take 30 = .ok (.aload_n 0, 1) := by decide +kernel
theorem dX9_take_31 : decode cX9_take 31 = .ok (.dup, 1) := by decide +kernel
theorem dX9_take_32 : decode cX9_take 32 = .ok (.getfield 263, 3) := by decide +kernel
theorem dX9_take_35 : decode cX9_take 35 = .ok (.iconst 1, 1) := by decide +kernel
theorem dX9_take_36 : decode cX9_take 36 = .ok (.iadd, 1) := by decide +kernel
theorem dX9_take_37 : decode cX9_take 37 = .ok (.putfield 263, 3) := by decide +kernel
theorem dX9_take_40 : decode cX9_take 40 = .ok (.iinc 5 1, 3) := by decide +kernel
theorem dX9_take_43 : decode cX9_take 43 = .ok (.goto (-35), 3) := by decide +kernel
theorem dX9_take_46 : decode cX9_take 46 = .ok (.iload_n 3, 1) := by decide +kernel
theorem dX9_take_47 : decode cX9_take 47 = .ok (.istore 5, 2) := by decide +kernel
theorem dX9_take_49 : decode cX9_take 49 = .ok (.iload 5, 2) := by decide +kernel
theorem dX9_take_51 : decode cX9_take 51 = .ok (.iload_n 3, 1) := by decide +kernel
theorem dX9_take_52 : decode cX9_take 52 = .ok (.iload 4, 2) := by decide +kernel
theorem dX9_take_54 : decode cX9_take 54 = .ok (.iadd, 1) := by decide +kernel
theorem dX9_take_55 : decode cX9_take 55 = .ok (.if_icmp .ge 35, 3) := by decide +kernel
theorem dX9_take_58 : decode cX9_take 58 = .ok (.aload_n 0, 1) := by decide +kernel
theorem dX9_take_59 : decode cX9_take 59 = .ok (.getfield 108, 3) := by decide +kernel
theorem dX9_take_62 : decode cX9_take 62 = .ok (.aload_n 0, 1) := by decide +kernel
theorem dX9_take_63 : decode cX9_take 63 = .ok (.getfield 263, 3) := by decide +kernel
theorem dX9_take_66 : decode cX9_take 66 = .ok (.aload_n 0, 1) := by decide +kernel
theorem dX9_take_67 : decode cX9_take 67 = .ok (.getfield 7, 3) := by decide +kernel
theorem dX9_take_70 : decode cX9_take 70 = .ok (.iload 5, 2) := by decide +kernel
theorem dX9_take_72 : decode cX9_take 72 = .ok (.iaload, 1) := by decide +kernel
theorem dX9_take_73 : decode cX9_take 73 = .ok (.iastore, 1) := by decide +kernel
theorem dX9_take_74 : decode cX9_take 74 = .ok (.aload_n 0, 1) := by decide +kernel
theorem dX9_take_75 : decode cX9_take 75 = .ok (.dup, 1) := by decide +kernel
theorem dX9_take_76 : decode cX9_take 76 = .ok (.getfield 263, 3) := by decide +kernel
theorem dX9_take_79 : decode cX9_take 79 = .ok (.iconst 1, 1) := by decide +kernel
theorem dX9_take_80 : decode cX9_take 80 = .ok (.iadd, 1) := by decide +kernel
theorem dX9_take_81 : decode cX9_take 81 = .ok (.putfield 263, 3) := by decide +kernel
theorem dX9_take_84 : decode cX9_take 84 = .ok (.iinc 5 1, 3) := by decide +kernel
theorem dX9_take_87 : decode cX9_take 87 = .ok (.goto (-38), 3) := by decide +kernel
theorem dX9_take_90 : decode cX9_take 90 = .ok (.iload_n 1, 1) := by decide +kernel
theorem dX9_take_91 : decode cX9_take 91 = .ok (.iload_n 2, 1) := by decide +kernel
theorem dX9_take_92 : decode cX9_take 92 = .ok (.iadd, 1) := by decide +kernel
theorem dX9_take_93 : decode cX9_take 93 = .ok (.istore 5, 2) := by decide +kernel
theorem dX9_take_95 : decode cX9_take 95 = .ok (.iload 5, 2) := by decide +kernel
theorem dX9_take_97 : decode cX9_take 97 = .ok (.aload_n 0, 1) := by decide +kernel
theorem dX9_take_98 : decode cX9_take 98 = .ok (.getfield 145, 3) := by decide +kernel
theorem dX9_take_101 : decode cX9_take 101 = .ok (.if_icmp .ge 35, 3) := by decide +kernel
theorem dX9_take_104 : decode cX9_take 104 = .ok (.aload_n 0, 1) := by decide +kernel
theorem dX9_take_105 : decode cX9_take 105 = .ok (.getfield 108, 3) := by decide +kernel
theorem dX9_take_108 : decode cX9_take 108 = .ok (.aload_n 0, 1) := by decide +kernel
theorem dX9_take_109 : decode cX9_take 109 = .ok (.getfield 263, 3) := by decide +kernel
theorem dX9_take_112 : decode cX9_take 112 = .ok (.aload_n 0, 1) := by decide +kernel
theorem dX9_take_113 : decode cX9_take 113 = .ok (.getfield 7, 3) := by decide +kernel
theorem dX9_take_116 : decode cX9_take 116 = .ok (.iload 5, 2) := by decide +kernel
theorem dX9_take_118 : decode cX9_take 118 = .ok (.iaload, 1) := by decide +kernel
theorem dX9_take_119 : decode cX9_take 119 = .ok (.iastore, 1) := by decide +kernel
theorem dX9_take_120 : decode cX9_take 120 = .ok (.aload_n 0, 1) := by decide +kernel
theorem dX9_take_121 : decode cX9_take 121 = .ok (.dup, 1) := by decide +kernel
theorem dX9_take_122 : decode cX9_take 122 = .ok (.getfield 263, 3) := by decide +kernel
theorem dX9_take_125 : decode cX9_take 125 = .ok (.iconst 1, 1) := by decide +kernel
theorem dX9_take_126 : decode cX9_take 126 = .ok (.iadd, 1) := by decide +kernel
theorem dX9_take_127 : decode cX9_take 127 = .ok (.putfield 263, 3) := by decide +kernel
theorem dX9_take_130 : decode cX9_take 130 = .ok (.iinc 5 1, 3) := by decide +kernel
theorem dX9_take_133 : decode cX9_take 133 = .ok (.goto (-38), 3) := by decide +kernel
theorem dX9_take_136 : decode cX9_take 136 = .ok (.aload_n 0, 1) := by decide +kernel
theorem dX9_take_137 : decode cX9_take 137 = .ok (.aload_n 0, 1) := by decide +kernel
theorem dX9_take_138 : decode cX9_take 138 = .ok (.getfield 108, 3) := by decide +kernel
theorem dX9_take_141 : decode cX9_take 141 = .ok (.aload_n 0, 1) := by decide +kernel
theorem dX9_take_142 : decode cX9_take 142 = .ok (.getfield 263, 3) := by decide +kernel
theorem dX9_take_145 : decode cX9_take 145 = .ok (.invokevirtual 259, 3) := by decide +kernel
theorem dX9_take_148 : decode cX9_take 148 = .ok (.ifCond .eq 14, 3) := by decide +kernel
theorem dX9_take_151 : decode cX9_take 151 = .ok (.aload_n 0, 1) := by decide +kernel
theorem dX9_take_152 : decode cX9_take 152 = .ok (.invokevirtual 287, 3) := by decide +kernel
theorem dX9_take_155 : decode cX9_take 155 = .ok (.ifCond .eq 7, 3) := by decide +kernel
theorem dX9_take_158 : decode cX9_take 158 = .ok (.iconst 1, 1) := by decide +kernel
theorem dX9_take_159 : decode cX9_take 159 = .ok (.goto 4, 3) := by decide +kernel
theorem dX9_take_162 : decode cX9_take 162 = .ok (.iconst 0, 1) := by decide +kernel
theorem dX9_take_163 : decode cX9_take 163 = .ok (.ireturn, 1) := by decide +kernel
theorem dX9_movesOf_0 : decode cX9_movesOf 0 = .ok (.aload_n 0, 1) := by decide +kernel
theorem dX9_movesOf_1 : decode cX9_movesOf 1 = .ok (.getfield 135, 3) := by decide +kernel
theorem dX9_movesOf_4 : decode cX9_movesOf 4 = .ok (.iload_n 1, 1) := by decide +kernel
theorem dX9_movesOf_5 : decode cX9_movesOf 5 = .ok (.iaload, 1) := by decide +kernel
theorem dX9_movesOf_6 : decode cX9_movesOf 6 = .ok (.iconst 1, 1) := by decide +kernel
theorem dX9_movesOf_7 : decode cX9_movesOf 7 = .ok (.if_icmp .ne 35, 3) := by decide +kernel
theorem dX9_movesOf_10 : decode cX9_movesOf 10 = .ok (.aload_n 0, 1) := by decide +kernel
theorem dX9_movesOf_11 : decode cX9_movesOf 11 = .ok (.getfield 129, 3) := by decide +kernel
theorem dX9_movesOf_14 : decode cX9_movesOf 14 = .ok (.iload_n 1, 1) := by decide +kernel
theorem dX9_movesOf_15 : decode cX9_movesOf 15 = .ok (.iaload, 1) := by decide +kernel
theorem dX9_movesOf_16 : decode cX9_movesOf 16 = .ok (.ifCond .le 26, 3) := by decide +kernel
theorem dX9_movesOf_19 : decode cX9_movesOf 19 = .ok (.aload_n 0, 1) := by decide +kernel
theorem dX9_movesOf_20 : decode cX9_movesOf 20 = .ok (.aload_n 0, 1) := by decide +kernel
theorem dX9_movesOf_21 : decode cX9_movesOf 21 = .ok (.getfield 126, 3) := by decide +kernel
theorem dX9_movesOf_24 : decode cX9_movesOf 24 = .ok (.iload_n 1, 1) := by decide +kernel
theorem dX9_movesOf_25 : decode cX9_movesOf 25 = .ok (.iaload, 1) := by decide +kernel
theorem dX9_movesOf_26 : decode cX9_movesOf 26 = .ok (.aload_n 0, 1) := by decide +kernel
theorem dX9_movesOf_27 : decode cX9_movesOf 27 = .ok (.getfield 129, 3) := by decide +kernel
theorem dX9_movesOf_30 : decode cX9_movesOf 30 = .ok (.iload_n 1, 1) := by decide +kernel
theorem dX9_movesOf_31 : decode cX9_movesOf 31 = .ok (.iaload, 1) := by decide +kernel
theorem dX9_movesOf_32 : decode cX9_movesOf 32 = .ok (.iconst 0, 1) := by decide +kernel
theorem dX9_movesOf_33 : decode cX9_movesOf 33 = .ok (.iconst 0, 1) := by decide +kernel
theorem dX9_movesOf_34 : decode cX9_movesOf 34 = .ok (.invokevirtual 327, 3) := by decide +kernel
theorem dX9_movesOf_37 : decode cX9_movesOf 37 = .ok (.ifCond .eq 5, 3) := by decide +kernel
theorem dX9_movesOf_40 : decode cX9_movesOf 40 = .ok (.iconst 1, 1) := by decide +kernel
theorem dX9_movesOf_41 : decode cX9_movesOf 41 = .ok (.ireturn, 1) := by decide +kernel
theorem dX9_movesOf_42 : decode cX9_movesOf 42 = .ok (.iload_n 1, 1) := by decide +kernel
theorem dX9_movesOf_43 : decode cX9_movesOf 43 = .ok (.iconst 1, 1) := by decide +kernel
theorem dX9_movesOf_44 : decode cX9_movesOf 44 = .ok (.iadd, 1) := by decide +kernel
theorem dX9_movesOf_45 : decode cX9_movesOf 45 = .ok (.istore_n 2, 1) := by decide +kernel
theorem dX9_movesOf_46 : decode cX9_movesOf 46 = .ok (.iload_n 2, 1) := by decide +kernel
theorem dX9_movesOf_47 : decode cX9_movesOf 47 = .ok (.aload_n 0, 1) := by decide +kernel
theorem dX9_movesOf_48 : decode cX9_movesOf 48 = .ok (.getfield 331, 3) := by decide +kernel
theorem dX9_movesOf_51 : decode cX9_movesOf 51 = .ok (.if_icmp .ge 115, 3) := by decide +kernel
theorem dX9_movesOf_54 : decode cX9_movesOf 54 = .ok (.aload_n 0, 1) := by decide +kernel
theorem dX9_movesOf_55 : decode cX9_movesOf 55 = .ok (.getfield 138, 3) := by decide +kernel
theorem dX9_movesOf_58 : decode cX9_movesOf 58 = .ok (.iload_n 2, 1) := by decide +kernel
theorem dX9_movesOf_59 : decode cX9_movesOf 59 = .ok (.iaload, 1) := by decide +kernel
theorem dX9_movesOf_60 : decode cX9_movesOf 60 = .ok (.aload_n 0, 1) := by decide +kernel
theorem dX9_movesOf_61 : decode cX9_movesOf 61 = .ok (.getfield 138, 3) := by decide +kernel
theorem dX9_movesOf_64 : decode cX9_movesOf 64 = .ok (.iload_n 1, 1) := by decide +kernel
theorem dX9_movesOf_65 : decode cX9_movesOf 65 = .ok (.iaload, 1) := by decide +kernel
theorem dX9_movesOf_66 : decode cX9_movesOf 66 = .ok (.if_icmp .le 100, 3) := by decide +kernel
theorem dX9_movesOf_69 : decode cX9_movesOf 69 = .ok (.aload_n 0, 1) := by decide +kernel
theorem dX9_movesOf_70 : decode cX9_movesOf 70 = .ok (.getfield 272, 3) := by decide +kernel
theorem dX9_movesOf_73 : decode cX9_movesOf 73 = .ok (.ifCond .ne 93, 3) := by decide +kernel
theorem dX9_movesOf_76 : decode cX9_movesOf 76 = .ok (.aload_n 0, 1) := by decide +kernel
theorem dX9_movesOf_77 : decode cX9_movesOf 77 = .ok (.getfield 132, 3) := by decide +kernel
theorem dX9_movesOf_80 : decode cX9_movesOf 80 = .ok (.iload_n 2, 1) := by decide +kernel
theorem dX9_movesOf_81 : decode cX9_movesOf 81 = .ok (.iaload, 1) := by decide +kernel
theorem dX9_movesOf_82 : decode cX9_movesOf 82 = .ok (.bipush 6, 2) := by decide +kernel
theorem dX9_movesOf_84 : decode cX9_movesOf 84 = .ok (.if_icmp .ge 37, 3) := by decide +kernel
theorem dX9_movesOf_87 : decode cX9_movesOf 87 = .ok (.aload_n 0, 1) := by decide +kernel
theorem dX9_movesOf_88 : decode cX9_movesOf 88 = .ok (.getfield 132, 3) := by decide +kernel
theorem dX9_movesOf_91 : decode cX9_movesOf 91 = .ok (.iload_n 2, 1) := by decide +kernel
theorem dX9_movesOf_92 : decode cX9_movesOf 92 = .ok (.iaload, 1) := by decide +kernel
theorem dX9_movesOf_93 : decode cX9_movesOf 93 = .ok (.aload_n 0, 1) := by decide +kernel
theorem dX9_movesOf_94 : decode cX9_movesOf 94 = .ok (.getfield 132, 3) := by decide +kernel
theorem dX9_movesOf_97 : decode cX9_movesOf 97 = .ok (.iload_n 1, 1) := by decide +kernel
theorem dX9_movesOf_98 : decode cX9_movesOf 98 = .ok (.iaload, 1) := by decide +kernel
theorem dX9_movesOf_99 : decode cX9_movesOf 99 = .ok (.if_icmp .ne 22, 3) := by decide +kernel
theorem dX9_movesOf_102 : decode cX9_movesOf 102 = .ok (.aload_n 0, 1) := by decide +kernel
theorem dX9_movesOf_103 : decode cX9_movesOf 103 = .ok (.getfield 129, 3) := by decide +kernel
theorem dX9_movesOf_106 : decode cX9_movesOf 106 = .ok (.iload_n 2, 1) := by decide +kernel
theorem dX9_movesOf_107 : decode cX9_movesOf 107 = .ok (.iaload, 1) := by decide +kernel
theorem dX9_movesOf_108 : decode cX9_movesOf 108 = .ok (.aload_n 0, 1) := by decide +kernel
theorem dX9_movesOf_109 : decode cX9_movesOf 109 = .ok (.getfield 129, 3) := by decide +kernel
theorem dX9_movesOf_112 : decode cX9_movesOf 112 = .ok (.iload_n 1, 1) := by decide +kernel
theorem dX9_movesOf_113 : decode cX9_movesOf 113 = .ok (.iaload, 1) := by decide +kernel
theorem dX9_movesOf_114 : decode cX9_movesOf 114 = .ok (.if_icmp .ge 7, 3) := by decide +kernel
theorem dX9_movesOf_117 : decode cX9_movesOf 117 = .ok (.iconst 1, 1) := by decide +kernel
theorem dX9_movesOf_118 : decode cX9_movesOf 118 = .ok (.goto 4, 3) := by decide +kernel
theorem dX9_movesOf_121 : decode cX9_movesOf 121 = .ok (.iconst 0, 1) := by decide +kernel
theorem dX9_movesOf_122 : decode cX9_movesOf 122 = .ok (.istore_n 3, 1) := by decide +kernel
theorem dX9_movesOf_123 : decode cX9_movesOf 123 = .ok (.iload_n 3, 1) := by decide +kernel
theorem dX9_movesOf_124 : decode cX9_movesOf 124 = .ok (.ifCond .eq 36, 3) := by decide +kernel
theorem dX9_movesOf_127 : decode cX9_movesOf 127 = .ok (.aload_n 0, 1) := by decide +kernel
theorem dX9_movesOf_128 : decode cX9_movesOf 128 = .ok (.aload_n 0, 1) := by decide +kernel
theorem dX9_movesOf_129 : decode cX9_movesOf 129 = .ok (.getfield 126, 3) := by decide +kernel
theorem dX9_movesOf_132 : decode cX9_movesOf 132 = .ok (.iload_n 1, 1) := by decide +kernel
theorem dX9_movesOf_133 : decode cX9_movesOf 133 = .ok (.iaload, 1) := by decide +kernel
theorem dX9_movesOf_134 : decode cX9_movesOf 134 = .ok (.aload_n 0, 1) := by decide +kernel
theorem dX9_movesOf_135 : decode cX9_movesOf 135 = .ok (.getfield 129, 3) := by decide +kernel
theorem dX9_movesOf_138 : decode cX9_movesOf 138 = .ok (.iload_n 1, 1) := by decide +kernel
theorem dX9_movesOf_139 : decode cX9_movesOf 139 = .ok (.iaload, 1) := by decide +kernel
theorem dX9_movesOf_140 : decode cX9_movesOf 140 = .ok (.aload_n 0, 1) := by decide +kernel
theorem dX9_movesOf_141 : decode cX9_movesOf 141 = .ok (.getfield 126, 3) := by decide +kernel
theorem dX9_movesOf_144 : decode cX9_movesOf 144 = .ok (.iload_n 2, 1) := by decide +kernel
theorem dX9_movesOf_145 : decode cX9_movesOf 145 = .ok (.iaload, 1) := by decide +kernel
theorem dX9_movesOf_146 : decode cX9_movesOf 146 = .ok (.aload_n 0, 1) := by decide +kernel
theorem dX9_movesOf_147 : decode cX9_movesOf 147 = .ok (.getfield 129, 3) := by decide +kernel
theorem dX9_movesOf_150 : decode cX9_movesOf 150 = .ok (.iload_n 2, 1) := by decide +kernel
theorem dX9_movesOf_151 : decode cX9_movesOf 151 = .ok (.iaload, 1) := by decide +kernel
theorem dX9_movesOf_152 : decode cX9_movesOf 152 = .ok (.invokevirtual 327, 3) := by decide +kernel
theorem dX9_movesOf_155 : decode cX9_movesOf 155 = .ok (.ifCond .eq 5, 3) := by decide +kernel
theorem dX9_movesOf_158 : decode cX9_movesOf 158 = .ok (.iconst 1, 1) := by decide +kernel
theorem dX9_movesOf_159 : decode cX9_movesOf 159 = .ok (.ireturn, 1) := by decide +kernel
theorem dX9_movesOf_160 : decode cX9_movesOf 160 = .ok (.iinc 2 1, 3) := by decide +kernel
theorem dX9_movesOf_163 : decode cX9_movesOf 163 = .ok (.goto (-117), 3) := by decide +kernel
theorem dX9_movesOf_166 : decode cX9_movesOf 166 = .ok (.iconst 0, 1) := by decide +kernel
theorem dX9_movesOf_167 : decode cX9_movesOf 167 = .ok (.ireturn, 1) := by decide +kernel
theorem dX9_move_0 : decode cX9_move 0 = .ok (.aload_n 0, 1) := by decide +kernel
theorem dX9_move_1 : decode cX9_move 1 = .ok (.aload_n 0, 1) := by decide +kernel
theorem dX9_move_2 : decode cX9_move 2 = .ok (.getfield 7, 3) := by decide +kernel
theorem dX9_move_5 : decode cX9_move 5 = .ok (.aload_n 0, 1) := by decide +kernel
theorem dX9_move_6 : decode cX9_move 6 = .ok (.getfield 145, 3) := by decide +kernel
theorem dX9_move_9 : decode cX9_move 9 = .ok (.invokevirtual 259, 3) := by decide +kernel
theorem dX9_move_12 : decode cX9_move 12 = .ok (.pop, 1) := by decide +kernel
theorem dX9_move_13 : decode cX9_move 13 = .ok (.aload_n 0, 1) := by decide +kernel
theorem dX9_move_14 : decode cX9_move 14 = .ok (.aload_n 0, 1) := by decide +kernel
theorem dX9_move_15 : decode cX9_move 15 = .ok (.getfield 236, 3) := by decide +kernel
theorem dX9_move_18 : decode cX9_move 18 = .ok (.putfield 331, 3) := by decide +kernel
theorem dX9_move_21 : decode cX9_move 21 = .ok (.iconst 0, 1) := by decide +kernel
theorem dX9_move_22 : decode cX9_move 22 = .ok (.istore_n 1, 1) := by decide +kernel
theorem dX9_move_23 : decode cX9_move 23 = .ok (.iload_n 1, 1) := by decide +kernel
theorem dX9_move_24 : decode cX9_move 24 = .ok (.aload_n 0, 1) := by decide +kernel
theorem dX9_move_25 : decode cX9_move 25 = .ok (.getfield 236, 3) := by decide +kernel
theorem dX9_move_28 : decode cX9_move 28 = .ok (.if_icmp .ge 69, 3) := by decide +kernel
theorem dX9_move_31 : decode cX9_move 31 = .ok (.aload_n 0, 1) := by decide +kernel
theorem dX9_move_32 : decode cX9_move 32 = .ok (.getfield 126, 3) := by decide +kernel
theorem dX9_move_35 : decode cX9_move 35 = .ok (.iload_n 1, 1) := by decide +kernel
theorem dX9_move_36 : decode cX9_move 36 = .ok (.aload_n 0, 1) := by decide +kernel
theorem dX9_move_37 : decode cX9_move 37 = .ok (.getfield 71, 3) := by decide +kernel
theorem dX9_move_40 : decode cX9_move 40 = .ok (.iload_n 1, 1) := by decide +kernel
theorem dX9_move_41 : decode cX9_move 41 = .ok (.iaload, 1) := by decide +kernel
theorem dX9_move_42 : decode cX9_move 42 = .ok (.iastore, 1) := by decide +kernel
theorem dX9_move_43 : decode cX9_move 43 = .ok (.aload_n 0, 1) := by decide +kernel
theorem dX9_move_44 : decode cX9_move 44 = .ok (.getfield 129, 3) := by decide +kernel
theorem dX9_move_47 : decode cX9_move 47 = .ok (.iload_n 1, 1) := by decide +kernel
theorem dX9_move_48 : decode cX9_move 48 = .ok (.aload_n 0, 1) := by decide +kernel
theorem dX9_move_49 : decode cX9_move 49 = .ok (.getfield 74, 3) := by decide +kernel
theorem dX9_move_52 : decode cX9_move 52 = .ok (.iload_n 1, 1) := by decide +kernel
theorem dX9_move_53 : decode cX9_move 53 = .ok (.iaload, 1) := by decide +kernel
theorem dX9_move_54 : decode cX9_move 54 = .ok (.iastore, 1) := by decide +kernel
theorem dX9_move_55 : decode cX9_move 55 = .ok (.aload_n 0, 1) := by decide +kernel
theorem dX9_move_56 : decode cX9_move 56 = .ok (.getfield 132, 3) := by decide +kernel
theorem dX9_move_59 : decode cX9_move 59 = .ok (.iload_n 1, 1) := by decide +kernel
theorem dX9_move_60 : decode cX9_move 60 = .ok (.aload_n 0, 1) := by decide +kernel
theorem dX9_move_61 : decode cX9_move 61 = .ok (.getfield 65, 3) := by decide +kernel
theorem dX9_move_64 : decode cX9_move 64 = .ok (.iload_n 1, 1) := by decide +kernel
theorem dX9_move_65 : decode cX9_move 65 = .ok (.iaload, 1) := by decide +kernel
theorem dX9_move_66 : decode cX9_move 66 = .ok (.iastore, 1) := by decide +kernel
theorem dX9_move_67 : decode cX9_move 67 = .ok (.aload_n 0, 1) := by decide +kernel
theorem dX9_move_68 : decode cX9_move 68 = .ok (.getfield 135, 3) := by decide +kernel
theorem dX9_move_71 : decode cX9_move 71 = .ok (.iload_n 1, 1) := by decide +kernel
theorem dX9_move_72 : decode cX9_move 72 = .ok (.aload_n 0, 1) := by decide +kernel
theorem dX9_move_73 : decode cX9_move 73 = .ok (.getfield 68, 3) := by decide +kernel
theorem dX9_move_76 : decode cX9_move 76 = .ok (.iload_n 1, 1) := by decide +kernel
theorem dX9_move_77 : decode cX9_move 77 = .ok (.iaload, 1) := by decide +kernel
theorem dX9_move_78 : decode cX9_move 78 = .ok (.iastore, 1) := by decide +kernel
theorem dX9_move_79 : decode cX9_move 79 = .ok (.aload_n 0, 1) := by decide +kernel
theorem dX9_move_80 : decode cX9_move 80 = .ok (.getfield 138, 3) := by decide +kernel
theorem dX9_move_83 : decode cX9_move 83 = .ok (.iload_n 1, 1) := by decide +kernel
theorem dX9_move_84 : decode cX9_move 84 = .ok (.aload_n 0, 1) := by decide +kernel
theorem dX9_move_85 : decode cX9_move 85 = .ok (.getfield 77, 3) := by decide +kernel
theorem dX9_move_88 : decode cX9_move 88 = .ok (.iload_n 1, 1) := by decide +kernel
theorem dX9_move_89 : decode cX9_move 89 = .ok (.iaload, 1) := by decide +kernel
theorem dX9_move_90 : decode cX9_move 90 = .ok (.iastore, 1) := by decide +kernel
theorem dX9_move_91 : decode cX9_move 91 = .ok (.iinc 1 1, 3) := by decide +kernel
theorem dX9_move_94 : decode cX9_move 94 = .ok (.goto (-71), 3) := by decide +kernel
theorem dX9_move_97 : decode cX9_move 97 = .ok (.aload_n 0, 1) := by decide +kernel
theorem dX9_move_98 : decode cX9_move 98 = .ok (.getfield 145, 3) := by decide +kernel
theorem dX9_move_101 : decode cX9_move 101 = .ok (.istore_n 1, 1) := by decide +kernel
theorem dX9_move_102 : decode cX9_move 102 = .ok (.iload_n 1, 1) := by decide +kernel
theorem dX9_move_103 : decode cX9_move 103 = .ok (.ifCond .lt 52, 3) := by decide +kernel
theorem dX9_move_106 : decode cX9_move 106 = .ok (.iconst 0, 1) := by decide +kernel
theorem dX9_move_107 : decode cX9_move 107 = .ok (.istore_n 2, 1) := by decide +kernel
theorem dX9_move_108 : decode cX9_move 108 = .ok (.iload_n 2, 1) := by decide +kernel
theorem dX9_move_109 : decode cX9_move 109 = .ok (.aload_n 0, 1) := by decide +kernel
theorem dX9_move_110 : decode cX9_move 110 = .ok (.getfield 331, 3) := by decide +kernel
theorem dX9_move_113 : decode cX9_move 113 = .ok (.if_icmp .ge 36, 3) := by decide +kernel
theorem dX9_move_116 : decode cX9_move 116 = .ok (.aload_n 0, 1) := by decide +kernel
theorem dX9_move_117 : decode cX9_move 117 = .ok (.getfield 272, 3) := by decide +kernel
theorem dX9_move_120 : decode cX9_move 120 = .ok (.ifCond .ne 29, 3) := by decide +kernel
theorem dX9_move_123 : decode cX9_move 123 = .ok (.aload_n 0, 1) := by decide +kernel
theorem dX9_move_124 : decode cX9_move 124 = .ok (.getfield 129, 3) := by decide +kernel
theorem dX9_move_127 : decode cX9_move 127 = .ok (.iload_n 2, 1) := by decide +kernel
theorem dX9_move_128 : decode cX9_move 128 = .ok (.iaload, 1) := by decide +kernel
theorem dX9_move_129 : decode cX9_move 129 = .ok (.iload_n 1, 1) := by decide +kernel
theorem dX9_move_130 : decode cX9_move 130 = .ok (.if_icmp .ne 13, 3) := by decide +kernel
theorem dX9_move_133 : decode cX9_move 133 = .ok (.aload_n 0, 1) := by decide +kernel
theorem dX9_move_134 : decode cX9_move 134 = .ok (.iload_n 2, 1) := by decide +kernel
theorem dX9_move_135 : decode cX9_move 135 = .ok (.invokevirtual 334, 3) := by decide +kernel
theorem dX9_move_138 : decode cX9_move 138 = .ok (.ifCond .eq 5, 3) := by decide +kernel
theorem dX9_move_141 : decode cX9_move 141 = .ok (.iconst 1, 1) := by decide +kernel
theorem dX9_move_142 : decode cX9_move 142 = .ok (.ireturn, 1) := by decide +kernel
theorem dX9_move_143 : decode cX9_move 143 = .ok (.iinc 2 1, 3) := by decide +kernel
theorem dX9_move_146 : decode cX9_move 146 = .ok (.goto (-38), 3) := by decide +kernel
theorem dX9_move_149 : decode cX9_move 149 = .ok (.iinc 1 (-1), 3) := by decide +kernel
theorem dX9_move_152 : decode cX9_move 152 = .ok (.goto (-50), 3) := by decide +kernel
theorem dX9_move_155 : decode cX9_move 155 = .ok (.iconst 0, 1) := by decide +kernel
theorem dX9_move_156 : decode cX9_move 156 = .ok (.ireturn, 1) := by decide +kernel
theorem dX9_reduce_0 : decode cX9_reduce 0 = .ok (.iload_n 1, 1) := by decide +kernel
theorem dX9_reduce_1 : decode cX9_reduce 1 = .ok (.ifCond .lt 19, 3) := by decide +kernel
theorem dX9_reduce_4 : decode cX9_reduce 4 = .ok (.iload_n 1, 1) := by decide +kernel
theorem dX9_reduce_5 : decode cX9_reduce 5 = .ok (.iconst 4, 1) := by decide +kernel
theorem dX9_reduce_6 : decode cX9_reduce 6 = .ok (.if_icmp .gt 14, 3) := by decide +kernel
theorem dX9_reduce_9 : decode cX9_reduce 9 = .ok (.iload_n 2, 1) := by decide +kernel
theorem dX9_reduce_10 : decode cX9_reduce 10 = .ok (.ifCond .lt 10, 3) := by decide +kernel
theorem dX9_reduce_13 : decode cX9_reduce 13 = .ok (.iload_n 2, 1) := by decide +kernel
theorem dX9_reduce_14 : decode cX9_reduce 14 = .ok (.sipush 400, 3) := by decide +kernel
theorem dX9_reduce_17 : decode cX9_reduce 17 = .ok (.if_icmp .le 5, 3) := by decide +kernel
theorem dX9_reduce_20 : decode cX9_reduce 20 = .ok (.iconst (-1), 1) := by decide +kernel
theorem dX9_reduce_21 : decode cX9_reduce 21 = .ok (.ireturn, 1) := by decide +kernel
theorem dX9_reduce_22 : decode cX9_reduce 22 = .ok (.aload_n 0, 1) := by decide +kernel
theorem dX9_reduce_23 : decode cX9_reduce 23 = .ok (.invokevirtual 337, 3) := by decide +kernel
theorem dX9_reduce_26 : decode cX9_reduce 26 = .ok (.iconst 1, 1) := by decide +kernel
theorem dX9_reduce_27 : decode cX9_reduce 27 = .ok (.if_icmp .eq 6, 3) := by decide +kernel
theorem dX9_reduce_30 : decode cX9_reduce 30 = .ok (.bipush (-2), 2) := by decide +kernel
theorem dX9_reduce_32 : decode cX9_reduce 32 = .ok (.ireturn, 1) := by decide +kernel
theorem dX9_reduce_33 : decode cX9_reduce 33 = .ok (.iload_n 1, 1) := by decide +kernel
theorem dX9_reduce_34 : decode cX9_reduce 34 = .ok (.iconst 1, 1) := by decide +kernel
theorem dX9_reduce_35 : decode cX9_reduce 35 = .ok (.if_icmp .le 21, 3) := by decide +kernel
theorem dX9_reduce_38 : decode cX9_reduce 38 = .ok (.aload_n 0, 1) := by decide +kernel
theorem dX9_reduce_39 : decode cX9_reduce 39 = .ok (.aload_n 0, 1) := by decide +kernel
theorem dX9_reduce_40 : decode cX9_reduce 40 = .ok (.getfield 7, 3) := by decide +kernel
theorem dX9_reduce_43 : decode cX9_reduce 43 = .ok (.aload_n 0, 1) := by decide +kernel
theorem dX9_reduce_44 : decode cX9_reduce 44 = .ok (.getfield 145, 3) := by decide +kernel
theorem dX9_reduce_47 : decode cX9_reduce 47 = .ok (.invokevirtual 259, 3) := by decide +kernel
theorem dX9_reduce_50 : decode cX9_reduce 50 = .ok (.ifCond .ne 6, 3) := by decide +kernel
theorem dX9_reduce_53 : decode cX9_reduce 53 = .ok (.bipush (-3), 2) := by decide +kernel
theorem dX9_reduce_55 : decode cX9_reduce 55 = .ok (.ireturn, 1) := by decide +kernel
theorem dX9_reduce_56 : decode cX9_reduce 56 = .ok (.aload_n 0, 1) := by decide +kernel
theorem dX9_reduce_57 : decode cX9_reduce 57 = .ok (.dup, 1) := by decide +kernel
theorem dX9_reduce_58 : decode cX9_reduce 58 = .ok (.getfield 341, 3) := by decide +kernel
theorem dX9_reduce_61 : decode cX9_reduce 61 = .ok (.iconst 1, 1) := by decide +kernel
theorem dX9_reduce_62 : decode cX9_reduce 62 = .ok (.iadd, 1) := by decide +kernel
theorem dX9_reduce_63 : decode cX9_reduce 63 = .ok (.putfield 341, 3) := by decide +kernel
theorem dX9_reduce_66 : decode cX9_reduce 66 = .ok (.aload_n 0, 1) := by decide +kernel
theorem dX9_reduce_67 : decode cX9_reduce 67 = .ok (.iload_n 2, 1) := by decide +kernel
theorem dX9_reduce_68 : decode cX9_reduce 68 = .ok (.putfield 269, 3) := by decide +kernel
theorem dX9_reduce_71 : decode cX9_reduce 71 = .ok (.aload_n 0, 1) := by decide +kernel
theorem dX9_reduce_72 : decode cX9_reduce 72 = .ok (.iconst 0, 1) := by decide +kernel
theorem dX9_reduce_73 : decode cX9_reduce 73 = .ok (.putfield 272, 3) := by decide +kernel
theorem dX9_reduce_76 : decode cX9_reduce 76 = .ok (.iload_n 1, 1) := by decide +kernel
theorem dX9_reduce_77 : decode cX9_reduce 77 = .ok (.iconst 2, 1) := by decide +kernel
theorem dX9_reduce_78 : decode cX9_reduce 78 = .ok (.if_icmp .ge 20, 3) := by decide +kernel
theorem dX9_reduce_81 : decode cX9_reduce 81 = .ok (.aload_n 0, 1) := by decide +kernel
theorem dX9_reduce_82 : decode cX9_reduce 82 = .ok (.iload_n 1, 1) := by decide +kernel
theorem dX9_reduce_83 : decode cX9_reduce 83 = .ok (.iconst 1, 1) := by decide +kernel
theorem dX9_reduce_84 : decode cX9_reduce 84 = .ok (.if_icmp .ne 7, 3) := by decide +kernel
theorem dX9_reduce_87 : decode cX9_reduce 87 = .ok (.iconst 1, 1) := by decide +kernel
theorem dX9_reduce_88 : decode cX9_reduce 88 = .ok (.goto 4, 3) := by decide +kernel
theorem dX9_reduce_91 : decode cX9_reduce 91 = .ok (.iconst 0, 1) := by decide +kernel
theorem dX9_reduce_92 : decode cX9_reduce 92 = .ok (.invokevirtual 344, 3) := by decide +kernel
theorem dX9_reduce_95 : decode cX9_reduce 95 = .ok (.goto 48, 3) := by decide +kernel
theorem dX9_reduce_98 : decode cX9_reduce 98 = .ok (.iload_n 1, 1) := by decide +kernel
theorem dX9_reduce_99 : decode cX9_reduce 99 = .ok (.iconst 2, 1) := by decide +kernel
theorem dX9_reduce_100 : decode cX9_reduce 100 = .ok (.if_icmp .ne 10, 3) := by decide +kernel
theorem dX9_reduce_103 : decode cX9_reduce 103 = .ok (.aload_n 0, 1) := by decide +kernel
theorem dX9_reduce_104 : decode cX9_reduce 104 = .ok (.invokevirtual 324, 3) := by decide +kernel
theorem dX9_reduce_107 : decode cX9_reduce 107 = .ok (.goto 36, 3) := by decide +kernel
theorem dX9_reduce_110 : decode cX9_reduce 110 = .ok (.iload_n 1, 1) := by decide +kernel
theorem dX9_reduce_111 : decode cX9_reduce 111 = .ok (.iconst 3, 1) := by decide +kernel
theorem dX9_reduce_112 : decode cX9_reduce 112 = .ok (.if_icmp .ne 10, 3) := by decide +kernel
theorem dX9_reduce_115 : decode cX9_reduce 115 = .ok (.aload_n 0, 1) := by decide +kernel
theorem dX9_reduce_116 : decode cX9_reduce 116 = .ok (.invokevirtual 348, 3) := by decide +kernel
theorem dX9_reduce_119 : decode cX9_reduce 119 = .ok (.goto 24, 3) := by decide +kernel
theorem dX9_reduce_122 : decode cX9_reduce 122 = .ok (.iconst 1, 1) := by decide +kernel
theorem dX9_reduce_123 : decode cX9_reduce 123 = .ok (.istore_n 3, 1) := by decide +kernel
theorem dX9_reduce_124 : decode cX9_reduce 124 = .ok (.iload_n 3, 1) := by decide +kernel
theorem dX9_reduce_125 : decode cX9_reduce 125 = .ok (.ifCond .eq 18, 3) := by decide +kernel
theorem dX9_reduce_128 : decode cX9_reduce 128 = .ok (.aload_n 0, 1) := by decide +kernel
theorem dX9_reduce_129 : decode cX9_reduce 129 = .ok (.getfield 272, 3) := by decide +kernel
theorem dX9_reduce_132 : decode cX9_reduce 132 = .ok (.ifCond .ne 11, 3) := by decide +kernel
theorem dX9_reduce_135 : decode cX9_reduce 135 = .ok (.aload_n 0, 1) := by decide +kernel
theorem dX9_reduce_136 : decode cX9_reduce 136 = .ok (.invokevirtual 351, 3) := by decide +kernel
theorem dX9_reduce_139 : decode cX9_reduce 139 = .ok (.istore_n 3, 1) := by decide +kernel
theorem dX9_reduce_140 : decode cX9_reduce 140 = .ok (.goto (-16), 3) := by decide +kernel
theorem dX9_reduce_143 : decode cX9_reduce 143 = .ok (.aload_n 0, 1) := by decide +kernel
theorem dX9_reduce_144 : decode cX9_reduce 144 = .ok (.getfield 145, 3) := by decide +kernel
theorem dX9_reduce_147 : decode cX9_reduce 147 = .ok (.ireturn, 1) := by decide +kernel
theorem dX9_remember_0 : decode cX9_remember 0 = .ok (.aload_n 0, 1) := by decide +kernel
theorem dX9_remember_1 : decode cX9_remember 1 = .ok (.iload_n 1, 1) := by decide +kernel
theorem dX9_remember_2 : decode cX9_remember 2 = .ok (.putfield 98, 3) := by decide +kernel
theorem dX9_remember_5 : decode cX9_remember 5 = .ok (.aload_n 0, 1) := by decide +kernel
theorem dX9_remember_6 : decode cX9_remember 6 = .ok (.iconst 0, 1) := by decide +kernel
theorem dX9_remember_7 : decode cX9_remember 7 = .ok (.putfield 166, 3) := by decide +kernel
theorem dX9_remember_10 : decode cX9_remember 10 = .ok (.return_, 1) := by decide +kernel
theorem dX9_length_0 : decode cX9_length 0 = .ok (.aload_n 0, 1) := by decide +kernel
theorem dX9_length_1 : decode cX9_length 1 = .ok (.getfield 145, 3) := by decide +kernel
theorem dX9_length_4 : decode cX9_length 4 = .ok (.ireturn, 1) := by decide +kernel
theorem dX9_at_0 : decode cX9_at 0 = .ok (.iload_n 1, 1) := by decide +kernel
theorem dX9_at_1 : decode cX9_at 1 = .ok (.ifCond .lt 21, 3) := by decide +kernel
theorem dX9_at_4 : decode cX9_at 4 = .ok (.iload_n 1, 1) := by decide +kernel
theorem dX9_at_5 : decode cX9_at 5 = .ok (.aload_n 0, 1) := by decide +kernel
theorem dX9_at_6 : decode cX9_at 6 = .ok (.getfield 145, 3) := by decide +kernel
theorem dX9_at_9 : decode cX9_at 9 = .ok (.if_icmp .ge 13, 3) := by decide +kernel
theorem dX9_at_12 : decode cX9_at 12 = .ok (.aload_n 0, 1) := by decide +kernel
theorem dX9_at_13 : decode cX9_at 13 = .ok (.getfield 7, 3) := by decide +kernel
theorem dX9_at_16 : decode cX9_at 16 = .ok (.iload_n 1, 1) := by decide +kernel
theorem dX9_at_17 : decode cX9_at 17 = .ok (.iaload, 1) := by decide +kernel
theorem dX9_at_18 : decode cX9_at 18 = .ok (.i2c, 1) := by decide +kernel
theorem dX9_at_19 : decode cX9_at 19 = .ok (.goto 4, 3) := by decide +kernel
theorem dX9_at_22 : decode cX9_at 22 = .ok (.iconst 0, 1) := by decide +kernel
theorem dX9_at_23 : decode cX9_at 23 = .ok (.ireturn, 1) := by decide +kernel
theorem dX9_count_0 : decode cX9_count 0 = .ok (.iload_n 1, 1) := by decide +kernel
theorem dX9_count_1 : decode cX9_count 1 = .ok (.tableswitch 68 0 4 #[35, 40, 45, 50, 63], 35) := by decide +kernel
theorem dX9_count_36 : decode cX9_count 36 = .ok (.aload_n 0, 1) := by decide +kernel
theorem dX9_count_37 : decode cX9_count 37 = .ok (.getfield 278, 3) := by decide +kernel
theorem dX9_count_40 : decode cX9_count 40 = .ok (.ireturn, 1) := by decide +kernel
theorem dX9_count_41 : decode cX9_count 41 = .ok (.aload_n 0, 1) := by decide +kernel
theorem dX9_count_42 : decode cX9_count 42 = .ok (.getfield 275, 3) := by decide +kernel
theorem dX9_count_45 : decode cX9_count 45 = .ok (.ireturn, 1) := by decide +kernel
theorem dX9_count_46 : decode cX9_count 46 = .ok (.aload_n 0, 1) := by decide +kernel
theorem dX9_count_47 : decode cX9_count 47 = .ok (.getfield 341, 3) := by decide +kernel
theorem dX9_count_50 : decode cX9_count 50 = .ok (.ireturn, 1) := by decide +kernel
theorem dX9_count_51 : decode cX9_count 51 = .ok (.aload_n 0, 1) := by decide +kernel
theorem dX9_count_52 : decode cX9_count 52 = .ok (.getfield 272, 3) := by decide +kernel
theorem dX9_count_55 : decode cX9_count 55 = .ok (.ifCond .eq 7, 3) := by decide +kernel
theorem dX9_count_58 : decode cX9_count 58 = .ok (.iconst 1, 1) := by decide +kernel
theorem dX9_count_59 : decode cX9_count 59 = .ok (.goto 4, 3) := by decide +kernel
theorem dX9_count_62 : decode cX9_count 62 = .ok (.iconst 0, 1) := by decide +kernel
theorem dX9_count_63 : decode cX9_count 63 = .ok (.ireturn, 1) := by decide +kernel
theorem dX9_count_64 : decode cX9_count 64 = .ok (.aload_n 0, 1) := by decide +kernel
theorem dX9_count_65 : decode cX9_count 65 = .ok (.getfield 166, 3) := by decide +kernel
theorem dX9_count_68 : decode cX9_count 68 = .ok (.ireturn, 1) := by decide +kernel
theorem dX9_count_69 : decode cX9_count 69 = .ok (.iconst (-1), 1) := by decide +kernel
theorem dX9_count_70 : decode cX9_count 70 = .ok (.ireturn, 1) := by decide +kernel
theorem dL_law_0 : decode cL_law 0 = .ok (.new 7, 3) := by decide +kernel
theorem dL_law_3 : decode cL_law 3 = .ok (.dup, 1) := by decide +kernel
theorem dL_law_4 : decode cL_law 4 = .ok (.invokespecial 9, 3) := by decide +kernel
theorem dL_law_7 : decode cL_law 7 = .ok (.astore_n 1, 1) := by decide +kernel
theorem dL_law_8 : decode cL_law 8 = .ok (.new 10, 3) := by decide +kernel
theorem dL_law_11 : decode cL_law 11 = .ok (.dup, 1) := by decide +kernel
theorem dL_law_12 : decode cL_law 12 = .ok (.invokespecial 12, 3) := by decide +kernel
theorem dL_law_15 : decode cL_law 15 = .ok (.astore_n 2, 1) := by decide +kernel
theorem dL_law_16 : decode cL_law 16 = .ok (.iconst 0, 1) := by decide +kernel
theorem dL_law_17 : decode cL_law 17 = .ok (.istore_n 3, 1) := by decide +kernel
theorem dL_law_18 : decode cL_law 18 = .ok (.iload_n 3, 1) := by decide +kernel
theorem dL_law_19 : decode cL_law 19 = .ok (.aload_n 0, 1) := by decide +kernel
theorem dL_law_20 : decode cL_law 20 = .ok (.arraylength, 1) := by decide +kernel
theorem dL_law_21 : decode cL_law 21 = .ok (.iconst 4, 1) := by decide +kernel
theorem dL_law_22 : decode cL_law 22 = .ok (.isub, 1) := by decide +kernel
theorem dL_law_23 : decode cL_law 23 = .ok (.if_icmp .gt 594, 3) := by decide +kernel
theorem dL_law_26 : decode cL_law 26 = .ok (.aload_n 0, 1) := by decide +kernel
theorem dL_law_27 : decode cL_law 27 = .ok (.iload_n 3, 1) := by decide +kernel
theorem dL_law_28 : decode cL_law 28 = .ok (.iaload, 1) := by decide +kernel
theorem dL_law_29 : decode cL_law 29 = .ok (.bipush 31, 2) := by decide +kernel
theorem dL_law_31 : decode cL_law 31 = .ok (.iand, 1) := by decide +kernel
theorem dL_law_32 : decode cL_law 32 = .ok (.tableswitch 579 0 18 #[92, 117, 128, 153, 166, 201, 264, 287, 300, 339, 378, 415, 428, 441, 464, 487, 520, 533, 556], 92) := by decide +kernel
theorem dL_law_124 : decode cL_law 124 = .ok (.aload_n 1, 1) := by decide +kernel
theorem dL_law_125 : decode cL_law 125 = .ok (.aload_n 0, 1) := by decide +kernel
theorem dL_law_126 : decode cL_law 126 = .ok (.iload_n 3, 1) := by decide +kernel
theorem dL_law_127 : decode cL_law 127 = .ok (.iconst 1, 1) := by decide +kernel
theorem dL_law_128 : decode cL_law 128 = .ok (.iadd, 1) := by decide +kernel
theorem dL_law_129 : decode cL_law 129 = .ok (.iaload, 1) := by decide +kernel
theorem dL_law_130 : decode cL_law 130 = .ok (.i2c, 1) := by decide +kernel
theorem dL_law_131 : decode cL_law 131 = .ok (.invokevirtual 13, 3) := by decide +kernel
theorem dL_law_134 : decode cL_law 134 = .ok (.aload_n 2, 1) := by decide +kernel
theorem dL_law_135 : decode cL_law 135 = .ok (.aload_n 0, 1) := by decide +kernel
theorem dL_law_136 : decode cL_law 136 = .ok (.iload_n 3, 1) := by decide +kernel
theorem dL_law_137 : decode cL_law 137 = .ok (.iconst 1, 1) := by decide +kernel
theorem dL_law_138 : decode cL_law 138 = .ok (.iadd, 1) := by decide +kernel
theorem dL_law_139 : decode cL_law 139 = .ok (.iaload, 1) := by decide +kernel
theorem dL_law_140 : decode cL_law 140 = .ok (.i2c, 1) := by decide +kernel
theorem dL_law_141 : decode cL_law 141 = .ok (.invokevirtual 17, 3) := by decide +kernel
theorem dL_law_144 : decode cL_law 144 = .ok (.if_icmp .eq 467, 3) := by decide +kernel
theorem dL_law_147 : decode cL_law 147 = .ok (.iconst 0, 1) := by decide +kernel
theorem dL_law_148 : decode cL_law 148 = .ok (.ireturn, 1) := by decide +kernel
theorem dL_law_149 : decode cL_law 149 = .ok (.aload_n 1, 1) := by decide +kernel
theorem dL_law_150 : decode cL_law 150 = .ok (.invokevirtual 18, 3) := by decide +kernel
theorem dL_law_153 : decode cL_law 153 = .ok (.aload_n 2, 1) := by decide +kernel
theorem dL_law_154 : decode cL_law 154 = .ok (.invokevirtual 21, 3) := by decide +kernel
theorem dL_law_157 : decode cL_law 157 = .ok (.goto 454, 3) := by decide +kernel
theorem dL_law_160 : decode cL_law 160 = .ok (.aload_n 1, 1) := by decide +kernel
theorem dL_law_161 : decode cL_law 161 = .ok (.aload_n 0, 1) := by decide +kernel
theorem dL_law_162 : decode cL_law 162 = .ok (.iload_n 3, 1) := by decide +kernel
theorem dL_law_163 : decode cL_law 163 = .ok (.iconst 1, 1) := by decide +kernel
theorem dL_law_164 : decode cL_law 164 = .ok (.iadd, 1) := by decide +kernel
theorem dL_law_165 : decode cL_law 165 = .ok (.iaload, 1) := by decide +kernel
theorem dL_law_166 : decode cL_law 166 = .ok (.i2c, 1) := by decide +kernel
theorem dL_law_167 : decode cL_law 167 = .ok (.invokevirtual 22, 3) := by decide +kernel
theorem dL_law_170 : decode cL_law 170 = .ok (.aload_n 2, 1) := by decide +kernel
theorem dL_law_171 : decode cL_law 171 = .ok (.aload_n 0, 1) := by decide +kernel
theorem dL_law_172 : decode cL_law 172 = .ok (.iload_n 3, 1) := by decide +kernel
theorem dL_law_173 : decode cL_law 173 = .ok (.iconst 1, 1) := by decide +kernel
theorem dL_law_174 : decode cL_law 174 = .ok (.iadd, 1) := by decide +kernel
theorem dL_law_175 : decode cL_law 175 = .ok (.iaload, 1) := by decide +kernel
theorem dL_law_176 : decode cL_law 176 = .ok (.i2c, 1) := by decide +kernel
theorem dL_law_177 : decode cL_law 177 = .ok (.invokevirtual 25, 3) := by decide +kernel
theorem dL_law_180 : decode cL_law 180 = .ok (.if_icmp .eq 431, 3) := by decide +kernel
theorem dL_law_183 : decode cL_law 183 = .ok (.iconst 0, 1) := by decide +kernel
theorem dL_law_184 : decode cL_law 184 = .ok (.ireturn, 1) := by decide +kernel
theorem dL_law_185 : decode cL_law 185 = .ok (.aload_n 1, 1) := by decide +kernel
theorem dL_law_186 : decode cL_law 186 = .ok (.invokevirtual 26, 3) := by decide +kernel
theorem dL_law_189 : decode cL_law 189 = .ok (.aload_n 2, 1) := by decide +kernel
theorem dL_law_190 : decode cL_law 190 = .ok (.invokevirtual 30, 3) := by decide +kernel
theorem dL_law_193 : decode cL_law 193 = .ok (.if_icmp .eq 418, 3) := by decide +kernel
theorem dL_law_196 : decode cL_law 196 = .ok (.iconst 0, 1) := by decide +kernel
theorem dL_law_197 : decode cL_law 197 = .ok (.ireturn, 1) := by decide +kernel
theorem dL_law_198 : decode cL_law 198 = .ok (.aload_n 1, 1) := by decide +kernel
theorem dL_law_199 : decode cL_law 199 = .ok (.aload_n 0, 1) := by decide +kernel
theorem dL_law_200 : decode cL_law 200 = .ok (.iload_n 3, 1) := by decide +kernel
theorem dL_law_201 : decode cL_law 201 = .ok (.iconst 1, 1) := by decide +kernel
theorem dL_law_202 : decode cL_law 202 = .ok (.iadd, 1) := by decide +kernel
theorem dL_law_203 : decode cL_law 203 = .ok (.iaload, 1) := by decide +kernel
theorem dL_law_204 : decode cL_law 204 = .ok (.i2c, 1) := by decide +kernel
theorem dL_law_205 : decode cL_law 205 = .ok (.aload_n 0, 1) := by decide +kernel
theorem dL_law_206 : decode cL_law 206 = .ok (.iload_n 3, 1) := by decide +kernel
theorem dL_law_207 : decode cL_law 207 = .ok (.iconst 2, 1) := by decide +kernel
theorem dL_law_208 : decode cL_law 208 = .ok (.iadd, 1) := by decide +kernel
theorem dL_law_209 : decode cL_law 209 = .ok (.iaload, 1) := by decide +kernel
theorem dL_law_210 : decode cL_law 210 = .ok (.invokevirtual 31, 3) := by decide +kernel
theorem dL_law_213 : decode cL_law 213 = .ok (.aload_n 2, 1) := by decide +kernel
theorem dL_law_214 : decode cL_law 214 = .ok (.aload_n 0, 1) := by decide +kernel
theorem dL_law_215 : decode cL_law 215 = .ok (.iload_n 3, 1) := by decide +kernel
theorem dL_law_216 : decode cL_law 216 = .ok (.iconst 1, 1) := by decide +kernel
theorem dL_law_217 : decode cL_law 217 = .ok (.iadd, 1) := by decide +kernel
theorem dL_law_218 : decode cL_law 218 = .ok (.iaload, 1) := by decide +kernel
theorem dL_law_219 : decode cL_law 219 = .ok (.i2c, 1) := by decide +kernel
theorem dL_law_220 : decode cL_law 220 = .ok (.aload_n 0, 1) := by decide +kernel
theorem dL_law_221 : decode cL_law 221 = .ok (.iload_n 3, 1) := by decide +kernel
theorem dL_law_222 : decode cL_law 222 = .ok (.iconst 2, 1) := by decide +kernel
theorem dL_law_223 : decode cL_law 223 = .ok (.iadd, 1) := by decide +kernel
theorem dL_law_224 : decode cL_law 224 = .ok (.iaload, 1) := by decide +kernel
theorem dL_law_225 : decode cL_law 225 = .ok (.invokevirtual 35, 3) := by decide +kernel
theorem dL_law_228 : decode cL_law 228 = .ok (.if_icmp .eq 383, 3) := by decide +kernel
theorem dL_law_231 : decode cL_law 231 = .ok (.iconst 0, 1) := by decide +kernel
theorem dL_law_232 : decode cL_law 232 = .ok (.ireturn, 1) := by decide +kernel
theorem dL_law_233 : decode cL_law 233 = .ok (.aload_n 1, 1) := by decide +kernel
theorem dL_law_234 : decode cL_law 234 = .ok (.aload_n 0, 1) := by decide +kernel
theorem dL_law_235 : decode cL_law 235 = .ok (.iload_n 3, 1) := by decide +kernel
theorem dL_law_236 : decode cL_law 236 = .ok (.iconst 1, 1) := by decide +kernel
theorem dL_law_237 : decode cL_law 237 = .ok (.iadd, 1) := by decide +kernel
theorem dL_law_238 : decode cL_law 238 = .ok (.iaload, 1) := by decide +kernel
theorem dL_law_239 : decode cL_law 239 = .ok (.i2c, 1) := by decide +kernel
theorem dL_law_240 : decode cL_law 240 = .ok (.aload_n 0, 1) := by decide +kernel
theorem dL_law_241 : decode cL_law 241 = .ok (.iload_n 3, 1) := by decide +kernel
theorem dL_law_242 : decode cL_law 242 = .ok (.iconst 2, 1) := by decide +kernel
theorem dL_law_243 : decode cL_law 243 = .ok (.iadd, 1) := by decide +kernel
theorem dL_law_244 : decode cL_law 244 = .ok (.iaload, 1) := by decide +kernel
theorem dL_law_245 : decode cL_law 245 = .ok (.i2c, 1) := by decide +kernel
theorem dL_law_246 : decode cL_law 246 = .ok (.aload_n 0, 1) := by decide +kernel
theorem dL_law_247 : decode cL_law 247 = .ok (.iload_n 3, 1) := by decide +kernel
theorem dL_law_248 : decode cL_law 248 = .ok (.iconst 3, 1) := by decide +kernel
theorem dL_law_249 : decode cL_law 249 = .ok (.iadd, 1) := by decide +kernel
theorem dL_law_250 : decode cL_law 250 = .ok (.iaload, 1) := by decide +kernel
theorem dL_law_251 : decode cL_law 251 = .ok (.ifCond .eq 7, 3) := by decide +kernel
theorem dL_law_254 : decode cL_law 254 = .ok (.iconst 1, 1) := by decide +kernel
theorem dL_law_255 : decode cL_law 255 = .ok (.goto 4, 3) := by decide +kernel
theorem dL_law_258 : decode cL_law 258 = .ok (.iconst 0, 1) := by decide +kernel
theorem dL_law_259 : decode cL_law 259 = .ok (.invokevirtual 36, 3) := by decide +kernel
theorem dL_law_262 : decode cL_law 262 = .ok (.aload_n 2, 1) := by decide +kernel
theorem dL_law_263 : decode cL_law 263 = .ok (.aload_n 0, 1) := by decide +kernel
theorem dL_law_264 : decode cL_law 264 = .ok (.iload_n 3, 1) := by decide +kernel
theorem dL_law_265 : decode cL_law 265 = .ok (.iconst 1, 1) := by decide +kernel
theorem dL_law_266 : decode cL_law 266 = .ok (.iadd, 1) := by decide +kernel
theorem dL_law_267 : decode cL_law 267 = .ok (.iaload, 1) := by decide +kernel
theorem dL_law_268 : decode cL_law 268 = .ok (.i2c, 1) := by decide +kernel
theorem dL_law_269 : decode cL_law 269 = .ok (.aload_n 0, 1) := by decide +kernel
theorem dL_law_270 : decode cL_law 270 = .ok (.iload_n 3, 1) := by decide +kernel
theorem dL_law_271 : decode cL_law 271 = .ok (.iconst 2, 1) := by decide +kernel
theorem dL_law_272 : decode cL_law 272 = .ok (.iadd, 1) := by decide +kernel
theorem dL_law_273 : decode cL_law 273 = .ok (.iaload, 1) := by decide +kernel
theorem dL_law_274 : decode cL_law 274 = .ok (.i2c, 1) := by decide +kernel
theorem dL_law_275 : decode cL_law 275 = .ok (.aload_n 0, 1) := by decide +kernel
theorem dL_law_276 : decode cL_law 276 = .ok (.iload_n 3, 1) := by decide +kernel
theorem dL_law_277 : decode cL_law 277 = .ok (.iconst 3, 1) := by decide +kernel
theorem dL_law_278 : decode cL_law 278 = .ok (.iadd, 1) := by decide +kernel
theorem dL_law_279 : decode cL_law 279 = .ok (.iaload, 1) := by decide +kernel
theorem dL_law_280 : decode cL_law 280 = .ok (.ifCond .eq 7, 3) := by decide +kernel
theorem dL_law_283 : decode cL_law 283 = .ok (.iconst 1, 1) := by decide +kernel
theorem dL_law_284 : decode cL_law 284 = .ok (.goto 4, 3) := by decide +kernel
theorem dL_law_287 : decode cL_law 287 = .ok (.iconst 0, 1) := by decide +kernel
theorem dL_law_288 : decode cL_law 288 = .ok (.invokevirtual 40, 3) := by decide +kernel
theorem dL_law_291 : decode cL_law 291 = .ok (.if_icmp .eq 320, 3) := by decide +kernel
theorem dL_law_294 : decode cL_law 294 = .ok (.iconst 0, 1) := by decide +kernel
theorem dL_law_295 : decode cL_law 295 = .ok (.ireturn, 1) := by decide +kernel
theorem dL_law_296 : decode cL_law 296 = .ok (.aload_n 1, 1) := by decide +kernel
theorem dL_law_297 : decode cL_law 297 = .ok (.aload_n 0, 1) := by decide +kernel
theorem dL_law_298 : decode cL_law 298 = .ok (.iload_n 3, 1) := by decide +kernel
theorem dL_law_299 : decode cL_law 299 = .ok (.iconst 1, 1) := by decide +kernel
theorem dL_law_300 : decode cL_law 300 = .ok (.iadd, 1) := by decide +kernel
theorem dL_law_301 : decode cL_law 301 = .ok (.iaload, 1) := by decide +kernel
theorem dL_law_302 : decode cL_law 302 = .ok (.invokevirtual 41, 3) := by decide +kernel
theorem dL_law_305 : decode cL_law 305 = .ok (.aload_n 2, 1) := by decide +kernel
theorem dL_law_306 : decode cL_law 306 = .ok (.aload_n 0, 1) := by decide +kernel
theorem dL_law_307 : decode cL_law 307 = .ok (.iload_n 3, 1) := by decide +kernel
theorem dL_law_308 : decode cL_law 308 = .ok (.iconst 1, 1) := by decide +kernel
theorem dL_law_309 : decode cL_law 309 = .ok (.iadd, 1) := by decide +kernel
theorem dL_law_310 : decode cL_law 310 = .ok (.iaload, 1) := by decide +kernel
theorem dL_law_311 : decode cL_law 311 = .ok (.invokevirtual 45, 3) := by decide +kernel
theorem dL_law_314 : decode cL_law 314 = .ok (.if_icmp .eq 297, 3) := by decide +kernel
theorem dL_law_317 : decode cL_law 317 = .ok (.iconst 0, 1) := by decide +kernel
theorem dL_law_318 : decode cL_law 318 = .ok (.ireturn, 1) := by decide +kernel
theorem dL_law_319 : decode cL_law 319 = .ok (.aload_n 1, 1) := by decide +kernel
theorem dL_law_320 : decode cL_law 320 = .ok (.invokevirtual 46, 3) := by decide +kernel
theorem dL_law_323 : decode cL_law 323 = .ok (.aload_n 2, 1) := by decide +kernel
theorem dL_law_324 : decode cL_law 324 = .ok (.invokevirtual 50, 3) := by decide +kernel
theorem dL_law_327 : decode cL_law 327 = .ok (.if_icmp .eq 284, 3) := by decide +kernel
theorem dL_law_330 : decode cL_law 330 = .ok (.iconst 0, 1) := by decide +kernel
theorem dL_law_331 : decode cL_law 331 = .ok (.ireturn, 1) := by decide +kernel
theorem dL_law_332 : decode cL_law 332 = .ok (.aload_n 1, 1) := by decide +kernel
theorem dL_law_333 : decode cL_law 333 = .ok (.aload_n 0, 1) := by decide +kernel
theorem dL_law_334 : decode cL_law 334 = .ok (.iload_n 3, 1) := by decide +kernel
theorem dL_law_335 : decode cL_law 335 = .ok (.iconst 1, 1) := by decide +kernel
theorem dL_law_336 : decode cL_law 336 = .ok (.iadd, 1) := by decide +kernel
theorem dL_law_337 : decode cL_law 337 = .ok (.iaload, 1) := by decide +kernel
theorem dL_law_338 : decode cL_law 338 = .ok (.ifCond .eq 7, 3) := by decide +kernel
theorem dL_law_341 : decode cL_law 341 = .ok (.iconst 1, 1) := by decide +kernel
theorem dL_law_342 : decode cL_law 342 = .ok (.goto 4, 3) := by decide +kernel
theorem dL_law_345 : decode cL_law 345 = .ok (.iconst 0, 1) := by decide +kernel
theorem dL_law_346 : decode cL_law 346 = .ok (.invokevirtual 51, 3) := by decide +kernel
theorem dL_law_349 : decode cL_law 349 = .ok (.aload_n 2, 1) := by decide +kernel
theorem dL_law_350 : decode cL_law 350 = .ok (.aload_n 0, 1) := by decide +kernel
theorem dL_law_351 : decode cL_law 351 = .ok (.iload_n 3, 1) := by decide +kernel
theorem dL_law_352 : decode cL_law 352 = .ok (.iconst 1, 1) := by decide +kernel
theorem dL_law_353 : decode cL_law 353 = .ok (.iadd, 1) := by decide +kernel
theorem dL_law_354 : decode cL_law 354 = .ok (.iaload, 1) := by decide +kernel
theorem dL_law_355 : decode cL_law 355 = .ok (.ifCond .eq 7, 3) := by decide +kernel
theorem dL_law_358 : decode cL_law 358 = .ok (.iconst 1, 1) := by decide +kernel
theorem dL_law_359 : decode cL_law 359 = .ok (.goto 4, 3) := by decide +kernel
theorem dL_law_362 : decode cL_law 362 = .ok (.iconst 0, 1) := by decide +kernel
theorem dL_law_363 : decode cL_law 363 = .ok (.invokevirtual 55, 3) := by decide +kernel
theorem dL_law_366 : decode cL_law 366 = .ok (.if_icmp .eq 245, 3) := by decide +kernel
theorem dL_law_369 : decode cL_law 369 = .ok (.iconst 0, 1) := by decide +kernel
theorem dL_law_370 : decode cL_law 370 = .ok (.ireturn, 1) := by decide +kernel
theorem dL_law_371 : decode cL_law 371 = .ok (.aload_n 1, 1) := by decide +kernel
theorem dL_law_372 : decode cL_law 372 = .ok (.aload_n 0, 1) := by decide +kernel
theorem dL_law_373 : decode cL_law 373 = .ok (.iload_n 3, 1) := by decide +kernel
theorem dL_law_374 : decode cL_law 374 = .ok (.iconst 1, 1) := by decide +kernel
theorem dL_law_375 : decode cL_law 375 = .ok (.iadd, 1) := by decide +kernel
theorem dL_law_376 : decode cL_law 376 = .ok (.iaload, 1) := by decide +kernel
theorem dL_law_377 : decode cL_law 377 = .ok (.ifCond .eq 7, 3) := by decide +kernel
theorem dL_law_380 : decode cL_law 380 = .ok (.iconst 1, 1) := by decide +kernel
theorem dL_law_381 : decode cL_law 381 = .ok (.goto 4, 3) := by decide +kernel
theorem dL_law_384 : decode cL_law 384 = .ok (.iconst 0, 1) := by decide +kernel
theorem dL_law_385 : decode cL_law 385 = .ok (.invokevirtual 56, 3) := by decide +kernel
theorem dL_law_388 : decode cL_law 388 = .ok (.aload_n 2, 1) := by decide +kernel
theorem dL_law_389 : decode cL_law 389 = .ok (.aload_n 0, 1) := by decide +kernel
theorem dL_law_390 : decode cL_law 390 = .ok (.iload_n 3, 1) := by decide +kernel
theorem dL_law_391 : decode cL_law 391 = .ok (.iconst 1, 1) := by decide +kernel
theorem dL_law_392 : decode cL_law 392 = .ok (.iadd, 1) := by decide +kernel
theorem dL_law_393 : decode cL_law 393 = .ok (.iaload, 1) := by decide +kernel
theorem dL_law_394 : decode cL_law 394 = .ok (.ifCond .eq 7, 3) := by decide +kernel
theorem dL_law_397 : decode cL_law 397 = .ok (.iconst 1, 1) := by decide +kernel
theorem dL_law_398 : decode cL_law 398 = .ok (.goto 4, 3) := by decide +kernel
theorem dL_law_401 : decode cL_law 401 = .ok (.iconst 0, 1) := by decide +kernel
theorem dL_law_402 : decode cL_law 402 = .ok (.invokevirtual 59, 3) := by decide +kernel
theorem dL_law_405 : decode cL_law 405 = .ok (.if_icmp .eq 206, 3) := by decide +kernel
theorem dL_law_408 : decode cL_law 408 = .ok (.iconst 0, 1) := by decide +kernel
theorem dL_law_409 : decode cL_law 409 = .ok (.ireturn, 1) := by decide +kernel
theorem dL_law_410 : decode cL_law 410 = .ok (.aload_n 1, 1) := by decide +kernel
theorem dL_law_411 : decode cL_law 411 = .ok (.aload_n 0, 1) := by decide +kernel
theorem dL_law_412 : decode cL_law 412 = .ok (.iload_n 3, 1) := by decide +kernel
theorem dL_law_413 : decode cL_law 413 = .ok (.iconst 1, 1) := by decide +kernel
theorem dL_law_414 : decode cL_law 414 = .ok (.iadd, 1) := by decide +kernel
theorem dL_law_415 : decode cL_law 415 = .ok (.iaload, 1) := by decide +kernel
theorem dL_law_416 : decode cL_law 416 = .ok (.ifCond .eq 7, 3) := by decide +kernel
theorem dL_law_419 : decode cL_law 419 = .ok (.iconst 1, 1) := by decide +kernel
theorem dL_law_420 : decode cL_law 420 = .ok (.goto 4, 3) := by decide +kernel
theorem dL_law_423 : decode cL_law 423 = .ok (.iconst 0, 1) := by decide +kernel
theorem dL_law_424 : decode cL_law 424 = .ok (.invokevirtual 60, 3) := by decide +kernel
theorem dL_law_427 : decode cL_law 427 = .ok (.aload_n 2, 1) := by decide +kernel
theorem dL_law_428 : decode cL_law 428 = .ok (.aload_n 0, 1) := by decide +kernel
theorem dL_law_429 : decode cL_law 429 = .ok (.iload_n 3, 1) := by decide +kernel
theorem dL_law_430 : decode cL_law 430 = .ok (.iconst 1, 1) := by decide +kernel
theorem dL_law_431 : decode cL_law 431 = .ok (.iadd, 1) := by decide +kernel
theorem dL_law_432 : decode cL_law 432 = .ok (.iaload, 1) := by decide +kernel
theorem dL_law_433 : decode cL_law 433 = .ok (.ifCond .eq 7, 3) := by decide +kernel
theorem dL_law_436 : decode cL_law 436 = .ok (.iconst 1, 1) := by decide +kernel
theorem dL_law_437 : decode cL_law 437 = .ok (.goto 4, 3) := by decide +kernel
theorem dL_law_440 : decode cL_law 440 = .ok (.iconst 0, 1) := by decide +kernel
theorem dL_law_441 : decode cL_law 441 = .ok (.invokevirtual 64, 3) := by decide +kernel
theorem dL_law_444 : decode cL_law 444 = .ok (.goto 167, 3) := by decide +kernel
theorem dL_law_447 : decode cL_law 447 = .ok (.aload_n 1, 1) := by decide +kernel
theorem dL_law_448 : decode cL_law 448 = .ok (.invokevirtual 65, 3) := by decide +kernel
theorem dL_law_451 : decode cL_law 451 = .ok (.aload_n 2, 1) := by decide +kernel
theorem dL_law_452 : decode cL_law 452 = .ok (.invokevirtual 68, 3) := by decide +kernel
theorem dL_law_455 : decode cL_law 455 = .ok (.if_icmp .eq 156, 3) := by decide +kernel
theorem dL_law_458 : decode cL_law 458 = .ok (.iconst 0, 1) := by decide +kernel
theorem dL_law_459 : decode cL_law 459 = .ok (.ireturn, 1) := by decide +kernel
theorem dL_law_460 : decode cL_law 460 = .ok (.aload_n 1, 1) := by decide +kernel
theorem dL_law_461 : decode cL_law 461 = .ok (.invokevirtual 69, 3) := by decide +kernel
theorem dL_law_464 : decode cL_law 464 = .ok (.aload_n 2, 1) := by decide +kernel
theorem dL_law_465 : decode cL_law 465 = .ok (.invokevirtual 72, 3) := by decide +kernel
theorem dL_law_468 : decode cL_law 468 = .ok (.if_icmp .eq 143, 3) := by decide +kernel
theorem dL_law_471 : decode cL_law 471 = .ok (.iconst 0, 1) := by decide +kernel
theorem dL_law_472 : decode cL_law 472 = .ok (.ireturn, 1) := by decide +kernel
theorem dL_law_473 : decode cL_law 473 = .ok (.aload_n 1, 1) := by decide +kernel
theorem dL_law_474 : decode cL_law 474 = .ok (.aload_n 0, 1) := by decide +kernel
theorem dL_law_475 : decode cL_law 475 = .ok (.iload_n 3, 1) := by decide +kernel
theorem dL_law_476 : decode cL_law 476 = .ok (.iconst 1, 1) := by decide +kernel
theorem dL_law_477 : decode cL_law 477 = .ok (.iadd, 1) := by decide +kernel
theorem dL_law_478 : decode cL_law 478 = .ok (.iaload, 1) := by decide +kernel
theorem dL_law_479 : decode cL_law 479 = .ok (.invokevirtual 73, 3) := by decide +kernel
theorem dL_law_482 : decode cL_law 482 = .ok (.aload_n 2, 1) := by decide +kernel
theorem dL_law_483 : decode cL_law 483 = .ok (.aload_n 0, 1) := by decide +kernel
theorem dL_law_484 : decode cL_law 484 = .ok (.iload_n 3, 1) := by decide +kernel
theorem dL_law_485 : decode cL_law 485 = .ok (.iconst 1, 1) := by decide +kernel
theorem dL_law_486 : decode cL_law 486 = .ok (.iadd, 1) := by decide +kernel
theorem dL_law_487 : decode cL_law 487 = .ok (.iaload, 1) := by decide +kernel
theorem dL_law_488 : decode cL_law 488 = .ok (.invokevirtual 77, 3) := by decide +kernel
theorem dL_law_491 : decode cL_law 491 = .ok (.if_icmp .eq 120, 3) := by decide +kernel
theorem dL_law_494 : decode cL_law 494 = .ok (.iconst 0, 1) := by decide +kernel
theorem dL_law_495 : decode cL_law 495 = .ok (.ireturn, 1) := by decide +kernel
theorem dL_law_496 : decode cL_law 496 = .ok (.aload_n 1, 1) := by decide +kernel
theorem dL_law_497 : decode cL_law 497 = .ok (.aload_n 0, 1) := by decide +kernel
theorem dL_law_498 : decode cL_law 498 = .ok (.iload_n 3, 1) := by decide +kernel
theorem dL_law_499 : decode cL_law 499 = .ok (.iconst 1, 1) := by decide +kernel
theorem dL_law_500 : decode cL_law 500 = .ok (.iadd, 1) := by decide +kernel
theorem dL_law_501 : decode cL_law 501 = .ok (.iaload, 1) := by decide +kernel
theorem dL_law_502 : decode cL_law 502 = .ok (.invokevirtual 78, 3) := by decide +kernel
theorem dL_law_505 : decode cL_law 505 = .ok (.aload_n 2, 1) := by decide +kernel
theorem dL_law_506 : decode cL_law 506 = .ok (.aload_n 0, 1) := by decide +kernel
theorem dL_law_507 : decode cL_law 507 = .ok (.iload_n 3, 1) := by decide +kernel
theorem dL_law_508 : decode cL_law 508 = .ok (.iconst 1, 1) := by decide +kernel
theorem dL_law_509 : decode cL_law 509 = .ok (.iadd, 1) := by decide +kernel
theorem dL_law_510 : decode cL_law 510 = .ok (.iaload, 1) := by decide +kernel
theorem dL_law_511 : decode cL_law 511 = .ok (.invokevirtual 81, 3) := by decide +kernel
theorem dL_law_514 : decode cL_law 514 = .ok (.if_icmp .eq 97, 3) := by decide +kernel
theorem dL_law_517 : decode cL_law 517 = .ok (.iconst 0, 1) := by decide +kernel
theorem dL_law_518 : decode cL_law 518 = .ok (.ireturn, 1) := by decide +kernel
theorem dL_law_519 : decode cL_law 519 = .ok (.aload_n 1, 1) := by decide +kernel
theorem dL_law_520 : decode cL_law 520 = .ok (.aload_n 0, 1) := by decide +kernel
theorem dL_law_521 : decode cL_law 521 = .ok (.iload_n 3, 1) := by decide +kernel
theorem dL_law_522 : decode cL_law 522 = .ok (.iconst 1, 1) := by decide +kernel
theorem dL_law_523 : decode cL_law 523 = .ok (.iadd, 1) := by decide +kernel
theorem dL_law_524 : decode cL_law 524 = .ok (.iaload, 1) := by decide +kernel
theorem dL_law_525 : decode cL_law 525 = .ok (.aload_n 0, 1) := by decide +kernel
theorem dL_law_526 : decode cL_law 526 = .ok (.iload_n 3, 1) := by decide +kernel
theorem dL_law_527 : decode cL_law 527 = .ok (.iconst 2, 1) := by decide +kernel
theorem dL_law_528 : decode cL_law 528 = .ok (.iadd, 1) := by decide +kernel
theorem dL_law_529 : decode cL_law 529 = .ok (.iaload, 1) := by decide +kernel
theorem dL_law_530 : decode cL_law 530 = .ok (.invokevirtual 82, 3) := by decide +kernel
theorem dL_law_533 : decode cL_law 533 = .ok (.aload_n 2, 1) := by decide +kernel
theorem dL_law_534 : decode cL_law 534 = .ok (.aload_n 0, 1) := by decide +kernel
theorem dL_law_535 : decode cL_law 535 = .ok (.iload_n 3, 1) := by decide +kernel
theorem dL_law_536 : decode cL_law 536 = .ok (.iconst 1, 1) := by decide +kernel
theorem dL_law_537 : decode cL_law 537 = .ok (.iadd, 1) := by decide +kernel
theorem dL_law_538 : decode cL_law 538 = .ok (.iaload, 1) := by decide +kernel
theorem dL_law_539 : decode cL_law 539 = .ok (.aload_n 0, 1) := by decide +kernel
theorem dL_law_540 : decode cL_law 540 = .ok (.iload_n 3, 1) := by decide +kernel
theorem dL_law_541 : decode cL_law 541 = .ok (.iconst 2, 1) := by decide +kernel
theorem dL_law_542 : decode cL_law 542 = .ok (.iadd, 1) := by decide +kernel
theorem dL_law_543 : decode cL_law 543 = .ok (.iaload, 1) := by decide +kernel
theorem dL_law_544 : decode cL_law 544 = .ok (.invokevirtual 86, 3) := by decide +kernel
theorem dL_law_547 : decode cL_law 547 = .ok (.if_icmp .eq 64, 3) := by decide +kernel
theorem dL_law_550 : decode cL_law 550 = .ok (.iconst 0, 1) := by decide +kernel
theorem dL_law_551 : decode cL_law 551 = .ok (.ireturn, 1) := by decide +kernel
theorem dL_law_552 : decode cL_law 552 = .ok (.aload_n 1, 1) := by decide +kernel
theorem dL_law_553 : decode cL_law 553 = .ok (.invokevirtual 87, 3) := by decide +kernel
theorem dL_law_556 : decode cL_law 556 = .ok (.aload_n 2, 1) := by decide +kernel
theorem dL_law_557 : decode cL_law 557 = .ok (.invokevirtual 90, 3) := by decide +kernel
theorem dL_law_560 : decode cL_law 560 = .ok (.if_icmp .eq 51, 3) := by decide +kernel
theorem dL_law_563 : decode cL_law 563 = .ok (.iconst 0, 1) := by decide +kernel
theorem dL_law_564 : decode cL_law 564 = .ok (.ireturn, 1) := by decide +kernel
theorem dL_law_565 : decode cL_law 565 = .ok (.aload_n 1, 1) := by decide +kernel
theorem dL_law_566 : decode cL_law 566 = .ok (.aload_n 0, 1) := by decide +kernel
theorem dL_law_567 : decode cL_law 567 = .ok (.iload_n 3, 1) := by decide +kernel
theorem dL_law_568 : decode cL_law 568 = .ok (.iconst 1, 1) := by decide +kernel
theorem dL_law_569 : decode cL_law 569 = .ok (.iadd, 1) := by decide +kernel
theorem dL_law_570 : decode cL_law 570 = .ok (.iaload, 1) := by decide +kernel
theorem dL_law_571 : decode cL_law 571 = .ok (.invokevirtual 91, 3) := by decide +kernel
theorem dL_law_574 : decode cL_law 574 = .ok (.aload_n 2, 1) := by decide +kernel
theorem dL_law_575 : decode cL_law 575 = .ok (.aload_n 0, 1) := by decide +kernel
theorem dL_law_576 : decode cL_law 576 = .ok (.iload_n 3, 1) := by decide +kernel
theorem dL_law_577 : decode cL_law 577 = .ok (.iconst 1, 1) := by decide +kernel
theorem dL_law_578 : decode cL_law 578 = .ok (.iadd, 1) := by decide +kernel
theorem dL_law_579 : decode cL_law 579 = .ok (.iaload, 1) := by decide +kernel
theorem dL_law_580 : decode cL_law 580 = .ok (.invokevirtual 95, 3) := by decide +kernel
theorem dL_law_583 : decode cL_law 583 = .ok (.if_icmp .eq 28, 3) := by decide +kernel
theorem dL_law_586 : decode cL_law 586 = .ok (.iconst 0, 1) := by decide +kernel
theorem dL_law_587 : decode cL_law 587 = .ok (.ireturn, 1) := by decide +kernel
theorem dL_law_588 : decode cL_law 588 = .ok (.aload_n 1, 1) := by decide +kernel
theorem dL_law_589 : decode cL_law 589 = .ok (.aload_n 0, 1) := by decide +kernel
theorem dL_law_590 : decode cL_law 590 = .ok (.iload_n 3, 1) := by decide +kernel
theorem dL_law_591 : decode cL_law 591 = .ok (.iconst 1, 1) := by decide +kernel
theorem dL_law_592 : decode cL_law 592 = .ok (.iadd, 1) := by decide +kernel
theorem dL_law_593 : decode cL_law 593 = .ok (.iaload, 1) := by decide +kernel
theorem dL_law_594 : decode cL_law 594 = .ok (.invokevirtual 96, 3) := by decide +kernel
theorem dL_law_597 : decode cL_law 597 = .ok (.aload_n 2, 1) := by decide +kernel
theorem dL_law_598 : decode cL_law 598 = .ok (.aload_n 0, 1) := by decide +kernel
theorem dL_law_599 : decode cL_law 599 = .ok (.iload_n 3, 1) := by decide +kernel
theorem dL_law_600 : decode cL_law 600 = .ok (.iconst 1, 1) := by decide +kernel
theorem dL_law_601 : decode cL_law 601 = .ok (.iadd, 1) := by decide +kernel
theorem dL_law_602 : decode cL_law 602 = .ok (.iaload, 1) := by decide +kernel
theorem dL_law_603 : decode cL_law 603 = .ok (.invokevirtual 99, 3) := by decide +kernel
theorem dL_law_606 : decode cL_law 606 = .ok (.if_icmp .eq 5, 3) := by decide +kernel
theorem dL_law_609 : decode cL_law 609 = .ok (.iconst 0, 1) := by decide +kernel
theorem dL_law_610 : decode cL_law 610 = .ok (.ireturn, 1) := by decide +kernel
theorem dL_law_611 : decode cL_law 611 = .ok (.iinc 3 4, 3) := by decide +kernel
theorem dL_law_614 : decode cL_law 614 = .ok (.goto (-596), 3) := by decide +kernel
theorem dL_law_617 : decode cL_law 617 = .ok (.iconst 1, 1) := by decide +kernel
theorem dL_law_618 : decode cL_law 618 = .ok (.ireturn, 1) := by decide +kernel
