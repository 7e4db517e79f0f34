theorem dX9_readsO_110 : decode cX9_readsO 110 = .ok (.getfield 171, 3) := by decide +kernel
theorem dX9_readsO_113 : decode cX9_readsO 113 = .ok (.iconst 1, 1) := by decide +kernel
theorem dX9_readsO_114 : decode cX9_readsO 114 = .ok (.iadd, 1) := by decide +kernel
theorem dX9_readsO_115 : decode cX9_readsO 115 = .ok (.putfield 171, 3) := by decide +kernel
theorem dX9_readsO_118 : decode cX9_readsO 118 = .ok (.aload_n 0, 1) := by decide +kernel
theorem dX9_readsO_119 : decode cX9_readsO 119 = .ok (.dup, 1) := by decide +kernel
theorem dX9_readsO_120 : decode cX9_readsO 120 = .ok (.getfield 188, 3) := by decide +kernel
theorem dX9_readsO_123 : decode cX9_readsO 123 = .ok (.iconst 1, 1) := by decide +kernel
theorem dX9_readsO_124 : decode cX9_readsO 124 = .ok (.iadd, 1) := by decide +kernel
theorem dX9_readsO_125 : decode cX9_readsO 125 = .ok (.putfield 188, 3) := by decide +kernel
theorem dX9_readsO_128 : decode cX9_readsO 128 = .ok (.iload_n 1, 1) := by decide +kernel
theorem dX9_readsO_129 : decode cX9_readsO 129 = .ok (.bipush 40, 2) := by decide +kernel
theorem dX9_readsO_131 : decode cX9_readsO 131 = .ok (.if_icmp .ne 31, 3) := by decide +kernel
theorem dX9_readsO_134 : decode cX9_readsO 134 = .ok (.aload_n 0, 1) := by decide +kernel
theorem dX9_readsO_135 : decode cX9_readsO 135 = .ok (.invokevirtual 191, 3) := by decide +kernel
theorem dX9_readsO_138 : decode cX9_readsO 138 = .ok (.aload_n 0, 1) := by decide +kernel
theorem dX9_readsO_139 : decode cX9_readsO 139 = .ok (.getfield 174, 3) := by decide +kernel
theorem dX9_readsO_142 : decode cX9_readsO 142 = .ok (.ifCond .eq 24, 3) := by decide +kernel
theorem dX9_readsO_145 : decode cX9_readsO 145 = .ok (.aload_n 0, 1) := by decide +kernel
theorem dX9_readsO_146 : decode cX9_readsO 146 = .ok (.bipush 41, 2) := by decide +kernel
theorem dX9_readsO_148 : decode cX9_readsO 148 = .ok (.invokevirtual 194, 3) := by decide +kernel
theorem dX9_readsO_151 : decode cX9_readsO 151 = .ok (.ifCond .ne 15, 3) := by decide +kernel
theorem dX9_readsO_154 : decode cX9_readsO 154 = .ok (.aload_n 0, 1) := by decide +kernel
theorem dX9_readsO_155 : decode cX9_readsO 155 = .ok (.iconst 0, 1) := by decide +kernel
theorem dX9_readsO_156 : decode cX9_readsO 156 = .ok (.putfield 174, 3) := by decide +kernel
theorem dX9_readsO_159 : decode cX9_readsO 159 = .ok (.goto 7, 3) := by decide +kernel
theorem dX9_readsO_162 : decode cX9_readsO 162 = .ok (.aload_n 0, 1) := by decide +kernel
theorem dX9_readsO_163 : decode cX9_readsO 163 = .ok (.invokevirtual 198, 3) := by decide +kernel
theorem dX9_readsO_166 : decode cX9_readsO 166 = .ok (.aload_n 0, 1) := by decide +kernel
theorem dX9_readsO_167 : decode cX9_readsO 167 = .ok (.dup, 1) := by decide +kernel
theorem dX9_readsO_168 : decode cX9_readsO 168 = .ok (.getfield 188, 3) := by decide +kernel
theorem dX9_readsO_171 : decode cX9_readsO 171 = .ok (.iconst 1, 1) := by decide +kernel
theorem dX9_readsO_172 : decode cX9_readsO 172 = .ok (.isub, 1) := by decide +kernel
theorem dX9_readsO_173 : decode cX9_readsO 173 = .ok (.putfield 188, 3) := by decide +kernel
theorem dX9_readsO_176 : decode cX9_readsO 176 = .ok (.return_, 1) := by decide +kernel
theorem dX9_readsP_0 : decode cX9_readsP 0 = .ok (.aload_n 0, 1) := by decide +kernel
theorem dX9_readsP_1 : decode cX9_readsP 1 = .ok (.invokevirtual 198, 3) := by decide +kernel
theorem dX9_readsP_4 : decode cX9_readsP 4 = .ok (.aload_n 0, 1) := by decide +kernel
theorem dX9_readsP_5 : decode cX9_readsP 5 = .ok (.bipush 42, 2) := by decide +kernel
theorem dX9_readsP_7 : decode cX9_readsP 7 = .ok (.invokevirtual 194, 3) := by decide +kernel
theorem dX9_readsP_10 : decode cX9_readsP 10 = .ok (.ifCond .ne 21, 3) := by decide +kernel
theorem dX9_readsP_13 : decode cX9_readsP 13 = .ok (.aload_n 0, 1) := by decide +kernel
theorem dX9_readsP_14 : decode cX9_readsP 14 = .ok (.bipush 47, 2) := by decide +kernel
theorem dX9_readsP_16 : decode cX9_readsP 16 = .ok (.invokevirtual 194, 3) := by decide +kernel
theorem dX9_readsP_19 : decode cX9_readsP 19 = .ok (.ifCond .ne 12, 3) := by decide +kernel
theorem dX9_readsP_22 : decode cX9_readsP 22 = .ok (.aload_n 0, 1) := by decide +kernel
theorem dX9_readsP_23 : decode cX9_readsP 23 = .ok (.bipush 37, 2) := by decide +kernel
theorem dX9_readsP_25 : decode cX9_readsP 25 = .ok (.invokevirtual 194, 3) := by decide +kernel
theorem dX9_readsP_28 : decode cX9_readsP 28 = .ok (.ifCond .eq 10, 3) := by decide +kernel
theorem dX9_readsP_31 : decode cX9_readsP 31 = .ok (.aload_n 0, 1) := by decide +kernel
theorem dX9_readsP_32 : decode cX9_readsP 32 = .ok (.invokevirtual 198, 3) := by decide +kernel
theorem dX9_readsP_35 : decode cX9_readsP 35 = .ok (.goto (-31), 3) := by decide +kernel
theorem dX9_readsP_38 : decode cX9_readsP 38 = .ok (.return_, 1) := by decide +kernel
theorem dX9_readsS_0 : decode cX9_readsS 0 = .ok (.aload_n 0, 1) := by decide +kernel
theorem dX9_readsS_1 : decode cX9_readsS 1 = .ok (.invokevirtual 201, 3) := by decide +kernel
theorem dX9_readsS_4 : decode cX9_readsS 4 = .ok (.aload_n 0, 1) := by decide +kernel
theorem dX9_readsS_5 : decode cX9_readsS 5 = .ok (.bipush 43, 2) := by decide +kernel
theorem dX9_readsS_7 : decode cX9_readsS 7 = .ok (.invokevirtual 194, 3) := by decide +kernel
theorem dX9_readsS_10 : decode cX9_readsS 10 = .ok (.ifCond .ne 12, 3) := by decide +kernel
theorem dX9_readsS_13 : decode cX9_readsS 13 = .ok (.aload_n 0, 1) := by decide +kernel
theorem dX9_readsS_14 : decode cX9_readsS 14 = .ok (.bipush 45, 2) := by decide +kernel
theorem dX9_readsS_16 : decode cX9_readsS 16 = .ok (.invokevirtual 194, 3) := by decide +kernel
theorem dX9_readsS_19 : decode cX9_readsS 19 = .ok (.ifCond .eq 10, 3) := by decide +kernel
theorem dX9_readsS_22 : decode cX9_readsS 22 = .ok (.aload_n 0, 1) := by decide +kernel
theorem dX9_readsS_23 : decode cX9_readsS 23 = .ok (.invokevirtual 201, 3) := by decide +kernel
theorem dX9_readsS_26 : decode cX9_readsS 26 = .ok (.goto (-22), 3) := by decide +kernel
theorem dX9_readsS_29 : decode cX9_readsS 29 = .ok (.return_, 1) := by decide +kernel
theorem dX9_readsB_0 : decode cX9_readsB 0 = .ok (.aload_n 0, 1) := by decide +kernel
theorem dX9_readsB_1 : decode cX9_readsB 1 = .ok (.invokevirtual 204, 3) := by decide +kernel
theorem dX9_readsB_4 : decode cX9_readsB 4 = .ok (.aload_n 0, 1) := by decide +kernel
theorem dX9_readsB_5 : decode cX9_readsB 5 = .ok (.bipush 60, 2) := by decide +kernel
theorem dX9_readsB_7 : decode cX9_readsB 7 = .ok (.invokevirtual 194, 3) := by decide +kernel
theorem dX9_readsB_10 : decode cX9_readsB 10 = .ok (.ifCond .ne 21, 3) := by decide +kernel
theorem dX9_readsB_13 : decode cX9_readsB 13 = .ok (.aload_n 0, 1) := by decide +kernel
theorem dX9_readsB_14 : decode cX9_readsB 14 = .ok (.bipush 61, 2) := by decide +kernel
theorem dX9_readsB_16 : decode cX9_readsB 16 = .ok (.invokevirtual 194, 3) := by decide +kernel
theorem dX9_readsB_19 : decode cX9_readsB 19 = .ok (.ifCond .ne 12, 3) := by decide +kernel
theorem dX9_readsB_22 : decode cX9_readsB 22 = .ok (.aload_n 0, 1) := by decide +kernel
theorem dX9_readsB_23 : decode cX9_readsB 23 = .ok (.bipush 62, 2) := by decide +kernel
theorem dX9_readsB_25 : decode cX9_readsB 25 = .ok (.invokevirtual 194, 3) := by decide +kernel
theorem dX9_readsB_28 : decode cX9_readsB 28 = .ok (.ifCond .eq 7, 3) := by decide +kernel
theorem dX9_readsB_31 : decode cX9_readsB 31 = .ok (.aload_n 0, 1) := by decide +kernel
theorem dX9_readsB_32 : decode cX9_readsB 32 = .ok (.invokevirtual 204, 3) := by decide +kernel
theorem dX9_readsB_35 : decode cX9_readsB 35 = .ok (.return_, 1) := by decide +kernel
theorem dX9_readsA_0 : decode cX9_readsA 0 = .ok (.aload_n 0, 1) := by decide +kernel
theorem dX9_readsA_1 : decode cX9_readsA 1 = .ok (.invokevirtual 207, 3) := by decide +kernel
theorem dX9_readsA_4 : decode cX9_readsA 4 = .ok (.aload_n 0, 1) := by decide +kernel
theorem dX9_readsA_5 : decode cX9_readsA 5 = .ok (.bipush 38, 2) := by decide +kernel
theorem dX9_readsA_7 : decode cX9_readsA 7 = .ok (.invokevirtual 194, 3) := by decide +kernel
theorem dX9_readsA_10 : decode cX9_readsA 10 = .ok (.ifCond .eq 10, 3) := by decide +kernel
theorem dX9_readsA_13 : decode cX9_readsA 13 = .ok (.aload_n 0, 1) := by decide +kernel
theorem dX9_readsA_14 : decode cX9_readsA 14 = .ok (.invokevirtual 207, 3) := by decide +kernel
theorem dX9_readsA_17 : decode cX9_readsA 17 = .ok (.goto (-13), 3) := by decide +kernel
theorem dX9_readsA_20 : decode cX9_readsA 20 = .ok (.return_, 1) := by decide +kernel
theorem dX9_readsE_0 : decode cX9_readsE 0 = .ok (.aload_n 0, 1) := by decide +kernel
theorem dX9_readsE_1 : decode cX9_readsE 1 = .ok (.invokevirtual 210, 3) := by decide +kernel
theorem dX9_readsE_4 : decode cX9_readsE 4 = .ok (.aload_n 0, 1) := by decide +kernel
theorem dX9_readsE_5 : decode cX9_readsE 5 = .ok (.bipush 124, 2) := by decide +kernel
theorem dX9_readsE_7 : decode cX9_readsE 7 = .ok (.invokevirtual 194, 3) := by decide +kernel
theorem dX9_readsE_10 : decode cX9_readsE 10 = .ok (.ifCond .eq 10, 3) := by decide +kernel
theorem dX9_readsE_13 : decode cX9_readsE 13 = .ok (.aload_n 0, 1) := by decide +kernel
theorem dX9_readsE_14 : decode cX9_readsE 14 = .ok (.invokevirtual 210, 3) := by decide +kernel
theorem dX9_readsE_17 : decode cX9_readsE 17 = .ok (.goto (-13), 3) := by decide +kernel
theorem dX9_readsE_20 : decode cX9_readsE 20 = .ok (.return_, 1) := by decide +kernel
theorem dX9_readsLine_0 : decode cX9_readsLine 0 = .ok (.aload_n 0, 1) := by decide +kernel
theorem dX9_readsLine_1 : decode cX9_readsLine 1 = .ok (.invokevirtual 191, 3) := by decide +kernel
theorem dX9_readsLine_4 : decode cX9_readsLine 4 = .ok (.aload_n 0, 1) := by decide +kernel
theorem dX9_readsLine_5 : decode cX9_readsLine 5 = .ok (.bipush 63, 2) := by decide +kernel
theorem dX9_readsLine_7 : decode cX9_readsLine 7 = .ok (.invokevirtual 194, 3) := by decide +kernel
theorem dX9_readsLine_10 : decode cX9_readsLine 10 = .ok (.ifCond .eq 7, 3) := by decide +kernel
theorem dX9_readsLine_13 : decode cX9_readsLine 13 = .ok (.aload_n 0, 1) := by decide +kernel
theorem dX9_readsLine_14 : decode cX9_readsLine 14 = .ok (.invokevirtual 191, 3) := by decide +kernel
theorem dX9_readsLine_17 : decode cX9_readsLine 17 = .ok (.return_, 1) := by decide +kernel
theorem dX9_law_0 : decode cX9_law 0 = .ok (.aload_n 0, 1) := by decide +kernel
theorem dX9_law_1 : decode cX9_law 1 = .ok (.iconst 0, 1) := by decide +kernel
theorem dX9_law_2 : decode cX9_law 2 = .ok (.putfield 171, 3) := by decide +kernel
theorem dX9_law_5 : decode cX9_law 5 = .ok (.aload_n 0, 1) := by decide +kernel
theorem dX9_law_6 : decode cX9_law 6 = .ok (.iconst 0, 1) := by decide +kernel
theorem dX9_law_7 : decode cX9_law 7 = .ok (.putfield 188, 3) := by decide +kernel
theorem dX9_law_10 : decode cX9_law 10 = .ok (.aload_n 0, 1) := by decide +kernel
theorem dX9_law_11 : decode cX9_law 11 = .ok (.iconst 1, 1) := by decide +kernel
theorem dX9_law_12 : decode cX9_law 12 = .ok (.putfield 174, 3) := by decide +kernel
theorem dX9_law_15 : decode cX9_law 15 = .ok (.aload_n 0, 1) := by decide +kernel
theorem dX9_law_16 : decode cX9_law 16 = .ok (.invokevirtual 213, 3) := by decide +kernel
theorem dX9_law_19 : decode cX9_law 19 = .ok (.aload_n 0, 1) := by decide +kernel
theorem dX9_law_20 : decode cX9_law 20 = .ok (.bipush 59, 2) := by decide +kernel
theorem dX9_law_22 : decode cX9_law 22 = .ok (.invokevirtual 194, 3) := by decide +kernel
theorem dX9_law_25 : decode cX9_law 25 = .ok (.ifCond .eq 10, 3) := by decide +kernel
theorem dX9_law_28 : decode cX9_law 28 = .ok (.aload_n 0, 1) := by decide +kernel
theorem dX9_law_29 : decode cX9_law 29 = .ok (.invokevirtual 213, 3) := by decide +kernel
theorem dX9_law_32 : decode cX9_law 32 = .ok (.goto (-13), 3) := by decide +kernel
theorem dX9_law_35 : decode cX9_law 35 = .ok (.aload_n 0, 1) := by decide +kernel
theorem dX9_law_36 : decode cX9_law 36 = .ok (.getfield 174, 3) := by decide +kernel
theorem dX9_law_39 : decode cX9_law 39 = .ok (.ifCond .eq 18, 3) := by decide +kernel
theorem dX9_law_42 : decode cX9_law 42 = .ok (.aload_n 0, 1) := by decide +kernel
theorem dX9_law_43 : decode cX9_law 43 = .ok (.getfield 171, 3) := by decide +kernel
theorem dX9_law_46 : decode cX9_law 46 = .ok (.aload_n 0, 1) := by decide +kernel
theorem dX9_law_47 : decode cX9_law 47 = .ok (.getfield 168, 3) := by decide +kernel
theorem dX9_law_50 : decode cX9_law 50 = .ok (.if_icmp .ne 7, 3) := by decide +kernel
theorem dX9_law_53 : decode cX9_law 53 = .ok (.iconst 1, 1) := by decide +kernel
theorem dX9_law_54 : decode cX9_law 54 = .ok (.goto 4, 3) := by decide +kernel
theorem dX9_law_57 : decode cX9_law 57 = .ok (.iconst 0, 1) := by decide +kernel
theorem dX9_law_58 : decode cX9_law 58 = .ok (.istore_n 1, 1) := by decide +kernel
theorem dX9_law_59 : decode cX9_law 59 = .ok (.aload_n 0, 1) := by decide +kernel
theorem dX9_law_60 : decode cX9_law 60 = .ok (.getfield 171, 3) := by decide +kernel
theorem dX9_law_63 : decode cX9_law 63 = .ok (.istore_n 2, 1) := by decide +kernel
theorem dX9_law_64 : decode cX9_law 64 = .ok (.iload_n 1, 1) := by decide +kernel
theorem dX9_law_65 : decode cX9_law 65 = .ok (.ifCond .eq 44, 3) := by decide +kernel
theorem dX9_law_68 : decode cX9_law 68 = .ok (.iconst 0, 1) := by decide +kernel
theorem dX9_law_69 : decode cX9_law 69 = .ok (.istore_n 3, 1) := by decide +kernel
theorem dX9_law_70 : decode cX9_law 70 = .ok (.iload_n 3, 1) := by decide +kernel
theorem dX9_law_71 : decode cX9_law 71 = .ok (.aload_n 0, 1) := by decide +kernel
theorem dX9_law_72 : decode cX9_law 72 = .ok (.getfield 168, 3) := by decide +kernel
theorem dX9_law_75 : decode cX9_law 75 = .ok (.if_icmp .ge 21, 3) := by decide +kernel
theorem dX9_law_78 : decode cX9_law 78 = .ok (.aload_n 0, 1) := by decide +kernel
theorem dX9_law_79 : decode cX9_law 79 = .ok (.getfield 53, 3) := by decide +kernel
theorem dX9_law_82 : decode cX9_law 82 = .ok (.iload_n 3, 1) := by decide +kernel
theorem dX9_law_83 : decode cX9_law 83 = .ok (.aload_n 0, 1) := by decide +kernel
theorem dX9_law_84 : decode cX9_law 84 = .ok (.getfield 50, 3) := by decide +kernel
theorem dX9_law_87 : decode cX9_law 87 = .ok (.iload_n 3, 1) := by decide +kernel
theorem dX9_law_88 : decode cX9_law 88 = .ok (.iaload, 1) := by decide +kernel
theorem dX9_law_89 : decode cX9_law 89 = .ok (.iastore, 1) := by decide +kernel
theorem dX9_law_90 : decode cX9_law 90 = .ok (.iinc 3 1, 3) := by decide +kernel
theorem dX9_law_93 : decode cX9_law 93 = .ok (.goto (-23), 3) := by decide +kernel
theorem dX9_law_96 : decode cX9_law 96 = .ok (.aload_n 0, 1) := by decide +kernel
theorem dX9_law_97 : decode cX9_law 97 = .ok (.aload_n 0, 1) := by decide +kernel
theorem dX9_law_98 : decode cX9_law 98 = .ok (.getfield 168, 3) := by decide +kernel
theorem dX9_law_101 : decode cX9_law 101 = .ok (.putfield 216, 3) := by decide +kernel
theorem dX9_law_104 : decode cX9_law 104 = .ok (.aload_n 0, 1) := by decide +kernel
theorem dX9_law_105 : decode cX9_law 105 = .ok (.iconst 1, 1) := by decide +kernel
theorem dX9_law_106 : decode cX9_law 106 = .ok (.putfield 219, 3) := by decide +kernel
theorem dX9_law_109 : decode cX9_law 109 = .ok (.aload_n 0, 1) := by decide +kernel
theorem dX9_law_110 : decode cX9_law 110 = .ok (.iconst 0, 1) := by decide +kernel
theorem dX9_law_111 : decode cX9_law 111 = .ok (.putfield 168, 3) := by decide +kernel
theorem dX9_law_114 : decode cX9_law 114 = .ok (.iload_n 1, 1) := by decide +kernel
theorem dX9_law_115 : decode cX9_law 115 = .ok (.ifCond .eq 7, 3) := by decide +kernel
theorem dX9_law_118 : decode cX9_law 118 = .ok (.iconst 1, 1) := by decide +kernel
theorem dX9_law_119 : decode cX9_law 119 = .ok (.goto 7, 3) := by decide +kernel
theorem dX9_law_122 : decode cX9_law 122 = .ok (.bipush (-100), 2) := by decide +kernel
theorem dX9_law_124 : decode cX9_law 124 = .ok (.iload_n 2, 1) := by decide +kernel
theorem dX9_law_125 : decode cX9_law 125 = .ok (.isub, 1) := by decide +kernel
theorem dX9_law_126 : decode cX9_law 126 = .ok (.ireturn, 1) := by decide +kernel
theorem dX9_seen_0 : decode cX9_seen 0 = .ok (.aload_n 0, 1) := by decide +kernel
theorem dX9_seen_1 : decode cX9_seen 1 = .ok (.getfield 171, 3) := by decide +kernel
theorem dX9_seen_4 : decode cX9_seen 4 = .ok (.aload_n 0, 1) := by decide +kernel
theorem dX9_seen_5 : decode cX9_seen 5 = .ok (.getfield 216, 3) := by decide +kernel
theorem dX9_seen_8 : decode cX9_seen 8 = .ok (.if_icmp .ge 15, 3) := by decide +kernel
theorem dX9_seen_11 : decode cX9_seen 11 = .ok (.aload_n 0, 1) := by decide +kernel
theorem dX9_seen_12 : decode cX9_seen 12 = .ok (.getfield 53, 3) := by decide +kernel
theorem dX9_seen_15 : decode cX9_seen 15 = .ok (.aload_n 0, 1) := by decide +kernel
theorem dX9_seen_16 : decode cX9_seen 16 = .ok (.getfield 171, 3) := by decide +kernel
theorem dX9_seen_19 : decode cX9_seen 19 = .ok (.iaload, 1) := by decide +kernel
theorem dX9_seen_20 : decode cX9_seen 20 = .ok (.goto 4, 3) := by decide +kernel
theorem dX9_seen_23 : decode cX9_seen 23 = .ok (.iconst (-1), 1) := by decide +kernel
theorem dX9_seen_24 : decode cX9_seen 24 = .ok (.ireturn, 1) := by decide +kernel
theorem dX9_isSeen_0 : decode cX9_isSeen 0 = .ok (.aload_n 0, 1) := by decide +kernel
theorem dX9_isSeen_1 : decode cX9_isSeen 1 = .ok (.invokevirtual 222, 3) := by decide +kernel
theorem dX9_isSeen_4 : decode cX9_isSeen 4 = .ok (.iload_n 1, 1) := by decide +kernel
theorem dX9_isSeen_5 : decode cX9_isSeen 5 = .ok (.if_icmp .eq 5, 3) := by decide +kernel
theorem dX9_isSeen_8 : decode cX9_isSeen 8 = .ok (.iconst 0, 1) := by decide +kernel
theorem dX9_isSeen_9 : decode cX9_isSeen 9 = .ok (.ireturn, 1) := by decide +kernel
theorem dX9_isSeen_10 : decode cX9_isSeen 10 = .ok (.aload_n 0, 1) := by decide +kernel
theorem dX9_isSeen_11 : decode cX9_isSeen 11 = .ok (.dup, 1) := by decide +kernel
theorem dX9_isSeen_12 : decode cX9_isSeen 12 = .ok (.getfield 171, 3) := by decide +kernel
theorem dX9_isSeen_15 : decode cX9_isSeen 15 = .ok (.iconst 1, 1) := by decide +kernel
theorem dX9_isSeen_16 : decode cX9_isSeen 16 = .ok (.iadd, 1) := by decide +kernel
theorem dX9_isSeen_17 : decode cX9_isSeen 17 = .ok (.putfield 171, 3) := by decide +kernel
theorem dX9_isSeen_20 : decode cX9_isSeen 20 = .ok (.iconst 1, 1) := by decide +kernel
theorem dX9_isSeen_21 : decode cX9_isSeen 21 = .ok (.ireturn, 1) := by decide +kernel
theorem dX9_one_0 : decode cX9_one 0 = .ok (.iload_n 1, 1) := by decide +kernel
theorem dX9_one_1 : decode cX9_one 1 = .ok (.ifCond .eq 7, 3) := by decide +kernel
theorem dX9_one_4 : decode cX9_one 4 = .ok (.iconst 1, 1) := by decide +kernel
theorem dX9_one_5 : decode cX9_one 5 = .ok (.goto 4, 3) := by decide +kernel
theorem dX9_one_8 : decode cX9_one 8 = .ok (.iconst 0, 1) := by decide +kernel
theorem dX9_one_9 : decode cX9_one 9 = .ok (.ireturn, 1) := by decide +kernel
theorem dX9_takesO_0 : decode cX9_takesO 0 = .ok (.aload_n 0, 1) := by decide +kernel
theorem dX9_takesO_1 : decode cX9_takesO 1 = .ok (.getfield 53, 3) := by decide +kernel
theorem dX9_takesO_4 : decode cX9_takesO 4 = .ok (.aload_n 0, 1) := by decide +kernel
theorem dX9_takesO_5 : decode cX9_takesO 5 = .ok (.getfield 171, 3) := by decide +kernel
theorem dX9_takesO_8 : decode cX9_takesO 8 = .ok (.iaload, 1) := by decide +kernel
theorem dX9_takesO_9 : decode cX9_takesO 9 = .ok (.istore_n 1, 1) := by decide +kernel
theorem dX9_takesO_10 : decode cX9_takesO 10 = .ok (.aload_n 0, 1) := by decide +kernel
theorem dX9_takesO_11 : decode cX9_takesO 11 = .ok (.iload_n 1, 1) := by decide +kernel
theorem dX9_takesO_12 : decode cX9_takesO 12 = .ok (.invokevirtual 182, 3) := by decide +kernel
theorem dX9_takesO_15 : decode cX9_takesO 15 = .ok (.ifCond .eq 49, 3) := by decide +kernel
theorem dX9_takesO_18 : decode cX9_takesO 18 = .ok (.iconst 0, 1) := by decide +kernel
theorem dX9_takesO_19 : decode cX9_takesO 19 = .ok (.istore_n 2, 1) := by decide +kernel
theorem dX9_takesO_20 : decode cX9_takesO 20 = .ok (.aload_n 0, 1) := by decide +kernel
theorem dX9_takesO_21 : decode cX9_takesO 21 = .ok (.aload_n 0, 1) := by decide +kernel
theorem dX9_takesO_22 : decode cX9_takesO 22 = .ok (.invokevirtual 222, 3) := by decide +kernel
theorem dX9_takesO_25 : decode cX9_takesO 25 = .ok (.invokevirtual 182, 3) := by decide +kernel
theorem dX9_takesO_28 : decode cX9_takesO 28 = .ok (.ifCond .eq 34, 3) := by decide +kernel
theorem dX9_takesO_31 : decode cX9_takesO 31 = .ok (.bipush 10, 2) := by decide +kernel
theorem dX9_takesO_33 : decode cX9_takesO 33 = .ok (.iload_n 2, 1) := by decide +kernel
theorem dX9_takesO_34 : decode cX9_takesO 34 = .ok (.imul, 1) := by decide +kernel
theorem dX9_takesO_35 : decode cX9_takesO 35 = .ok (.aload_n 0, 1) := by decide +kernel
theorem dX9_takesO_36 : decode cX9_takesO 36 = .ok (.getfield 53, 3) := by decide +kernel
theorem dX9_takesO_39 : decode cX9_takesO 39 = .ok (.aload_n 0, 1) := by decide +kernel
theorem dX9_takesO_40 : decode cX9_takesO 40 = .ok (.getfield 171, 3) := by decide +kernel
theorem dX9_takesO_43 : decode cX9_takesO 43 = .ok (.iaload, 1) := by decide +kernel
theorem dX9_takesO_44 : decode cX9_takesO 44 = .ok (.iadd, 1) := by decide +kernel
theorem dX9_takesO_45 : decode cX9_takesO 45 = .ok (.bipush 48, 2) := by decide +kernel
theorem dX9_takesO_47 : decode cX9_takesO 47 = .ok (.isub, 1) := by decide +kernel
theorem dX9_takesO_48 : decode cX9_takesO 48 = .ok (.istore_n 2, 1) := by decide +kernel
theorem dX9_takesO_49 : decode cX9_takesO 49 = .ok (.aload_n 0, 1) := by decide +kernel
theorem dX9_takesO_50 : decode cX9_takesO 50 = .ok (.dup, 1) := by decide +kernel
theorem dX9_takesO_51 : decode cX9_takesO 51 = .ok (.getfield 171, 3) := by decide +kernel
theorem dX9_takesO_54 : decode cX9_takesO 54 = .ok (.iconst 1, 1) := by decide +kernel
theorem dX9_takesO_55 : decode cX9_takesO 55 = .ok (.iadd, 1) := by decide +kernel
theorem dX9_takesO_56 : decode cX9_takesO 56 = .ok (.putfield 171, 3) := by decide +kernel
theorem dX9_takesO_59 : decode cX9_takesO 59 = .ok (.goto (-39), 3) := by decide +kernel
theorem dX9_takesO_62 : decode cX9_takesO 62 = .ok (.iload_n 2, 1) := by decide +kernel
theorem dX9_takesO_63 : decode cX9_takesO 63 = .ok (.ireturn, 1) := by decide +kernel
theorem dX9_takesO_64 : decode cX9_takesO 64 = .ok (.aload_n 0, 1) := by decide +kernel
theorem dX9_takesO_65 : decode cX9_takesO 65 = .ok (.dup, 1) := by decide +kernel
theorem dX9_takesO_66 : decode cX9_takesO 66 = .ok (.getfield 171, 3) := by decide +kernel
theorem dX9_takesO_69 : decode cX9_takesO 69 = .ok (.iconst 1, 1) := by decide +kernel
theorem dX9_takesO_70 : decode cX9_takesO 70 = .ok (.iadd, 1) := by decide +kernel
theorem dX9_takesO_71 : decode cX9_takesO 71 = .ok (.putfield 171, 3) := by decide +kernel
theorem dX9_takesO_74 : decode cX9_takesO 74 = .ok (.iload_n 1, 1) := by decide +kernel
theorem dX9_takesO_75 : decode cX9_takesO 75 = .ok (.bipush 33, 2) := by decide +kernel
theorem dX9_takesO_77 : decode cX9_takesO 77 = .ok (.if_icmp .ne 20, 3) := by decide +kernel
theorem dX9_takesO_80 : decode cX9_takesO 80 = .ok (.aload_n 0, 1) := by decide +kernel
theorem dX9_takesO_81 : decode cX9_takesO 81 = .ok (.aload_n 0, 1) := by decide +kernel
theorem dX9_takesO_82 : decode cX9_takesO 82 = .ok (.invokevirtual 225, 3) := by decide +kernel
theorem dX9_takesO_85 : decode cX9_takesO 85 = .ok (.ifCond .ne 7, 3) := by decide +kernel
theorem dX9_takesO_88 : decode cX9_takesO 88 = .ok (.iconst 1, 1) := by decide +kernel
theorem dX9_takesO_89 : decode cX9_takesO 89 = .ok (.goto 4, 3) := by decide +kernel
theorem dX9_takesO_92 : decode cX9_takesO 92 = .ok (.iconst 0, 1) := by decide +kernel
theorem dX9_takesO_93 : decode cX9_takesO 93 = .ok (.invokevirtual 228, 3) := by decide +kernel
theorem dX9_takesO_96 : decode cX9_takesO 96 = .ok (.ireturn, 1) := by decide +kernel
theorem dX9_takesO_97 : decode cX9_takesO 97 = .ok (.iload_n 1, 1) := by decide +kernel
theorem dX9_takesO_98 : decode cX9_takesO 98 = .ok (.bipush 45, 2) := by decide +kernel
theorem dX9_takesO_100 : decode cX9_takesO 100 = .ok (.if_icmp .ne 9, 3) := by decide +kernel
theorem dX9_takesO_103 : decode cX9_takesO 103 = .ok (.aload_n 0, 1) := by decide +kernel
theorem dX9_takesO_104 : decode cX9_takesO 104 = .ok (.invokevirtual 225, 3) := by decide +kernel
theorem dX9_takesO_107 : decode cX9_takesO 107 = .ok (.ineg, 1) := by decide +kernel
theorem dX9_takesO_108 : decode cX9_takesO 108 = .ok (.ireturn, 1) := by decide +kernel
theorem dX9_takesO_109 : decode cX9_takesO 109 = .ok (.iload_n 1, 1) := by decide +kernel
theorem dX9_takesO_110 : decode cX9_takesO 110 = .ok (.bipush 40, 2) := by decide +kernel
theorem dX9_takesO_112 : decode cX9_takesO 112 = .ok (.if_icmp .eq 10, 3) := by decide +kernel
theorem dX9_takesO_115 : decode cX9_takesO 115 = .ok (.aload_n 0, 1) := by decide +kernel
theorem dX9_takesO_116 : decode cX9_takesO 116 = .ok (.getfield 68, 3) := by decide +kernel
theorem dX9_takesO_119 : decode cX9_takesO 119 = .ok (.iload_n 1, 1) := by decide +kernel
theorem dX9_takesO_120 : decode cX9_takesO 120 = .ok (.iaload, 1) := by decide +kernel
theorem dX9_takesO_121 : decode cX9_takesO 121 = .ok (.ireturn, 1) := by decide +kernel
theorem dX9_takesO_122 : decode cX9_takesO 122 = .ok (.aload_n 0, 1) := by decide +kernel
theorem dX9_takesO_123 : decode cX9_takesO 123 = .ok (.invokevirtual 232, 3) := by decide +kernel
theorem dX9_takesO_126 : decode cX9_takesO 126 = .ok (.istore_n 2, 1) := by decide +kernel
theorem dX9_takesO_127 : decode cX9_takesO 127 = .ok (.aload_n 0, 1) := by decide +kernel
theorem dX9_takesO_128 : decode cX9_takesO 128 = .ok (.dup, 1) := by decide +kernel
theorem dX9_takesO_129 : decode cX9_takesO 129 = .ok (.getfield 171, 3) := by decide +kernel
theorem dX9_takesO_132 : decode cX9_takesO 132 = .ok (.iconst 1, 1) := by decide +kernel
theorem dX9_takesO_133 : decode cX9_takesO 133 = .ok (.iadd, 1) := by decide +kernel
theorem dX9_takesO_134 : decode cX9_takesO 134 = .ok (.putfield 171, 3) := by decide +kernel
theorem dX9_takesO_137 : decode cX9_takesO 137 = .ok (.iload_n 2, 1) := by decide +kernel
theorem dX9_takesO_138 : decode cX9_takesO 138 = .ok (.ireturn, 1) := by decide +kernel
theorem dX9_takesP_0 : decode cX9_takesP 0 = .ok (.aload_n 0, 1) := by decide +kernel
theorem dX9_takesP_1 : decode cX9_takesP 1 = .ok (.invokevirtual 225, 3) := by decide +kernel
theorem dX9_takesP_4 : decode cX9_takesP 4 = .ok (.istore_n 1, 1) := by decide +kernel
theorem dX9_takesP_5 : decode cX9_takesP 5 = .ok (.aload_n 0, 1) := by decide +kernel
theorem dX9_takesP_6 : decode cX9_takesP 6 = .ok (.bipush 42, 2) := by decide +kernel
theorem dX9_takesP_8 : decode cX9_takesP 8 = .ok (.invokevirtual 235, 3) := by decide +kernel
theorem dX9_takesP_11 : decode cX9_takesP 11 = .ok (.ifCond .eq 13, 3) := by decide +kernel
theorem dX9_takesP_14 : decode cX9_takesP 14 = .ok (.iload_n 1, 1) := by decide +kernel
theorem dX9_takesP_15 : decode cX9_takesP 15 = .ok (.aload_n 0, 1) := by decide +kernel
theorem dX9_takesP_16 : decode cX9_takesP 16 = .ok (.invokevirtual 225, 3) := by decide +kernel
theorem dX9_takesP_19 : decode cX9_takesP 19 = .ok (.imul, 1) := by decide +kernel
theorem dX9_takesP_20 : decode cX9_takesP 20 = .ok (.istore_n 1, 1) := by decide +kernel
theorem dX9_takesP_21 : decode cX9_takesP 21 = .ok (.goto (-16), 3) := by decide +kernel
theorem dX9_takesP_24 : decode cX9_takesP 24 = .ok (.aload_n 0, 1) := by decide +kernel
theorem dX9_takesP_25 : decode cX9_takesP 25 = .ok (.bipush 47, 2) := by decide +kernel
theorem dX9_takesP_27 : decode cX9_takesP 27 = .ok (.invokevirtual 235, 3) := by decide +kernel
theorem dX9_takesP_30 : decode cX9_takesP 30 = .ok (.ifCond .eq 23, 3) := by decide +kernel
theorem dX9_takesP_33 : decode cX9_takesP 33 = .ok (.aload_n 0, 1) := by decide +kernel
theorem dX9_takesP_34 : decode cX9_takesP 34 = .ok (.invokevirtual 225, 3) := by decide +kernel
theorem dX9_takesP_37 : decode cX9_takesP 37 = .ok (.istore_n 2, 1) := by decide +kernel
theorem dX9_takesP_38 : decode cX9_takesP 38 = .ok (.iload_n 2, 1) := by decide +kernel
theorem dX9_takesP_39 : decode cX9_takesP 39 = .ok (.ifCond .ne 7, 3) := by decide +kernel
theorem dX9_takesP_42 : decode cX9_takesP 42 = .ok (.iconst 0, 1) := by decide +kernel
theorem dX9_takesP_43 : decode cX9_takesP 43 = .ok (.goto 6, 3) := by decide +kernel
theorem dX9_takesP_46 : decode cX9_takesP 46 = .ok (.iload_n 1, 1) := by decide +kernel
theorem dX9_takesP_47 : decode cX9_takesP 47 = .ok (.iload_n 2, 1) := by decide +kernel
theorem dX9_takesP_48 : decode cX9_takesP 48 = .ok (.idiv, 1) := by decide +kernel
theorem dX9_takesP_49 : decode cX9_takesP 49 = .ok (.istore_n 1, 1) := by decide +kernel
theorem dX9_takesP_50 : decode cX9_takesP 50 = .ok (.goto (-45), 3) := by decide +kernel
theorem dX9_takesP_53 : decode cX9_takesP 53 = .ok (.aload_n 0, 1) := by decide +kernel
theorem dX9_takesP_54 : decode cX9_takesP 54 = .ok (.bipush 37, 2) := by decide +kernel
theorem dX9_takesP_56 : decode cX9_takesP 56 = .ok (.invokevirtual 235, 3) := by decide +kernel
theorem dX9_takesP_59 : decode cX9_takesP 59 = .ok (.ifCond .eq 23, 3) := by decide +kernel
theorem dX9_takesP_62 : decode cX9_takesP 62 = .ok (.aload_n 0, 1) := by decide +kernel
theorem dX9_takesP_63 : decode cX9_takesP 63 = .ok (.invokevirtual 225, 3) := by decide +kernel
theorem dX9_takesP_66 : decode cX9_takesP 66 = .ok (.istore_n 2, 1) := by decide +kernel
theorem dX9_takesP_67 : decode cX9_takesP 67 = .ok (.iload_n 2, 1) := by decide +kernel
theorem dX9_takesP_68 : decode cX9_takesP 68 = .ok (.ifCond .ne 7, 3) := by decide +kernel
theorem dX9_takesP_71 : decode cX9_takesP 71 = .ok (.iconst 0, 1) := by decide +kernel
theorem dX9_takesP_72 : decode cX9_takesP 72 = .ok (.goto 6, 3) := by decide +kernel
theorem dX9_takesP_75 : decode cX9_takesP 75 = .ok (.iload_n 1, 1) := by decide +kernel
theorem dX9_takesP_76 : decode cX9_takesP 76 = .ok (.iload_n 2, 1) := by decide +kernel
theorem dX9_takesP_77 : decode cX9_takesP 77 = .ok (.irem, 1) := by decide +kernel
theorem dX9_takesP_78 : decode cX9_takesP 78 = .ok (.istore_n 1, 1) := by decide +kernel
theorem dX9_takesP_79 : decode cX9_takesP 79 = .ok (.goto (-74), 3) := by decide +kernel
theorem dX9_takesP_82 : decode cX9_takesP 82 = .ok (.iload_n 1, 1) := by decide +kernel
theorem dX9_takesP_83 : decode cX9_takesP 83 = .ok (.ireturn, 1) := by decide +kernel
theorem dX9_takesS_0 : decode cX9_takesS 0 = .ok (.aload_n 0, 1) := by decide +kernel
theorem dX9_takesS_1 : decode cX9_takesS 1 = .ok (.invokevirtual 238, 3) := by decide +kernel
theorem dX9_takesS_4 : decode cX9_takesS 4 = .ok (.istore_n 1, 1) := by decide +kernel
theorem dX9_takesS_5 : decode cX9_takesS 5 = .ok (.aload_n 0, 1) := by decide +kernel
theorem dX9_takesS_6 : decode cX9_takesS 6 = .ok (.bipush 43, 2) := by decide +kernel
theorem dX9_takesS_8 : decode cX9_takesS 8 = .ok (.invokevirtual 235, 3) := by decide +kernel
theorem dX9_takesS_11 : decode cX9_takesS 11 = .ok (.ifCond .eq 13, 3) := by decide +kernel
theorem dX9_takesS_14 : decode cX9_takesS 14 = .ok (.iload_n 1, 1) := by decide +kernel
theorem dX9_takesS_15 : decode cX9_takesS 15 = .ok (.aload_n 0, 1) := by decide +kernel
theorem dX9_takesS_16 : decode cX9_takesS 16 = .ok (.invokevirtual 238, 3) := by decide +kernel
theorem dX9_takesS_19 : decode cX9_takesS 19 = .ok (.iadd, 1) := by decide +kernel
theorem dX9_takesS_20 : decode cX9_takesS 20 = .ok (.istore_n 1, 1) := by decide +kernel
theorem dX9_takesS_21 : decode cX9_takesS 21 = .ok (.goto (-16), 3) := by decide +kernel
theorem dX9_takesS_24 : decode cX9_takesS 24 = .ok (.aload_n 0, 1) := by decide +kernel
theorem dX9_takesS_25 : decode cX9_takesS 25 = .ok (.bipush 45, 2) := by decide +kernel
theorem dX9_takesS_27 : decode cX9_takesS 27 = .ok (.invokevirtual 235, 3) := by decide +kernel
theorem dX9_takesS_30 : decode cX9_takesS 30 = .ok (.ifCond .eq 13, 3) := by decide +kernel
theorem dX9_takesS_33 : decode cX9_takesS 33 = .ok (.iload_n 1, 1) := by decide +kernel
theorem dX9_takesS_34 : decode cX9_takesS 34 = .ok (.aload_n 0, 1) := by decide +kernel
theorem dX9_takesS_35 : decode cX9_takesS 35 = .ok (.invokevirtual 238, 3) := by decide +kernel
theorem dX9_takesS_38 : decode cX9_takesS 38 = .ok (.isub, 1) := by decide +kernel
theorem dX9_takesS_39 : decode cX9_takesS 39 = .ok (.istore_n 1, 1) := by decide +kernel
theorem dX9_takesS_40 : decode cX9_takesS 40 = .ok (.goto (-35), 3) := by decide +kernel
theorem dX9_takesS_43 : decode cX9_takesS 43 = .ok (.iload_n 1, 1) := by decide +kernel
theorem dX9_takesS_44 : decode cX9_takesS 44 = .ok (.ireturn, 1) := by decide +kernel
theorem dX9_takesB_0 : decode cX9_takesB 0 = .ok (.aload_n 0, 1) := by decide +kernel
theorem dX9_takesB_1 : decode cX9_takesB 1 = .ok (.invokevirtual 241, 3) := by decide +kernel
theorem dX9_takesB_4 : decode cX9_takesB 4 = .ok (.istore_n 1, 1) := by decide +kernel
theorem dX9_takesB_5 : decode cX9_takesB 5 = .ok (.aload_n 0, 1) := by decide +kernel
theorem dX9_takesB_6 : decode cX9_takesB 6 = .ok (.bipush 60, 2) := by decide +kernel
theorem dX9_takesB_8 : decode cX9_takesB 8 = .ok (.invokevirtual 235, 3) := by decide +kernel
theorem dX9_takesB_11 : decode cX9_takesB 11 = .ok (.ifCond .eq 21, 3) := by decide +kernel
theorem dX9_takesB_14 : decode cX9_takesB 14 = .ok (.aload_n 0, 1) := by decide +kernel
theorem dX9_takesB_15 : decode cX9_takesB 15 = .ok (.iload_n 1, 1) := by decide +kernel
theorem dX9_takesB_16 : decode cX9_takesB 16 = .ok (.aload_n 0, 1) := by decide +kernel
theorem dX9_takesB_17 : decode cX9_takesB 17 = .ok (.invokevirtual 241, 3) := by decide +kernel
theorem dX9_takesB_20 : decode cX9_takesB 20 = .ok (.if_icmp .ge 7, 3) := by decide +kernel
theorem dX9_takesB_23 : decode cX9_takesB 23 = .ok (.iconst 1, 1) := by decide +kernel
theorem dX9_takesB_24 : decode cX9_takesB 24 = .ok (.goto 4, 3) := by decide +kernel
theorem dX9_takesB_27 : decode cX9_takesB 27 = .ok (.iconst 0, 1) := by decide +kernel
theorem dX9_takesB_28 : decode cX9_takesB 28 = .ok (.invokevirtual 228, 3) := by decide +kernel
theorem dX9_takesB_31 : decode cX9_takesB 31 = .ok (.ireturn, 1) := by decide +kernel
theorem dX9_takesB_32 : decode cX9_takesB 32 = .ok (.aload_n 0, 1) := by decide +kernel
theorem dX9_takesB_33 : decode cX9_takesB 33 = .ok (.bipush 61, 2) := by decide +kernel
theorem dX9_takesB_35 : decode cX9_takesB 35 = .ok (.invokevirtual 235, 3) := by decide +kernel
theorem dX9_takesB_38 : decode cX9_takesB 38 = .ok (.ifCond .eq 21, 3) := by decide +kernel
theorem dX9_takesB_41 : decode cX9_takesB 41 = .ok (.aload_n 0, 1) := by decide +kernel
theorem dX9_takesB_42 : decode cX9_takesB 42 = .ok (.iload_n 1, 1) := by decide +kernel
theorem dX9_takesB_43 : decode cX9_takesB 43 = .ok (.aload_n 0, 1) := by decide +kernel
theorem dX9_takesB_44 : decode cX9_takesB 44 = .ok (.invokevirtual 241, 3) := by decide +kernel
theorem dX9_takesB_47 : decode cX9_takesB 47 = .ok (.if_icmp .ne 7, 3) := by decide +kernel
theorem dX9_takesB_50 : decode cX9_takesB 50 = .ok (.iconst 1, 1) := by decide +kernel
theorem dX9_takesB_51 : decode cX9_takesB 51 = .ok (.goto 4, 3) := by decide +kernel
theorem dX9_takesB_54 : decode cX9_takesB 54 = .ok (.iconst 0, 1) := by decide +kernel
theorem dX9_takesB_55 : decode cX9_takesB 55 = .ok (.invokevirtual 228, 3) := by decide +kernel
theorem dX9_takesB_58 : decode cX9_takesB 58 = .ok (.ireturn, 1) := by decide +kernel
theorem dX9_takesB_59 : decode cX9_takesB 59 = .ok (.aload_n 0, 1) := by decide +kernel
theorem dX9_takesB_60 : decode cX9_takesB 60 = .ok (.bipush 62, 2) := by decide +kernel
theorem dX9_takesB_62 : decode cX9_takesB 62 = .ok (.invokevirtual 235, 3) := by decide +kernel
theorem dX9_takesB_65 : decode cX9_takesB 65 = .ok (.ifCond .eq 21, 3) := by decide +kernel
theorem dX9_takesB_68 : decode cX9_takesB 68 = .ok (.aload_n 0, 1) := by decide +kernel
theorem dX9_takesB_69 : decode cX9_takesB 69 = .ok (.iload_n 1, 1) := by decide +kernel
theorem dX9_takesB_70 : decode cX9_takesB 70 = .ok (.aload_n 0, 1) := by decide +kernel
theorem dX9_takesB_71 : decode cX9_takesB 71 = .ok (.invokevirtual 241, 3) := by decide +kernel
theorem dX9_takesB_74 : decode cX9_takesB 74 = .ok (.if_icmp .le 7, 3) := by decide +kernel
theorem dX9_takesB_77 : decode cX9_takesB 77 = .ok (.iconst 1, 1) := by decide +kernel
theorem dX9_takesB_78 : decode cX9_takesB 78 = .ok (.goto 4, 3) := by decide +kernel
theorem dX9_takesB_81 : decode cX9_takesB 81 = .ok (.iconst 0, 1) := by decide +kernel
theorem dX9_takesB_82 : decode cX9_takesB 82 = .ok (.invokevirtual 228, 3) := by decide +kernel
theorem dX9_takesB_85 : decode cX9_takesB 85 = .ok (.ireturn, 1) := by decide +kernel
theorem dX9_takesB_86 : decode cX9_takesB 86 = .ok (.iload_n 1, 1) := by decide +kernel
theorem dX9_takesB_87 : decode cX9_takesB 87 = .ok (.ireturn, 1) := by decide +kernel
theorem dX9_takesA_0 : decode cX9_takesA 0 = .ok (.aload_n 0, 1) := by decide +kernel
theorem dX9_takesA_1 : decode cX9_takesA 1 = .ok (.invokevirtual 244, 3) := by decide +kernel
theorem dX9_takesA_4 : decode cX9_takesA 4 = .ok (.istore_n 1, 1) := by decide +kernel
theorem dX9_takesA_5 : decode cX9_takesA 5 = .ok (.aload_n 0, 1) := by decide +kernel
theorem dX9_takesA_6 : decode cX9_takesA 6 = .ok (.bipush 38, 2) := by decide +kernel
theorem dX9_takesA_8 : decode cX9_takesA 8 = .ok (.invokevirtual 235, 3) := by decide +kernel
theorem dX9_takesA_11 : decode cX9_takesA 11 = .ok (.ifCond .eq 29, 3) := by decide +kernel
theorem dX9_takesA_14 : decode cX9_takesA 14 = .ok (.aload_n 0, 1) := by decide +kernel
theorem dX9_takesA_15 : decode cX9_takesA 15 = .ok (.invokevirtual 244, 3) := by decide +kernel
theorem dX9_takesA_18 : decode cX9_takesA 18 = .ok (.istore_n 2, 1) := by decide +kernel
theorem dX9_takesA_19 : decode cX9_takesA 19 = .ok (.aload_n 0, 1) := by decide +kernel
theorem dX9_takesA_20 : decode cX9_takesA 20 = .ok (.iload_n 1, 1) := by decide +kernel
theorem dX9_takesA_21 : decode cX9_takesA 21 = .ok (.ifCond .eq 11, 3) := by decide +kernel
theorem dX9_takesA_24 : decode cX9_takesA 24 = .ok (.iload_n 2, 1) := by decide +kernel
theorem dX9_takesA_25 : decode cX9_takesA 25 = .ok (.ifCond .eq 7, 3) := by decide +kernel
theorem dX9_takesA_28 : decode cX9_takesA 28 = .ok (.iconst 1, 1) := by decide +kernel
theorem dX9_takesA_29 : decode cX9_takesA 29 = .ok (.goto 4, 3) := by decide +kernel
theorem dX9_takesA_32 : decode cX9_takesA 32 = .ok (.iconst 0, 1) := by decide +kernel
theorem dX9_takesA_33 : decode cX9_takesA 33 = .ok (.invokevirtual 228, 3) := by decide +kernel
theorem dX9_takesA_36 : decode cX9_takesA 36 = .ok (.istore_n 1, 1) := by decide +kernel
theorem dX9_takesA_37 : decode cX9_takesA 37 = .ok (.goto (-32), 3) := by decide +kernel
theorem dX9_takesA_40 : decode cX9_takesA 40 = .ok (.iload_n 1, 1) := by decide +kernel
theorem dX9_takesA_41 : decode cX9_takesA 41 = .ok (.ireturn, 1) := by decide +kernel
theorem dX9_takesE_0 : decode cX9_takesE 0 = .ok (.aload_n 0, 1) := by decide +kernel
theorem dX9_takesE_1 : decode cX9_takesE 1 = .ok (.invokevirtual 247, 3) := by decide +kernel
theorem dX9_takesE_4 : decode cX9_takesE 4 = .ok (.istore_n 1, 1) := by decide +kernel
theorem dX9_takesE_5 : decode cX9_takesE 5 = .ok (.aload_n 0, 1) := by decide +kernel
theorem dX9_takesE_6 : decode cX9_takesE 6 = .ok (.bipush 124, 2) := by decide +kernel
theorem dX9_takesE_8 : decode cX9_takesE 8 = .ok (.invokevirtual 235, 3) := by decide +kernel
theorem dX9_takesE_11 : decode cX9_takesE 11 = .ok (.ifCond .eq 29, 3) := by decide +kernel
theorem dX9_takesE_14 : decode cX9_takesE 14 = .ok (.aload_n 0, 1) := by decide +kernel
theorem dX9_takesE_15 : decode cX9_takesE 15 = .ok (.invokevirtual 247, 3) := by decide +kernel
theorem dX9_takesE_18 : decode cX9_takesE 18 = .ok (.istore_n 2, 1) := by decide +kernel
theorem dX9_takesE_19 : decode cX9_takesE 19 = .ok (.aload_n 0, 1) := by decide +kernel
theorem dX9_takesE_20 : decode cX9_takesE 20 = .ok (.iload_n 1, 1) := by decide +kernel
theorem dX9_takesE_21 : decode cX9_takesE 21 = .ok (.ifCond .ne 7, 3) := by decide +kernel
theorem dX9_takesE_24 : decode cX9_takesE 24 = .ok (.iload_n 2, 1) := by decide +kernel
theorem dX9_takesE_25 : decode cX9_takesE 25 = .ok (.ifCond .eq 7, 3) := by decide +kernel
theorem dX9_takesE_28 : decode cX9_takesE 28 = .ok (.iconst 1, 1) := by decide +kernel
theorem dX9_takesE_29 : decode cX9_takesE 29 = .ok (.goto 4, 3) := by decide +kernel
theorem dX9_takesE_32 : decode cX9_takesE 32 = .ok (.iconst 0, 1) := by decide +kernel
theorem dX9_takesE_33 : decode cX9_takesE 33 = .ok (.invokevirtual 228, 3) := by decide +kernel
theorem dX9_takesE_36 : decode cX9_takesE 36 = .ok (.istore_n 1, 1) := by decide +kernel
theorem dX9_takesE_37 : decode cX9_takesE 37 = .ok (.goto (-32), 3) := by decide +kernel
theorem dX9_takesE_40 : decode cX9_takesE 40 = .ok (.iload_n 1, 1) := by decide +kernel
theorem dX9_takesE_41 : decode cX9_takesE 41 = .ok (.ireturn, 1) := by decide +kernel
theorem dX9_given_0 : decode cX9_given 0 = .ok (.aload_n 0, 1) := by decide +kernel
theorem dX9_given_1 : decode cX9_given 1 = .ok (.iconst 0, 1) := by decide +kernel
theorem dX9_given_2 : decode cX9_given 2 = .ok (.putfield 171, 3) := by decide +kernel
theorem dX9_given_5 : decode cX9_given 5 = .ok (.aload_n 0, 1) := by decide +kernel
theorem dX9_given_6 : decode cX9_given 6 = .ok (.getfield 171, 3) := by decide +kernel
theorem dX9_given_9 : decode cX9_given 9 = .ok (.aload_n 0, 1) := by decide +kernel
theorem dX9_given_10 : decode cX9_given 10 = .ok (.getfield 216, 3) := by decide +kernel
theorem dX9_given_13 : decode cX9_given 13 = .ok (.if_icmp .ge 43, 3) := by decide +kernel
theorem dX9_given_16 : decode cX9_given 16 = .ok (.aload_n 0, 1) := by decide +kernel
theorem dX9_given_17 : decode cX9_given 17 = .ok (.invokevirtual 232, 3) := by decide +kernel
theorem dX9_given_20 : decode cX9_given 20 = .ok (.istore_n 1, 1) := by decide +kernel
theorem dX9_given_21 : decode cX9_given 21 = .ok (.aload_n 0, 1) := by decide +kernel
theorem dX9_given_22 : decode cX9_given 22 = .ok (.bipush 63, 2) := by decide +kernel
theorem dX9_given_24 : decode cX9_given 24 = .ok (.invokevirtual 235, 3) := by decide +kernel
theorem dX9_given_27 : decode cX9_given 27 = .ok (.ifCond .ne 5, 3) := by decide +kernel
theorem dX9_given_30 : decode cX9_given 30 = .ok (.iload_n 1, 1) := by decide +kernel
theorem dX9_given_31 : decode cX9_given 31 = .ok (.ireturn, 1) := by decide +kernel
theorem dX9_given_32 : decode cX9_given 32 = .ok (.aload_n 0, 1) := by decide +kernel
theorem dX9_given_33 : decode cX9_given 33 = .ok (.invokevirtual 232, 3) := by decide +kernel
theorem dX9_given_36 : decode cX9_given 36 = .ok (.istore_n 2, 1) := by decide +kernel
theorem dX9_given_37 : decode cX9_given 37 = .ok (.iload_n 1, 1) := by decide +kernel
theorem dX9_given_38 : decode cX9_given 38 = .ok (.ifCond .eq 5, 3) := by decide +kernel
theorem dX9_given_41 : decode cX9_given 41 = .ok (.iload_n 2, 1) := by decide +kernel
theorem dX9_given_42 : decode cX9_given 42 = .ok (.ireturn, 1) := by decide +kernel
theorem dX9_given_43 : decode cX9_given 43 = .ok (.aload_n 0, 1) := by decide +kernel
theorem dX9_given_44 : decode cX9_given 44 = .ok (.dup, 1) := by decide +kernel
theorem dX9_given_45 : decode cX9_given 45 = .ok (.getfield 171, 3) := by decide +kernel
theorem dX9_given_48 : decode cX9_given 48 = .ok (.iconst 1, 1) := by decide +kernel
theorem dX9_given_49 : decode cX9_given 49 = .ok (.iadd, 1) := by decide +kernel
theorem dX9_given_50 : decode cX9_given 50 = .ok (.putfield 171, 3) := by decide +kernel
theorem dX9_given_53 : decode cX9_given 53 = .ok (.goto (-48), 3) := by decide +kernel
theorem dX9_given_56 : decode cX9_given 56 = .ok (.iconst 0, 1) := by decide +kernel
theorem dX9_given_57 : decode cX9_given 57 = .ok (.ireturn, 1) := by decide +kernel
theorem dX9_takes_0 : decode cX9_takes 0 = .ok (.aload_n 0, 1) := by decide +kernel
theorem dX9_takes_1 : decode cX9_takes 1 = .ok (.iload_n 1, 1) := by decide +kernel
theorem dX9_takes_2 : decode cX9_takes 2 = .ok (.iload_n 2, 1) := by decide +kernel
theorem dX9_takes_3 : decode cX9_takes 3 = .ok (.iload_n 3, 1) := by decide +kernel
theorem dX9_takes_4 : decode cX9_takes 4 = .ok (.iload 4, 2) := by decide +kernel
theorem dX9_takes_6 : decode cX9_takes 6 = .ok (.aload_n 0, 1) := by decide +kernel
theorem dX9_takes_7 : decode cX9_takes 7 = .ok (.getfield 20, 3) := by decide +kernel
theorem dX9_takes_10 : decode cX9_takes 10 = .ok (.iload_n 2, 1) := by decide +kernel
theorem dX9_takes_11 : decode cX9_takes 11 = .ok (.iaload, 1) := by decide +kernel
theorem dX9_takes_12 : decode cX9_takes 12 = .ok (.invokevirtual 250, 3) := by decide +kernel
theorem dX9_takes_15 : decode cX9_takes 15 = .ok (.ireturn, 1) := by decide +kernel
theorem dX9_takesSo_0 : decode cX9_takesSo 0 = .ok (.aload_n 0, 1) := by decide +kernel
theorem dX9_takesSo_1 : decode cX9_takesSo 1 = .ok (.getfield 13, 3) := by decide +kernel
theorem dX9_takesSo_4 : decode cX9_takesSo 4 = .ok (.iload_n 1, 1) := by decide +kernel
theorem dX9_takesSo_5 : decode cX9_takesSo 5 = .ok (.iaload, 1) := by decide +kernel
theorem dX9_takesSo_6 : decode cX9_takesSo 6 = .ok (.aload_n 0, 1) := by decide +kernel
theorem dX9_takesSo_7 : decode cX9_takesSo 7 = .ok (.getfield 17, 3) := by decide +kernel
theorem dX9_takesSo_10 : decode cX9_takesSo 10 = .ok (.iload_n 1, 1) := by decide +kernel
theorem dX9_takesSo_11 : decode cX9_takesSo 11 = .ok (.iaload, 1) := by decide +kernel
theorem dX9_takesSo_12 : decode cX9_takesSo 12 = .ok (.if_icmp .le 19, 3) := by decide +kernel
theorem dX9_takesSo_15 : decode cX9_takesSo 15 = .ok (.aload_n 0, 1) := by decide +kernel
theorem dX9_takesSo_16 : decode cX9_takesSo 16 = .ok (.getfield 13, 3) := by decide +kernel
theorem dX9_takesSo_19 : decode cX9_takesSo 19 = .ok (.iload_n 1, 1) := by decide +kernel
theorem dX9_takesSo_20 : decode cX9_takesSo 20 = .ok (.iaload, 1) := by decide +kernel
theorem dX9_takesSo_21 : decode cX9_takesSo 21 = .ok (.aload_n 0, 1) := by decide +kernel
theorem dX9_takesSo_22 : decode cX9_takesSo 22 = .ok (.getfield 17, 3) := by decide +kernel
theorem dX9_takesSo_25 : decode cX9_takesSo 25 = .ok (.iload_n 1, 1) := by decide +kernel
theorem dX9_takesSo_26 : decode cX9_takesSo 26 = .ok (.iaload, 1) := by decide +kernel
theorem dX9_takesSo_27 : decode cX9_takesSo 27 = .ok (.isub, 1) := by decide +kernel
theorem dX9_takesSo_28 : decode cX9_takesSo 28 = .ok (.goto 4, 3) := by decide +kernel
theorem dX9_takesSo_31 : decode cX9_takesSo 31 = .ok (.iconst 0, 1) := by decide +kernel
theorem dX9_takesSo_32 : decode cX9_takesSo 32 = .ok (.istore 7, 2) := by decide +kernel
theorem dX9_takesSo_34 : decode cX9_takesSo 34 = .ok (.aload_n 0, 1) := by decide +kernel
theorem dX9_takesSo_35 : decode cX9_takesSo 35 = .ok (.getfield 219, 3) := by decide +kernel
theorem dX9_takesSo_38 : decode cX9_takesSo 38 = .ok (.ifCond .eq 68, 3) := by decide +kernel
theorem dX9_takesSo_41 : decode cX9_takesSo 41 = .ok (.aload_n 0, 1) := by decide +kernel
theorem dX9_takesSo_42 : decode cX9_takesSo 42 = .ok (.getfield 68, 3) := by decide +kernel
theorem dX9_takesSo_45 : decode cX9_takesSo 45 = .ok (.bipush 104, 2) := by decide +kernel
theorem dX9_takesSo_47 : decode cX9_takesSo 47 = .ok (.iload_n 3, 1) := by decide +kernel
theorem dX9_takesSo_48 : decode cX9_takesSo 48 = .ok (.iastore, 1) := by decide +kernel
theorem dX9_takesSo_49 : decode cX9_takesSo 49 = .ok (.aload_n 0, 1) := by decide +kernel
theorem dX9_takesSo_50 : decode cX9_takesSo 50 = .ok (.getfield 68, 3) := by decide +kernel
theorem dX9_takesSo_53 : decode cX9_takesSo 53 = .ok (.bipush 108, 2) := by decide +kernel
theorem dX9_takesSo_55 : decode cX9_takesSo 55 = .ok (.iload 7, 2) := by decide +kernel
theorem dX9_takesSo_57 : decode cX9_takesSo 57 = .ok (.iastore, 1) := by decide +kernel
theorem dX9_takesSo_58 : decode cX9_takesSo 58 = .ok (.aload_n 0, 1) := by decide +kernel
theorem dX9_takesSo_59 : decode cX9_takesSo 59 = .ok (.getfield 68, 3) := by decide +kernel
theorem dX9_takesSo_62 : decode cX9_takesSo 62 = .ok (.bipush 111, 2) := by decide +kernel
theorem dX9_takesSo_64 : decode cX9_takesSo 64 = .ok (.aload_n 0, 1) := by decide +kernel
theorem dX9_takesSo_65 : decode cX9_takesSo 65 = .ok (.getfield 23, 3) := by decide +kernel
theorem dX9_takesSo_68 : decode cX9_takesSo 68 = .ok (.iload_n 2, 1) := by decide +kernel
theorem dX9_takesSo_69 : decode cX9_takesSo 69 = .ok (.iaload, 1) := by decide +kernel
theorem dX9_takesSo_70 : decode cX9_takesSo 70 = .ok (.iastore, 1) := by decide +kernel
theorem dX9_takesSo_71 : decode cX9_takesSo 71 = .ok (.aload_n 0, 1) := by decide +kernel
theorem dX9_takesSo_72 : decode cX9_takesSo 72 = .ok (.getfield 68, 3) := by decide +kernel
theorem dX9_takesSo_75 : decode cX9_takesSo 75 = .ok (.bipush 115, 2) := by decide +kernel
theorem dX9_takesSo_77 : decode cX9_takesSo 77 = .ok (.iload 5, 2) := by decide +kernel
theorem dX9_takesSo_79 : decode cX9_takesSo 79 = .ok (.iastore, 1) := by decide +kernel
theorem dX9_takesSo_80 : decode cX9_takesSo 80 = .ok (.aload_n 0, 1) := by decide +kernel
theorem dX9_takesSo_81 : decode cX9_takesSo 81 = .ok (.getfield 68, 3) := by decide +kernel
theorem dX9_takesSo_84 : decode cX9_takesSo 84 = .ok (.bipush 110, 2) := by decide +kernel
theorem dX9_takesSo_86 : decode cX9_takesSo 86 = .ok (.iload 4, 2) := by decide +kernel
theorem dX9_takesSo_88 : decode cX9_takesSo 88 = .ok (.iastore, 1) := by decide +kernel
theorem dX9_takesSo_89 : decode cX9_takesSo 89 = .ok (.aload_n 0, 1) := by decide +kernel
theorem dX9_takesSo_90 : decode cX9_takesSo 90 = .ok (.getfield 68, 3) := by decide +kernel
theorem dX9_takesSo_93 : decode cX9_takesSo 93 = .ok (.bipush 99, 2) := by decide +kernel
theorem dX9_takesSo_95 : decode cX9_takesSo 95 = .ok (.iload_n 2, 1) := by decide +kernel
theorem dX9_takesSo_96 : decode cX9_takesSo 96 = .ok (.iastore, 1) := by decide +kernel
theorem dX9_takesSo_97 : decode cX9_takesSo 97 = .ok (.aload_n 0, 1) := by decide +kernel
theorem dX9_takesSo_98 : decode cX9_takesSo 98 = .ok (.invokevirtual 254, 3) := by decide +kernel
theorem dX9_takesSo_101 : decode cX9_takesSo 101 = .ok (.istore 6, 2) := by decide +kernel
theorem dX9_takesSo_103 : decode cX9_takesSo 103 = .ok (.goto 27, 3) := by decide +kernel
theorem dX9_takesSo_106 : decode cX9_takesSo 106 = .ok (.bipush 10, 2) := by decide +kernel
theorem dX9_takesSo_108 : decode cX9_takesSo 108 = .ok (.iload_n 3, 1) := by decide +kernel
theorem dX9_takesSo_109 : decode cX9_takesSo 109 = .ok (.isub, 1) := by decide +kernel
theorem dX9_takesSo_110 : decode cX9_takesSo 110 = .ok (.iload 7, 2) := by decide +kernel
theorem dX9_takesSo_112 : decode cX9_takesSo 112 = .ok (.imul, 1) := by decide +kernel
theorem dX9_takesSo_113 : decode cX9_takesSo 113 = .ok (.iload 5, 2) := by decide +kernel
theorem dX9_takesSo_115 : decode cX9_takesSo 115 = .ok (.iadd, 1) := by decide +kernel
theorem dX9_takesSo_116 : decode cX9_takesSo 116 = .ok (.iconst 2, 1) := by decide +kernel
theorem dX9_takesSo_117 : decode cX9_takesSo 117 = .ok (.aload_n 0, 1) := by decide +kernel
theorem dX9_takesSo_118 : decode cX9_takesSo 118 = .ok (.getfield 23, 3) := by decide +kernel
theorem dX9_takesSo_121 : decode cX9_takesSo 121 = .ok (.iload_n 2, 1) := by decide +kernel
theorem dX9_takesSo_122 : decode cX9_takesSo 122 = .ok (.iaload, 1) := by decide +kernel
theorem dX9_takesSo_123 : decode cX9_takesSo 123 = .ok (.imul, 1) := by decide +kernel
theorem dX9_takesSo_124 : decode cX9_takesSo 124 = .ok (.iadd, 1) := by decide +kernel
theorem dX9_takesSo_125 : decode cX9_takesSo 125 = .ok (.iload 4, 2) := by decide +kernel
theorem dX9_takesSo_127 : decode cX9_takesSo 127 = .ok (.isub, 1) := by decide +kernel
theorem dX9_takesSo_128 : decode cX9_takesSo 128 = .ok (.istore 6, 2) := by decide +kernel
theorem dX9_takesSo_130 : decode cX9_takesSo 130 = .ok (.iload 6, 2) := by decide +kernel
theorem dX9_takesSo_132 : decode cX9_takesSo 132 = .ok (.iconst 1, 1) := by decide +kernel
theorem dX9_takesSo_133 : decode cX9_takesSo 133 = .ok (.if_icmp .ge 7, 3) := by decide +kernel
theorem dX9_takesSo_136 : decode cX9_takesSo 136 = .ok (.iconst 1, 1) := by decide +kernel
theorem dX9_takesSo_137 : decode cX9_takesSo 137 = .ok (.goto 19, 3) := by decide +kernel
theorem dX9_takesSo_140 : decode cX9_takesSo 140 = .ok (.iload 6, 2) := by decide +kernel
theorem dX9_takesSo_142 : decode cX9_takesSo 142 = .ok (.sipush 999, 3) := by decide +kernel
theorem dX9_takesSo_145 : decode cX9_takesSo 145 = .ok (.if_icmp .le 9, 3) := by decide +kernel
theorem dX9_takesSo_148 : decode cX9_takesSo 148 = .ok (.sipush 999, 3) := by decide +kernel
theorem dX9_takesSo_151 : decode cX9_takesSo 151 = .ok (.goto 5, 3) := by decide +kernel
theorem dX9_takesSo_154 : decode cX9_takesSo 154 = .ok (.iload 6, 2) := by decide +kernel
theorem dX9_takesSo_156 : decode cX9_takesSo 156 = .ok (.ireturn, 1) := by decide +kernel
theorem dX9_takesNow_0 : decode cX9_takesNow 0 = .ok (.aload_n 0, 1) := by decide +kernel
theorem dX9_takesNow_1 : decode cX9_takesNow 1 = .ok (.iload_n 1, 1) := by decide +kernel
theorem dX9_takesNow_2 : decode cX9_takesNow 2 = .ok (.iload_n 2, 1) := by decide +kernel
theorem dX9_takesNow_3 : decode cX9_takesNow 3 = .ok (.aload_n 0, 1) := by decide +kernel
theorem dX9_takesNow_4 : decode cX9_takesNow 4 = .ok (.getfield 35, 3) := by decide +kernel
theorem dX9_takesNow_7 : decode cX9_takesNow 7 = .ok (.aload_n 0, 1) := by decide +kernel
theorem dX9_takesNow_8 : decode cX9_takesNow 8 = .ok (.getfield 26, 3) := by decide +kernel
theorem dX9_takesNow_11 : decode cX9_takesNow 11 = .ok (.iload_n 2, 1) := by decide +kernel
theorem dX9_takesNow_12 : decode cX9_takesNow 12 = .ok (.iaload, 1) := by decide +kernel
theorem dX9_takesNow_13 : decode cX9_takesNow 13 = .ok (.iaload, 1) := by decide +kernel
theorem dX9_takesNow_14 : decode cX9_takesNow 14 = .ok (.aload_n 0, 1) := by decide +kernel
theorem dX9_takesNow_15 : decode cX9_takesNow 15 = .ok (.getfield 41, 3) := by decide +kernel
theorem dX9_takesNow_18 : decode cX9_takesNow 18 = .ok (.aload_n 0, 1) := by decide +kernel
theorem dX9_takesNow_19 : decode cX9_takesNow 19 = .ok (.getfield 26, 3) := by decide +kernel
theorem dX9_takesNow_22 : decode cX9_takesNow 22 = .ok (.iload_n 2, 1) := by decide +kernel
theorem dX9_takesNow_23 : decode cX9_takesNow 23 = .ok (.iaload, 1) := by decide +kernel
theorem dX9_takesNow_24 : decode cX9_takesNow 24 = .ok (.iaload, 1) := by decide +kernel
theorem dX9_takesNow_25 : decode cX9_takesNow 25 = .ok (.invokevirtual 257, 3) := by decide +kernel
theorem dX9_takesNow_28 : decode cX9_takesNow 28 = .ok (.ireturn, 1) := by decide +kernel
theorem dX9_ahead_0 : decode cX9_ahead 0 = .ok (.aload_n 0, 1) := by decide +kernel
theorem dX9_ahead_1 : decode cX9_ahead 1 = .ok (.getfield 35, 3) := by decide +kernel
theorem dX9_ahead_4 : decode cX9_ahead 4 = .ok (.iconst 1, 1) := by decide +kernel
theorem dX9_ahead_5 : decode cX9_ahead 5 = .ok (.iaload, 1) := by decide +kernel
theorem dX9_ahead_6 : decode cX9_ahead 6 = .ok (.aload_n 0, 1) := by decide +kernel
theorem dX9_ahead_7 : decode cX9_ahead 7 = .ok (.getfield 35, 3) := by decide +kernel
theorem dX9_ahead_10 : decode cX9_ahead 10 = .ok (.iconst 0, 1) := by decide +kernel
theorem dX9_ahead_11 : decode cX9_ahead 11 = .ok (.iaload, 1) := by decide +kernel
theorem dX9_ahead_12 : decode cX9_ahead 12 = .ok (.if_icmp .le 7, 3) := by decide +kernel
theorem dX9_ahead_15 : decode cX9_ahead 15 = .ok (.iconst 1, 1) := by decide +kernel
theorem dX9_ahead_16 : decode cX9_ahead 16 = .ok (.goto 4, 3) := by decide +kernel
theorem dX9_ahead_19 : decode cX9_ahead 19 = .ok (.iconst 0, 1) := by decide +kernel
theorem dX9_ahead_20 : decode cX9_ahead 20 = .ok (.istore_n 3, 1) := by decide +kernel
theorem dX9_ahead_21 : decode cX9_ahead 21 = .ok (.aload_n 0, 1) := by decide +kernel
theorem dX9_ahead_22 : decode cX9_ahead 22 = .ok (.iload_n 1, 1) := by decide +kernel
theorem dX9_ahead_23 : decode cX9_ahead 23 = .ok (.iload_n 2, 1) := by decide +kernel
theorem dX9_ahead_24 : decode cX9_ahead 24 = .ok (.aload_n 0, 1) := by decide +kernel
theorem dX9_ahead_25 : decode cX9_ahead 25 = .ok (.getfield 35, 3) := by decide +kernel
theorem dX9_ahead_28 : decode cX9_ahead 28 = .ok (.iload_n 3, 1) := by decide +kernel
theorem dX9_ahead_29 : decode cX9_ahead 29 = .ok (.iaload, 1) := by decide +kernel
theorem dX9_ahead_30 : decode cX9_ahead 30 = .ok (.aload_n 0, 1) := by decide +kernel
theorem dX9_ahead_31 : decode cX9_ahead 31 = .ok (.getfield 41, 3) := by decide +kernel
theorem dX9_ahead_34 : decode cX9_ahead 34 = .ok (.iload_n 3, 1) := by decide +kernel
theorem dX9_ahead_35 : decode cX9_ahead 35 = .ok (.iaload, 1) := by decide +kernel
theorem dX9_ahead_36 : decode cX9_ahead 36 = .ok (.invokevirtual 257, 3) := by decide +kernel
theorem dX9_ahead_39 : decode cX9_ahead 39 = .ok (.iconst 2, 1) := by decide +kernel
theorem dX9_ahead_40 : decode cX9_ahead 40 = .ok (.idiv, 1) := by decide +kernel
theorem dX9_ahead_41 : decode cX9_ahead 41 = .ok (.istore 4, 2) := by decide +kernel
theorem dX9_ahead_43 : decode cX9_ahead 43 = .ok (.iload 4, 2) := by decide +kernel
theorem dX9_ahead_45 : decode cX9_ahead 45 = .ok (.iconst 1, 1) := by decide +kernel
theorem dX9_ahead_46 : decode cX9_ahead 46 = .ok (.if_icmp .ge 7, 3) := by decide +kernel
theorem dX9_ahead_49 : decode cX9_ahead 49 = .ok (.iconst 1, 1) := by decide +kernel
theorem dX9_ahead_50 : decode cX9_ahead 50 = .ok (.goto 5, 3) := by decide +kernel
theorem dX9_ahead_53 : decode cX9_ahead 53 = .ok (.iload 4, 2) := by decide +kernel
theorem dX9_ahead_55 : decode cX9_ahead 55 = .ok (.ireturn, 1) := by decide +kernel
theorem dX9_goes_0 : decode cX9_goes 0 = .ok (.aload_n 0, 1) := by decide +kernel
theorem dX9_goes_1 : decode cX9_goes 1 = .ok (.getfield 38, 3) := by decide +kernel
theorem dX9_goes_4 : decode cX9_goes 4 = .ok (.iconst 1, 1) := by decide +kernel
theorem dX9_goes_5 : decode cX9_goes 5 = .ok (.aload_n 0, 1) := by decide +kernel
theorem dX9_goes_6 : decode cX9_goes 6 = .ok (.getfield 26, 3) := by decide +kernel
theorem dX9_goes_9 : decode cX9_goes 9 = .ok (.iload_n 2, 1) := by decide +kernel
theorem dX9_goes_10 : decode cX9_goes 10 = .ok (.iaload, 1) := by decide +kernel
theorem dX9_goes_11 : decode cX9_goes 11 = .ok (.isub, 1) := by decide +kernel
theorem dX9_goes_12 : decode cX9_goes 12 = .ok (.iaload, 1) := by decide +kernel
theorem dX9_goes_13 : decode cX9_goes 13 = .ok (.aload_n 0, 1) := by decide +kernel
theorem dX9_goes_14 : decode cX9_goes 14 = .ok (.getfield 29, 3) := by decide +kernel
theorem dX9_goes_17 : decode cX9_goes 17 = .ok (.iload_n 2, 1) := by decide +kernel
theorem dX9_goes_18 : decode cX9_goes 18 = .ok (.iaload, 1) := by decide +kernel
theorem dX9_goes_19 : decode cX9_goes 19 = .ok (.iconst 2, 1) := by decide +kernel
theorem dX9_goes_20 : decode cX9_goes 20 = .ok (.aload_n 0, 1) := by decide +kernel
theorem dX9_goes_21 : decode cX9_goes 21 = .ok (.getfield 17, 3) := by decide +kernel
theorem dX9_goes_24 : decode cX9_goes 24 = .ok (.iload_n 1, 1) := by decide +kernel
theorem dX9_goes_25 : decode cX9_goes 25 = .ok (.iaload, 1) := by decide +kernel
theorem dX9_goes_26 : decode cX9_goes 26 = .ok (.imul, 1) := by decide +kernel
theorem dX9_goes_27 : decode cX9_goes 27 = .ok (.iadd, 1) := by decide +kernel
theorem dX9_goes_28 : decode cX9_goes 28 = .ok (.if_icmp .gt 7, 3) := by decide +kernel
theorem dX9_goes_31 : decode cX9_goes 31 = .ok (.iconst 1, 1) := by decide +kernel
theorem dX9_goes_32 : decode cX9_goes 32 = .ok (.goto 4, 3) := by decide +kernel
theorem dX9_goes_35 : decode cX9_goes 35 = .ok (.iconst 0, 1) := by decide +kernel
theorem dX9_goes_36 : decode cX9_goes 36 = .ok (.ireturn, 1) := by decide +kernel
theorem dX9_isPair_0 : decode cX9_isPair 0 = .ok (.iload_n 1, 1) := by decide +kernel
theorem dX9_isPair_1 : decode cX9_isPair 1 = .ok (.ifCond .lt 29, 3) := by decide +kernel
theorem dX9_isPair_4 : decode cX9_isPair 4 = .ok (.aload_n 0, 1) := by decide +kernel
theorem dX9_isPair_5 : decode cX9_isPair 5 = .ok (.iload_n 1, 1) := by decide +kernel
theorem dX9_isPair_6 : decode cX9_isPair 6 = .ok (.bipush 10, 2) := by decide +kernel
theorem dX9_isPair_8 : decode cX9_isPair 8 = .ok (.idiv, 1) := by decide +kernel
theorem dX9_isPair_9 : decode cX9_isPair 9 = .ok (.invokevirtual 133, 3) := by decide +kernel
theorem dX9_isPair_12 : decode cX9_isPair 12 = .ok (.ifCond .eq 18, 3) := by decide +kernel
theorem dX9_isPair_15 : decode cX9_isPair 15 = .ok (.aload_n 0, 1) := by decide +kernel
theorem dX9_isPair_16 : decode cX9_isPair 16 = .ok (.iload_n 1, 1) := by decide +kernel
theorem dX9_isPair_17 : decode cX9_isPair 17 = .ok (.bipush 10, 2) := by decide +kernel
theorem dX9_isPair_19 : decode cX9_isPair 19 = .ok (.irem, 1) := by decide +kernel
theorem dX9_isPair_20 : decode cX9_isPair 20 = .ok (.invokevirtual 136, 3) := by decide +kernel
theorem dX9_isPair_23 : decode cX9_isPair 23 = .ok (.ifCond .eq 7, 3) := by decide +kernel
theorem dX9_isPair_26 : decode cX9_isPair 26 = .ok (.iconst 1, 1) := by decide +kernel
theorem dX9_isPair_27 : decode cX9_isPair 27 = .ok (.goto 4, 3) := by decide +kernel
theorem dX9_isPair_30 : decode cX9_isPair 30 = .ok (.iconst 0, 1) := by decide +kernel
theorem dX9_isPair_31 : decode cX9_isPair 31 = .ok (.ireturn, 1) := by decide +kernel
theorem dX9_seconds_0 : decode cX9_seconds 0 = .ok (.aload_n 0, 1) := by decide +kernel
theorem dX9_seconds_1 : decode cX9_seconds 1 = .ok (.iload_n 1, 1) := by decide +kernel
theorem dX9_seconds_2 : decode cX9_seconds 2 = .ok (.invokevirtual 261, 3) := by decide +kernel
theorem dX9_seconds_5 : decode cX9_seconds 5 = .ok (.ifCond .eq 13, 3) := by decide +kernel
theorem dX9_seconds_8 : decode cX9_seconds 8 = .ok (.aload_n 0, 1) := by decide +kernel
theorem dX9_seconds_9 : decode cX9_seconds 9 = .ok (.iload_n 2, 1) := by decide +kernel
theorem dX9_seconds_10 : decode cX9_seconds 10 = .ok (.iconst 0, 1) := by decide +kernel
theorem dX9_seconds_11 : decode cX9_seconds 11 = .ok (.iconst 3, 1) := by decide +kernel
theorem dX9_seconds_12 : decode cX9_seconds 12 = .ok (.invokevirtual 114, 3) := by decide +kernel
theorem dX9_seconds_15 : decode cX9_seconds 15 = .ok (.ifCond .ne 5, 3) := by decide +kernel
theorem dX9_seconds_18 : decode cX9_seconds 18 = .ok (.iconst (-1), 1) := by decide +kernel
theorem dX9_seconds_19 : decode cX9_seconds 19 = .ok (.ireturn, 1) := by decide +kernel
theorem dX9_seconds_20 : decode cX9_seconds 20 = .ok (.iload_n 1, 1) := by decide +kernel
theorem dX9_seconds_21 : decode cX9_seconds 21 = .ok (.bipush 10, 2) := by decide +kernel
theorem dX9_seconds_23 : decode cX9_seconds 23 = .ok (.idiv, 1) := by decide +kernel
theorem dX9_seconds_24 : decode cX9_seconds 24 = .ok (.istore_n 3, 1) := by decide +kernel
theorem dX9_seconds_25 : decode cX9_seconds 25 = .ok (.iload_n 1, 1) := by decide +kernel
theorem dX9_seconds_26 : decode cX9_seconds 26 = .ok (.bipush 10, 2) := by decide +kernel
theorem dX9_seconds_28 : decode cX9_seconds 28 = .ok (.irem, 1) := by decide +kernel
theorem dX9_seconds_29 : decode cX9_seconds 29 = .ok (.istore 4, 2) := by decide +kernel
theorem dX9_seconds_31 : decode cX9_seconds 31 = .ok (.aload_n 0, 1) := by decide +kernel
theorem dX9_seconds_32 : decode cX9_seconds 32 = .ok (.iload_n 3, 1) := by decide +kernel
theorem dX9_seconds_33 : decode cX9_seconds 33 = .ok (.iload 4, 2) := by decide +kernel
theorem dX9_seconds_35 : decode cX9_seconds 35 = .ok (.invokevirtual 264, 3) := by decide +kernel
theorem dX9_seconds_38 : decode cX9_seconds 38 = .ok (.istore 5, 2) := by decide +kernel
theorem dX9_seconds_40 : decode cX9_seconds 40 = .ok (.iload_n 2, 1) := by decide +kernel
theorem dX9_seconds_41 : decode cX9_seconds 41 = .ok (.ifCond .ne 6, 3) := by decide +kernel
theorem dX9_seconds_44 : decode cX9_seconds 44 = .ok (.iload 5, 2) := by decide +kernel
theorem dX9_seconds_46 : decode cX9_seconds 46 = .ok (.ireturn, 1) := by decide +kernel
theorem dX9_seconds_47 : decode cX9_seconds 47 = .ok (.iload_n 2, 1) := by decide +kernel
theorem dX9_seconds_48 : decode cX9_seconds 48 = .ok (.iconst 1, 1) := by decide +kernel
theorem dX9_seconds_49 : decode cX9_seconds 49 = .ok (.if_icmp .ne 11, 3) := by decide +kernel
theorem dX9_seconds_52 : decode cX9_seconds 52 = .ok (.aload_n 0, 1) := by decide +kernel
theorem dX9_seconds_53 : decode cX9_seconds 53 = .ok (.iload_n 3, 1) := by decide +kernel
theorem dX9_seconds_54 : decode cX9_seconds 54 = .ok (.iload 4, 2) := by decide +kernel
theorem dX9_seconds_56 : decode cX9_seconds 56 = .ok (.invokevirtual 267, 3) := by decide +kernel
theorem dX9_seconds_59 : decode cX9_seconds 59 = .ok (.ireturn, 1) := by decide +kernel
theorem dX9_seconds_60 : decode cX9_seconds 60 = .ok (.iload_n 2, 1) := by decide +kernel
theorem dX9_seconds_61 : decode cX9_seconds 61 = .ok (.iconst 2, 1) := by decide +kernel
theorem dX9_seconds_62 : decode cX9_seconds 62 = .ok (.if_icmp .ne 15, 3) := by decide +kernel
theorem dX9_seconds_65 : decode cX9_seconds 65 = .ok (.aload_n 0, 1) := by decide +kernel
theorem dX9_seconds_66 : decode cX9_seconds 66 = .ok (.aload_n 0, 1) := by decide +kernel
theorem dX9_seconds_67 : decode cX9_seconds 67 = .ok (.iload_n 3, 1) := by decide +kernel
theorem dX9_seconds_68 : decode cX9_seconds 68 = .ok (.iload 4, 2) := by decide +kernel
theorem dX9_seconds_70 : decode cX9_seconds 70 = .ok (.invokevirtual 270, 3) := by decide +kernel
theorem dX9_seconds_73 : decode cX9_seconds 73 = .ok (.invokevirtual 228, 3) := by decide +kernel
theorem dX9_seconds_76 : decode cX9_seconds 76 = .ok (.ireturn, 1) := by decide +kernel
theorem dX9_seconds_77 : decode cX9_seconds 77 = .ok (.aload_n 0, 1) := by decide +kernel
theorem dX9_seconds_78 : decode cX9_seconds 78 = .ok (.iload_n 3, 1) := by decide +kernel
theorem dX9_seconds_79 : decode cX9_seconds 79 = .ok (.iload 4, 2) := by decide +kernel
theorem dX9_seconds_81 : decode cX9_seconds 81 = .ok (.invokevirtual 270, 3) := by decide +kernel
theorem dX9_seconds_84 : decode cX9_seconds 84 = .ok (.ifCond .eq 25, 3) := by decide +kernel
theorem dX9_seconds_87 : decode cX9_seconds 87 = .ok (.aload_n 0, 1) := by decide +kernel
theorem dX9_seconds_88 : decode cX9_seconds 88 = .ok (.iload_n 3, 1) := by decide +kernel
theorem dX9_seconds_89 : decode cX9_seconds 89 = .ok (.iload 4, 2) := by decide +kernel
theorem dX9_seconds_91 : decode cX9_seconds 91 = .ok (.invokevirtual 267, 3) := by decide +kernel
theorem dX9_seconds_94 : decode cX9_seconds 94 = .ok (.iload 5, 2) := by decide +kernel
theorem dX9_seconds_96 : decode cX9_seconds 96 = .ok (.if_icmp .ge 13, 3) := by decide +kernel
theorem dX9_seconds_99 : decode cX9_seconds 99 = .ok (.aload_n 0, 1) := by decide +kernel
theorem dX9_seconds_100 : decode cX9_seconds 100 = .ok (.iload_n 3, 1) := by decide +kernel
theorem dX9_seconds_101 : decode cX9_seconds 101 = .ok (.iload 4, 2) := by decide +kernel
theorem dX9_seconds_103 : decode cX9_seconds 103 = .ok (.invokevirtual 267, 3) := by decide +kernel
theorem dX9_seconds_106 : decode cX9_seconds 106 = .ok (.goto 5, 3) := by decide +kernel
theorem dX9_seconds_109 : decode cX9_seconds 109 = .ok (.iload 5, 2) := by decide +kernel
theorem dX9_seconds_111 : decode cX9_seconds 111 = .ok (.ireturn, 1) := by decide +kernel
theorem dX9_best_0 : decode cX9_best 0 = .ok (.aload_n 0, 1) := by decide +kernel
theorem dX9_best_1 : decode cX9_best 1 = .ok (.iload_n 1, 1) := by decide +kernel
theorem dX9_best_2 : decode cX9_best 2 = .ok (.invokevirtual 136, 3) := by decide +kernel
theorem dX9_best_5 : decode cX9_best 5 = .ok (.ifCond .ne 5, 3) := by decide +kernel
theorem dX9_best_8 : decode cX9_best 8 = .ok (.iconst (-1), 1) := by decide +kernel
theorem dX9_best_9 : decode cX9_best 9 = .ok (.ireturn, 1) := by decide +kernel
theorem dX9_best_10 : decode cX9_best 10 = .ok (.bipush (-2), 2) := by decide +kernel
theorem dX9_best_12 : decode cX9_best 12 = .ok (.istore_n 2, 1) := by decide +kernel
theorem dX9_best_13 : decode cX9_best 13 = .ok (.iconst 0, 1) := by decide +kernel
theorem dX9_best_14 : decode cX9_best 14 = .ok (.istore_n 3, 1) := by decide +kernel
theorem dX9_best_15 : decode cX9_best 15 = .ok (.iload_n 3, 1) := by decide +kernel
theorem dX9_best_16 : decode cX9_best 16 = .ok (.aload_n 0, 1) := by decide +kernel
theorem dX9_best_17 : decode cX9_best 17 = .ok (.getfield 108, 3) := by decide +kernel
theorem dX9_best_20 : decode cX9_best 20 = .ok (.if_icmp .ge 32, 3) := by decide +kernel
theorem dX9_best_23 : decode cX9_best 23 = .ok (.iload_n 2, 1) := by decide +kernel
theorem dX9_best_24 : decode cX9_best 24 = .ok (.bipush (-2), 2) := by decide +kernel
theorem dX9_best_26 : decode cX9_best 26 = .ok (.if_icmp .eq 18, 3) := by decide +kernel
theorem dX9_best_29 : decode cX9_best 29 = .ok (.aload_n 0, 1) := by decide +kernel
theorem dX9_best_30 : decode cX9_best 30 = .ok (.iload_n 3, 1) := by decide +kernel
theorem dX9_best_31 : decode cX9_best 31 = .ok (.iload_n 1, 1) := by decide +kernel
theorem dX9_best_32 : decode cX9_best 32 = .ok (.invokevirtual 264, 3) := by decide +kernel
theorem dX9_best_35 : decode cX9_best 35 = .ok (.aload_n 0, 1) := by decide +kernel
theorem dX9_best_36 : decode cX9_best 36 = .ok (.iload_n 2, 1) := by decide +kernel
theorem dX9_best_37 : decode cX9_best 37 = .ok (.iload_n 1, 1) := by decide +kernel
theorem dX9_best_38 : decode cX9_best 38 = .ok (.invokevirtual 264, 3) := by decide +kernel
theorem dX9_best_41 : decode cX9_best 41 = .ok (.if_icmp .ge 5, 3) := by decide +kernel
theorem dX9_best_44 : decode cX9_best 44 = .ok (.iload_n 3, 1) := by decide +kernel
theorem dX9_best_45 : decode cX9_best 45 = .ok (.istore_n 2, 1) := by decide +kernel
theorem dX9_best_46 : decode cX9_best 46 = .ok (.iinc 3 1, 3) := by decide +kernel
theorem dX9_best_49 : decode cX9_best 49 = .ok (.goto (-34), 3) := by decide +kernel
theorem dX9_best_52 : decode cX9_best 52 = .ok (.iload_n 2, 1) := by decide +kernel
theorem dX9_best_53 : decode cX9_best 53 = .ok (.ireturn, 1) := by decide +kernel
theorem dX9_pairs_0 : decode cX9_pairs 0 = .ok (.iload_n 1, 1) := by decide +kernel
theorem dX9_pairs_1 : decode cX9_pairs 1 = .ok (.iload_n 2, 1) := by decide +kernel
theorem dX9_pairs_2 : decode cX9_pairs 2 = .ok (.if_icmp .ne 56, 3) := by decide +kernel
theorem dX9_pairs_5 : decode cX9_pairs 5 = .ok (.aload_n 0, 1) := by decide +kernel
theorem dX9_pairs_6 : decode cX9_pairs 6 = .ok (.getfield 273, 3) := by decide +kernel
theorem dX9_pairs_9 : decode cX9_pairs 9 = .ok (.ifCond .lt 13, 3) := by decide +kernel
theorem dX9_pairs_12 : decode cX9_pairs 12 = .ok (.iload 4, 2) := by decide +kernel
theorem dX9_pairs_14 : decode cX9_pairs 14 = .ok (.aload_n 0, 1) := by decide +kernel
theorem dX9_pairs_15 : decode cX9_pairs 15 = .ok (.getfield 273, 3) := by decide +kernel
theorem dX9_pairs_18 : decode cX9_pairs 18 = .ok (.if_icmp .lt 4, 3) := by decide +kernel
theorem dX9_pairs_21 : decode cX9_pairs 21 = .ok (.return_, 1) := by decide +kernel
theorem dX9_pairs_22 : decode cX9_pairs 22 = .ok (.aload_n 0, 1) := by decide +kernel
theorem dX9_pairs_23 : decode cX9_pairs 23 = .ok (.iload 4, 2) := by decide +kernel
theorem dX9_pairs_25 : decode cX9_pairs 25 = .ok (.putfield 273, 3) := by decide +kernel
theorem dX9_pairs_28 : decode cX9_pairs 28 = .ok (.iconst 0, 1) := by decide +kernel
theorem dX9_pairs_29 : decode cX9_pairs 29 = .ok (.istore 5, 2) := by decide +kernel
theorem dX9_pairs_31 : decode cX9_pairs 31 = .ok (.iload 5, 2) := by decide +kernel
theorem dX9_pairs_33 : decode cX9_pairs 33 = .ok (.iload_n 2, 1) := by decide +kernel
theorem dX9_pairs_34 : decode cX9_pairs 34 = .ok (.if_icmp .ge 23, 3) := by decide +kernel
theorem dX9_pairs_37 : decode cX9_pairs 37 = .ok (.aload_n 0, 1) := by decide +kernel
theorem dX9_pairs_38 : decode cX9_pairs 38 = .ok (.getfield 74, 3) := by decide +kernel
theorem dX9_pairs_41 : decode cX9_pairs 41 = .ok (.iload 5, 2) := by decide +kernel
theorem dX9_pairs_43 : decode cX9_pairs 43 = .ok (.aload_n 0, 1) := by decide +kernel
theorem dX9_pairs_44 : decode cX9_pairs 44 = .ok (.getfield 71, 3) := by decide +kernel
theorem dX9_pairs_47 : decode cX9_pairs 47 = .ok (.iload 5, 2) := by decide +kernel
theorem dX9_pairs_49 : decode cX9_pairs 49 = .ok (.iaload, 1) := by decide +kernel
theorem dX9_pairs_50 : decode cX9_pairs 50 = .ok (.iastore, 1) := by decide +kernel
theorem dX9_pairs_51 : decode cX9_pairs 51 = .ok (.iinc 5 1, 3) := by decide +kernel
theorem dX9_pairs_54 : decode cX9_pairs 54 = .ok (.goto (-23), 3) := by decide +kernel
theorem dX9_pairs_57 : decode cX9_pairs 57 = .ok (.return_, 1) := by decide +kernel
theorem dX9_pairs_58 : decode cX9_pairs 58 = .ok (.iconst 0, 1) := by decide +kernel
theorem dX9_pairs_59 : decode cX9_pairs 59 = .ok (.istore 5, 2) := by decide +kernel
theorem dX9_pairs_61 : decode cX9_pairs 61 = .ok (.iload 5, 2) := by decide +kernel
theorem dX9_pairs_63 : decode cX9_pairs 63 = .ok (.aload_n 0, 1) := by decide +kernel
theorem dX9_pairs_64 : decode cX9_pairs 64 = .ok (.getfield 108, 3) := by decide +kernel
theorem dX9_pairs_67 : decode cX9_pairs 67 = .ok (.if_icmp .ge 54, 3) := by decide +kernel
theorem dX9_pairs_70 : decode cX9_pairs 70 = .ok (.aload_n 0, 1) := by decide +kernel
theorem dX9_pairs_71 : decode cX9_pairs 71 = .ok (.iload_n 3, 1) := by decide +kernel
theorem dX9_pairs_72 : decode cX9_pairs 72 = .ok (.iload 5, 2) := by decide +kernel
theorem dX9_pairs_74 : decode cX9_pairs 74 = .ok (.invokevirtual 276, 3) := by decide +kernel
theorem dX9_pairs_77 : decode cX9_pairs 77 = .ok (.ifCond .eq 6, 3) := by decide +kernel
theorem dX9_pairs_80 : decode cX9_pairs 80 = .ok (.goto 35, 3) := by decide +kernel
theorem dX9_pairs_83 : decode cX9_pairs 83 = .ok (.aload_n 0, 1) := by decide +kernel
theorem dX9_pairs_84 : decode cX9_pairs 84 = .ok (.getfield 71, 3) := by decide +kernel
theorem dX9_pairs_87 : decode cX9_pairs 87 = .ok (.iload_n 1, 1) := by decide +kernel
theorem dX9_pairs_88 : decode cX9_pairs 88 = .ok (.iload 5, 2) := by decide +kernel
theorem dX9_pairs_90 : decode cX9_pairs 90 = .ok (.iastore, 1) := by decide +kernel
theorem dX9_pairs_91 : decode cX9_pairs 91 = .ok (.aload_n 0, 1) := by decide +kernel
theorem dX9_pairs_92 : decode cX9_pairs 92 = .ok (.iload_n 1, 1) := by decide +kernel
theorem dX9_pairs_93 : decode cX9_pairs 93 = .ok (.iconst 1, 1) := by decide +kernel
theorem dX9_pairs_94 : decode cX9_pairs 94 = .ok (.iadd, 1) := by decide +kernel
theorem dX9_pairs_95 : decode cX9_pairs 95 = .ok (.iload_n 2, 1) := by decide +kernel
theorem dX9_pairs_96 : decode cX9_pairs 96 = .ok (.iload_n 3, 1) := by decide +kernel
theorem dX9_pairs_97 : decode cX9_pairs 97 = .ok (.iconst 1, 1) := by decide +kernel
theorem dX9_pairs_98 : decode cX9_pairs 98 = .ok (.iload 5, 2) := by decide +kernel
theorem dX9_pairs_100 : decode cX9_pairs 100 = .ok (.ishl, 1) := by decide +kernel
theorem dX9_pairs_101 : decode cX9_pairs 101 = .ok (.ior, 1) := by decide +kernel
theorem dX9_pairs_102 : decode cX9_pairs 102 = .ok (.iload 4, 2) := by decide +kernel
theorem dX9_pairs_104 : decode cX9_pairs 104 = .ok (.aload_n 0, 1) := by decide +kernel
theorem dX9_pairs_105 : decode cX9_pairs 105 = .ok (.iload 5, 2) := by decide +kernel
theorem dX9_pairs_107 : decode cX9_pairs 107 = .ok (.iload_n 1, 1) := by decide +kernel
theorem dX9_pairs_108 : decode cX9_pairs 108 = .ok (.invokevirtual 264, 3) := by decide +kernel
theorem dX9_pairs_111 : decode cX9_pairs 111 = .ok (.iadd, 1) := by decide +kernel
theorem dX9_pairs_112 : decode cX9_pairs 112 = .ok (.invokevirtual 279, 3) := by decide +kernel
theorem dX9_pairs_115 : decode cX9_pairs 115 = .ok (.iinc 5 1, 3) := by decide +kernel
theorem dX9_pairs_118 : decode cX9_pairs 118 = .ok (.goto (-57), 3) := by decide +kernel
theorem dX9_pairs_121 : decode cX9_pairs 121 = .ok (.return_, 1) := by decide +kernel
theorem dX9_paired_0 : decode cX9_paired 0 = .ok (.aload_n 0, 1) := by decide +kernel
theorem dX9_paired_1 : decode cX9_paired 1 = .ok (.iload_n 1, 1) := by decide +kernel
theorem dX9_paired_2 : decode cX9_paired 2 = .ok (.iconst 0, 1) := by decide +kernel
theorem dX9_paired_3 : decode cX9_paired 3 = .ok (.aload_n 0, 1) := by decide +kernel
theorem dX9_paired_4 : decode cX9_paired 4 = .ok (.getfield 111, 3) := by decide +kernel
theorem dX9_paired_7 : decode cX9_paired 7 = .ok (.invokevirtual 114, 3) := by decide +kernel
theorem dX9_paired_10 : decode cX9_paired 10 = .ok (.ifCond .eq 15, 3) := by decide +kernel
theorem dX9_paired_13 : decode cX9_paired 13 = .ok (.aload_n 0, 1) := by decide +kernel
theorem dX9_paired_14 : decode cX9_paired 14 = .ok (.iload_n 2, 1) := by decide +kernel
theorem dX9_paired_15 : decode cX9_paired 15 = .ok (.iconst (-1), 1) := by decide +kernel
theorem dX9_paired_16 : decode cX9_paired 16 = .ok (.iload_n 1, 1) := by decide +kernel
theorem dX9_paired_17 : decode cX9_paired 17 = .ok (.iconst 1, 1) := by decide +kernel
theorem dX9_paired_18 : decode cX9_paired 18 = .ok (.isub, 1) := by decide +kernel
theorem dX9_paired_19 : decode cX9_paired 19 = .ok (.invokevirtual 114, 3) := by decide +kernel
theorem dX9_paired_22 : decode cX9_paired 22 = .ok (.ifCond .ne 5, 3) := by decide +kernel
theorem dX9_paired_25 : decode cX9_paired 25 = .ok (.iconst (-1), 1) := by decide +kernel
theorem dX9_paired_26 : decode cX9_paired 26 = .ok (.ireturn, 1) := by decide +kernel
theorem dX9_paired_27 : decode cX9_paired 27 = .ok (.iload_n 1, 1) := by decide +kernel
theorem dX9_paired_28 : decode cX9_paired 28 = .ok (.aload_n 0, 1) := by decide +kernel
theorem dX9_paired_29 : decode cX9_paired 29 = .ok (.getfield 108, 3) := by decide +kernel
theorem dX9_paired_32 : decode cX9_paired 32 = .ok (.if_icmp .le 6, 3) := by decide +kernel
theorem dX9_paired_35 : decode cX9_paired 35 = .ok (.bipush (-2), 2) := by decide +kernel
theorem dX9_paired_37 : decode cX9_paired 37 = .ok (.ireturn, 1) := by decide +kernel
theorem dX9_paired_38 : decode cX9_paired 38 = .ok (.aload_n 0, 1) := by decide +kernel
theorem dX9_paired_39 : decode cX9_paired 39 = .ok (.iconst (-1), 1) := by decide +kernel
theorem dX9_paired_40 : decode cX9_paired 40 = .ok (.putfield 273, 3) := by decide +kernel
theorem dX9_paired_43 : decode cX9_paired 43 = .ok (.aload_n 0, 1) := by decide +kernel
theorem dX9_paired_44 : decode cX9_paired 44 = .ok (.iconst 0, 1) := by decide +kernel
theorem dX9_paired_45 : decode cX9_paired 45 = .ok (.iload_n 1, 1) := by decide +kernel
theorem dX9_paired_46 : decode cX9_paired 46 = .ok (.iconst 0, 1) := by decide +kernel
theorem dX9_paired_47 : decode cX9_paired 47 = .ok (.iconst 0, 1) := by decide +kernel
theorem dX9_paired_48 : decode cX9_paired 48 = .ok (.invokevirtual 279, 3) := by decide +kernel
theorem dX9_paired_51 : decode cX9_paired 51 = .ok (.iload_n 2, 1) := by decide +kernel
theorem dX9_paired_52 : decode cX9_paired 52 = .ok (.ifCond .ge 10, 3) := by decide +kernel
theorem dX9_paired_55 : decode cX9_paired 55 = .ok (.aload_n 0, 1) := by decide +kernel
theorem dX9_paired_56 : decode cX9_paired 56 = .ok (.getfield 273, 3) := by decide +kernel
theorem dX9_paired_59 : decode cX9_paired 59 = .ok (.goto 9, 3) := by decide +kernel
theorem dX9_paired_62 : decode cX9_paired 62 = .ok (.aload_n 0, 1) := by decide +kernel
theorem dX9_paired_63 : decode cX9_paired 63 = .ok (.getfield 74, 3) := by decide +kernel
theorem dX9_paired_66 : decode cX9_paired 66 = .ok (.iload_n 2, 1) := by decide +kernel
theorem dX9_paired_67 : decode cX9_paired 67 = .ok (.iaload, 1) := by decide +kernel
theorem dX9_paired_68 : decode cX9_paired 68 = .ok (.ireturn, 1) := by decide +kernel
theorem dX9_both_0 : decode cX9_both 0 = .ok (.aload_n 0, 1) := by decide +kernel
theorem dX9_both_1 : decode cX9_both 1 = .ok (.getfield 108, 3) := by decide +kernel
theorem dX9_both_4 : decode cX9_both 4 = .ok (.aload_n 0, 1) := by decide +kernel
theorem dX9_both_5 : decode cX9_both 5 = .ok (.getfield 111, 3) := by decide +kernel
theorem dX9_both_8 : decode cX9_both 8 = .ok (.if_icmp .ge 10, 3) := by decide +kernel
theorem dX9_both_11 : decode cX9_both 11 = .ok (.aload_n 0, 1) := by decide +kernel
theorem dX9_both_12 : decode cX9_both 12 = .ok (.getfield 108, 3) := by decide +kernel
theorem dX9_both_15 : decode cX9_both 15 = .ok (.goto 7, 3) := by decide +kernel
theorem dX9_both_18 : decode cX9_both 18 = .ok (.aload_n 0, 1) := by decide +kernel
theorem dX9_both_19 : decode cX9_both 19 = .ok (.getfield 111, 3) := by decide +kernel
theorem dX9_both_22 : decode cX9_both 22 = .ok (.ireturn, 1) := by decide +kernel
theorem dX9_orders_0 : decode cX9_orders 0 = .ok (.iload_n 1, 1) := by decide +kernel
theorem dX9_orders_1 : decode cX9_orders 1 = .ok (.iload_n 2, 1) := by decide +kernel
theorem dX9_orders_2 : decode cX9_orders 2 = .ok (.if_icmp .ne 56, 3) := by decide +kernel
theorem dX9_orders_5 : decode cX9_orders 5 = .ok (.aload_n 0, 1) := by decide +kernel
theorem dX9_orders_6 : decode cX9_orders 6 = .ok (.getfield 273, 3) := by decide +kernel
theorem dX9_orders_9 : decode cX9_orders 9 = .ok (.ifCond .lt 13, 3) := by decide +kernel
theorem dX9_orders_12 : decode cX9_orders 12 = .ok (.iload 4, 2) := by decide +kernel
theorem dX9_orders_14 : decode cX9_orders 14 = .ok (.aload_n 0, 1) := by decide +kernel
theorem dX9_orders_15 : decode cX9_orders 15 = .ok (.getfield 273, 3) := by decide +kernel
theorem dX9_orders_18 : decode cX9_orders 18 = .ok (.if_icmp .lt 4, 3) := by decide +kernel
theorem dX9_orders_21 : decode cX9_orders 21 = .ok (.return_, 1) := by decide +kernel
theorem dX9_orders_22 : decode cX9_orders 22 = .ok (.aload_n 0, 1) := by decide +kernel
theorem dX9_orders_23 : decode cX9_orders 23 = .ok (.iload 4, 2) := by decide +kernel
theorem dX9_orders_25 : decode cX9_orders 25 = .ok (.putfield 273, 3) := by decide +kernel
theorem dX9_orders_28 : decode cX9_orders 28 = .ok (.iconst 0, 1) := by decide +kernel
theorem dX9_orders_29 : decode cX9_orders 29 = .ok (.istore 7, 2) := by decide +kernel
theorem dX9_orders_31 : decode cX9_orders 31 = .ok (.iload 7, 2) := by decide +kernel
theorem dX9_orders_33 : decode cX9_orders 33 = .ok (.iload_n 2, 1) := by decide +kernel
theorem dX9_orders_34 : decode cX9_orders 34 = .ok (.if_icmp .ge 23, 3) := by decide +kernel
theorem dX9_orders_37 : decode cX9_orders 37 = .ok (.aload_n 0, 1) := by decide +kernel
theorem dX9_orders_38 : decode cX9_orders 38 = .ok (.getfield 74, 3) := by decide +kernel
theorem dX9_orders_41 : decode cX9_orders 41 = .ok (.iload 7, 2) := by decide +kernel
theorem dX9_orders_43 : decode cX9_orders 43 = .ok (.aload_n 0, 1) := by decide +kernel
theorem dX9_orders_44 : decode cX9_orders 44 = .ok (.getfield 71, 3) := by decide +kernel
theorem dX9_orders_47 : decode cX9_orders 47 = .ok (.iload 7, 2) := by decide +kernel
theorem dX9_orders_49 : decode cX9_orders 49 = .ok (.iaload, 1) := by decide +kernel
theorem dX9_orders_50 : decode cX9_orders 50 = .ok (.iastore, 1) := by decide +kernel
theorem dX9_orders_51 : decode cX9_orders 51 = .ok (.iinc 7 1, 3) := by decide +kernel
theorem dX9_orders_54 : decode cX9_orders 54 = .ok (.goto (-23), 3) := by decide +kernel
theorem dX9_orders_57 : decode cX9_orders 57 = .ok (.return_, 1) := by decide +kernel
theorem dX9_orders_58 : decode cX9_orders 58 = .ok (.iconst 0, 1) := by decide +kernel
theorem dX9_orders_59 : decode cX9_orders 59 = .ok (.istore 7, 2) := by decide +kernel
theorem dX9_orders_61 : decode cX9_orders 61 = .ok (.iload 7, 2) := by decide +kernel
theorem dX9_orders_63 : decode cX9_orders 63 = .ok (.iload_n 2, 1) := by decide +kernel
theorem dX9_orders_64 : decode cX9_orders 64 = .ok (.if_icmp .ge 116, 3) := by decide +kernel
theorem dX9_orders_67 : decode cX9_orders 67 = .ok (.aload_n 0, 1) := by decide +kernel
theorem dX9_orders_68 : decode cX9_orders 68 = .ok (.iload_n 3, 1) := by decide +kernel
theorem dX9_orders_69 : decode cX9_orders 69 = .ok (.iload 7, 2) := by decide +kernel
theorem dX9_orders_71 : decode cX9_orders 71 = .ok (.invokevirtual 276, 3) := by decide +kernel
theorem dX9_orders_74 : decode cX9_orders 74 = .ok (.ifCond .eq 6, 3) := by decide +kernel
theorem dX9_orders_77 : decode cX9_orders 77 = .ok (.goto 97, 3) := by decide +kernel
theorem dX9_orders_80 : decode cX9_orders 80 = .ok (.aload_n 0, 1) := by decide +kernel
theorem dX9_orders_81 : decode cX9_orders 81 = .ok (.getfield 71, 3) := by decide +kernel
theorem dX9_orders_84 : decode cX9_orders 84 = .ok (.iload_n 1, 1) := by decide +kernel
theorem dX9_orders_85 : decode cX9_orders 85 = .ok (.iload 7, 2) := by decide +kernel
theorem dX9_orders_87 : decode cX9_orders 87 = .ok (.iastore, 1) := by decide +kernel
theorem dX9_orders_88 : decode cX9_orders 88 = .ok (.aload_n 0, 1) := by decide +kernel
theorem dX9_orders_89 : decode cX9_orders 89 = .ok (.getfield 26, 3) := by decide +kernel
theorem dX9_orders_92 : decode cX9_orders 92 = .ok (.iload 7, 2) := by decide +kernel
theorem dX9_orders_94 : decode cX9_orders 94 = .ok (.iaload, 1) := by decide +kernel
theorem dX9_orders_95 : decode cX9_orders 95 = .ok (.istore 8, 2) := by decide +kernel
theorem dX9_orders_97 : decode cX9_orders 97 = .ok (.aload_n 0, 1) := by decide +kernel
theorem dX9_orders_98 : decode cX9_orders 98 = .ok (.iload 7, 2) := by decide +kernel
theorem dX9_orders_100 : decode cX9_orders 100 = .ok (.iload 7, 2) := by decide +kernel
theorem dX9_orders_102 : decode cX9_orders 102 = .ok (.aload_n 0, 1) := by decide +kernel
theorem dX9_orders_103 : decode cX9_orders 103 = .ok (.getfield 35, 3) := by decide +kernel
theorem dX9_orders_106 : decode cX9_orders 106 = .ok (.iload 8, 2) := by decide +kernel
theorem dX9_orders_108 : decode cX9_orders 108 = .ok (.iaload, 1) := by decide +kernel
theorem dX9_orders_109 : decode cX9_orders 109 = .ok (.iload 8, 2) := by decide +kernel
theorem dX9_orders_111 : decode cX9_orders 111 = .ok (.ifCond .ne 8, 3) := by decide +kernel
theorem dX9_orders_114 : decode cX9_orders 114 = .ok (.iload 5, 2) := by decide +kernel
theorem dX9_orders_116 : decode cX9_orders 116 = .ok (.goto 5, 3) := by decide +kernel
theorem dX9_orders_119 : decode cX9_orders 119 = .ok (.iload 6, 2) := by decide +kernel
theorem dX9_orders_121 : decode cX9_orders 121 = .ok (.invokevirtual 257, 3) := by decide +kernel
theorem dX9_orders_124 : decode cX9_orders 124 = .ok (.istore 9, 2) := by decide +kernel
theorem dX9_orders_126 : decode cX9_orders 126 = .ok (.aload_n 0, 1) := by decide +kernel
theorem dX9_orders_127 : decode cX9_orders 127 = .ok (.iload_n 1, 1) := by decide +kernel
theorem dX9_orders_128 : decode cX9_orders 128 = .ok (.iconst 1, 1) := by decide +kernel
theorem dX9_orders_129 : decode cX9_orders 129 = .ok (.iadd, 1) := by decide +kernel
theorem dX9_orders_130 : decode cX9_orders 130 = .ok (.iload_n 2, 1) := by decide +kernel
theorem dX9_orders_131 : decode cX9_orders 131 = .ok (.iload_n 3, 1) := by decide +kernel
theorem dX9_orders_132 : decode cX9_orders 132 = .ok (.iconst 1, 1) := by decide +kernel
theorem dX9_orders_133 : decode cX9_orders 133 = .ok (.iload 7, 2) := by decide +kernel
theorem dX9_orders_135 : decode cX9_orders 135 = .ok (.ishl, 1) := by decide +kernel
theorem dX9_orders_136 : decode cX9_orders 136 = .ok (.ior, 1) := by decide +kernel
theorem dX9_orders_137 : decode cX9_orders 137 = .ok (.iload 4, 2) := by decide +kernel
theorem dX9_orders_139 : decode cX9_orders 139 = .ok (.iload 9, 2) := by decide +kernel
theorem dX9_orders_141 : decode cX9_orders 141 = .ok (.iadd, 1) := by decide +kernel
theorem dX9_orders_142 : decode cX9_orders 142 = .ok (.iload 8, 2) := by decide +kernel
theorem dX9_orders_144 : decode cX9_orders 144 = .ok (.ifCond .ne 10, 3) := by decide +kernel
theorem dX9_orders_147 : decode cX9_orders 147 = .ok (.iload 5, 2) := by decide +kernel
theorem dX9_orders_149 : decode cX9_orders 149 = .ok (.iconst 1, 1) := by decide +kernel
theorem dX9_orders_150 : decode cX9_orders 150 = .ok (.iadd, 1) := by decide +kernel
theorem dX9_orders_151 : decode cX9_orders 151 = .ok (.goto 5, 3) := by decide +kernel
theorem dX9_orders_154 : decode cX9_orders 154 = .ok (.iload 5, 2) := by decide +kernel
theorem dX9_orders_156 : decode cX9_orders 156 = .ok (.iload 8, 2) := by decide +kernel
theorem dX9_orders_158 : decode cX9_orders 158 = .ok (.iconst 1, 1) := by decide +kernel
theorem dX9_orders_159 : decode cX9_orders 159 = .ok (.if_icmp .ne 10, 3) := by decide +kernel
theorem dX9_orders_162 : decode cX9_orders 162 = .ok (.iload 6, 2) := by decide +kernel
theorem dX9_orders_164 : decode cX9_orders 164 = .ok (.iconst 1, 1) := by decide +kernel
theorem dX9_orders_165 : decode cX9_orders 165 = .ok (.iadd, 1) := by decide +kernel
theorem dX9_orders_166 : decode cX9_orders 166 = .ok (.goto 5, 3) := by decide +kernel
theorem dX9_orders_169 : decode cX9_orders 169 = .ok (.iload 6, 2) := by decide +kernel
theorem dX9_orders_171 : decode cX9_orders 171 = .ok (.invokevirtual 283, 3) := by decide +kernel
theorem dX9_orders_174 : decode cX9_orders 174 = .ok (.iinc 7 1, 3) := by decide +kernel
theorem dX9_orders_177 : decode cX9_orders 177 = .ok (.goto (-116), 3) := by decide +kernel
theorem dX9_orders_180 : decode cX9_orders 180 = .ok (.return_, 1) := by decide +kernel
theorem dX9_hardFirst_0 : decode cX9_hardFirst 0 = .ok (.iconst 0, 1) := by decide +kernel
theorem dX9_hardFirst_1 : decode cX9_hardFirst 1 = .ok (.istore_n 2, 1) := by decide +kernel
theorem dX9_hardFirst_2 : decode cX9_hardFirst 2 = .ok (.iconst 0, 1) := by decide +kernel
theorem dX9_hardFirst_3 : decode cX9_hardFirst 3 = .ok (.istore_n 3, 1) := by decide +kernel
theorem dX9_hardFirst_4 : decode cX9_hardFirst 4 = .ok (.aload_n 0, 1) := by decide +kernel
theorem dX9_hardFirst_5 : decode cX9_hardFirst 5 = .ok (.getfield 41, 3) := by decide +kernel
theorem dX9_hardFirst_8 : decode cX9_hardFirst 8 = .ok (.iconst 0, 1) := by decide +kernel
theorem dX9_hardFirst_9 : decode cX9_hardFirst 9 = .ok (.iaload, 1) := by decide +kernel
theorem dX9_hardFirst_10 : decode cX9_hardFirst 10 = .ok (.istore 4, 2) := by decide +kernel
theorem dX9_hardFirst_12 : decode cX9_hardFirst 12 = .ok (.aload_n 0, 1) := by decide +kernel
theorem dX9_hardFirst_13 : decode cX9_hardFirst 13 = .ok (.getfield 41, 3) := by decide +kernel
theorem dX9_hardFirst_16 : decode cX9_hardFirst 16 = .ok (.iconst 1, 1) := by decide +kernel
theorem dX9_hardFirst_17 : decode cX9_hardFirst 17 = .ok (.iaload, 1) := by decide +kernel
theorem dX9_hardFirst_18 : decode cX9_hardFirst 18 = .ok (.istore 5, 2) := by decide +kernel
theorem dX9_hardFirst_20 : decode cX9_hardFirst 20 = .ok (.iconst 0, 1) := by decide +kernel
theorem dX9_hardFirst_21 : decode cX9_hardFirst 21 = .ok (.istore 6, 2) := by decide +kernel
theorem dX9_hardFirst_23 : decode cX9_hardFirst 23 = .ok (.iload 6, 2) := by decide +kernel
theorem dX9_hardFirst_25 : decode cX9_hardFirst 25 = .ok (.iload_n 1, 1) := by decide +kernel
theorem dX9_hardFirst_26 : decode cX9_hardFirst 26 = .ok (.if_icmp .ge 133, 3) := by decide +kernel
theorem dX9_hardFirst_29 : decode cX9_hardFirst 29 = .ok (.iconst (-1), 1) := by decide +kernel
theorem dX9_hardFirst_30 : decode cX9_hardFirst 30 = .ok (.istore 7, 2) := by decide +kernel
theorem dX9_hardFirst_32 : decode cX9_hardFirst 32 = .ok (.iconst 0, 1) := by decide +kernel
theorem dX9_hardFirst_33 : decode cX9_hardFirst 33 = .ok (.istore 8, 2) := by decide +kernel
theorem dX9_hardFirst_35 : decode cX9_hardFirst 35 = .ok (.iload 8, 2) := by decide +kernel
theorem dX9_hardFirst_37 : decode cX9_hardFirst 37 = .ok (.iload_n 1, 1) := by decide +kernel
theorem dX9_hardFirst_38 : decode cX9_hardFirst 38 = .ok (.if_icmp .ge 47, 3) := by decide +kernel
theorem dX9_hardFirst_41 : decode cX9_hardFirst 41 = .ok (.aload_n 0, 1) := by decide +kernel
theorem dX9_hardFirst_42 : decode cX9_hardFirst 42 = .ok (.iload_n 2, 1) := by decide +kernel
theorem dX9_hardFirst_43 : decode cX9_hardFirst 43 = .ok (.iload 8, 2) := by decide +kernel
theorem dX9_hardFirst_45 : decode cX9_hardFirst 45 = .ok (.invokevirtual 276, 3) := by decide +kernel
theorem dX9_hardFirst_48 : decode cX9_hardFirst 48 = .ok (.ifCond .ne 31, 3) := by decide +kernel
theorem dX9_hardFirst_51 : decode cX9_hardFirst 51 = .ok (.iload 7, 2) := by decide +kernel
theorem dX9_hardFirst_53 : decode cX9_hardFirst 53 = .ok (.ifCond .lt 22, 3) := by decide +kernel
theorem dX9_hardFirst_56 : decode cX9_hardFirst 56 = .ok (.aload_n 0, 1) := by decide +kernel
theorem dX9_hardFirst_57 : decode cX9_hardFirst 57 = .ok (.iload 8, 2) := by decide +kernel
theorem dX9_hardFirst_59 : decode cX9_hardFirst 59 = .ok (.iload 8, 2) := by decide +kernel
theorem dX9_hardFirst_61 : decode cX9_hardFirst 61 = .ok (.invokevirtual 264, 3) := by decide +kernel
theorem dX9_hardFirst_64 : decode cX9_hardFirst 64 = .ok (.aload_n 0, 1) := by decide +kernel
theorem dX9_hardFirst_65 : decode cX9_hardFirst 65 = .ok (.iload 7, 2) := by decide +kernel
theorem dX9_hardFirst_67 : decode cX9_hardFirst 67 = .ok (.iload 7, 2) := by decide +kernel
theorem dX9_hardFirst_69 : decode cX9_hardFirst 69 = .ok (.invokevirtual 264, 3) := by decide +kernel
theorem dX9_hardFirst_72 : decode cX9_hardFirst 72 = .ok (.if_icmp .le 7, 3) := by decide +kernel
theorem dX9_hardFirst_75 : decode cX9_hardFirst 75 = .ok (.iload 8, 2) := by decide +kernel
theorem dX9_hardFirst_77 : decode cX9_hardFirst 77 = .ok (.istore 7, 2) := by decide +kernel
theorem dX9_hardFirst_79 : decode cX9_hardFirst 79 = .ok (.iinc 8 1, 3) := by decide +kernel
theorem dX9_hardFirst_82 : decode cX9_hardFirst 82 = .ok (.goto (-47), 3) := by decide +kernel
theorem dX9_hardFirst_85 : decode cX9_hardFirst 85 = .ok (.iload_n 2, 1) := by decide +kernel
theorem dX9_hardFirst_86 : decode cX9_hardFirst 86 = .ok (.iconst 1, 1) := by decide +kernel
theorem dX9_hardFirst_87 : decode cX9_hardFirst 87 = .ok (.iload 7, 2) := by decide +kernel
theorem dX9_hardFirst_89 : decode cX9_hardFirst 89 = .ok (.ishl, 1) := by decide +kernel
theorem dX9_hardFirst_90 : decode cX9_hardFirst 90 = .ok (.ior, 1) := by decide +kernel
theorem dX9_hardFirst_91 : decode cX9_hardFirst 91 = .ok (.istore_n 2, 1) := by decide +kernel
theorem dX9_hardFirst_92 : decode cX9_hardFirst 92 = .ok (.aload_n 0, 1) := by decide +kernel
theorem dX9_hardFirst_93 : decode cX9_hardFirst 93 = .ok (.getfield 26, 3) := by decide +kernel
theorem dX9_hardFirst_96 : decode cX9_hardFirst 96 = .ok (.iload 7, 2) := by decide +kernel
theorem dX9_hardFirst_98 : decode cX9_hardFirst 98 = .ok (.iaload, 1) := by decide +kernel
theorem dX9_hardFirst_99 : decode cX9_hardFirst 99 = .ok (.istore 8, 2) := by decide +kernel
theorem dX9_hardFirst_101 : decode cX9_hardFirst 101 = .ok (.iload_n 3, 1) := by decide +kernel
theorem dX9_hardFirst_102 : decode cX9_hardFirst 102 = .ok (.aload_n 0, 1) := by decide +kernel
theorem dX9_hardFirst_103 : decode cX9_hardFirst 103 = .ok (.iload 7, 2) := by decide +kernel
theorem dX9_hardFirst_105 : decode cX9_hardFirst 105 = .ok (.iload 7, 2) := by decide +kernel
theorem dX9_hardFirst_107 : decode cX9_hardFirst 107 = .ok (.aload_n 0, 1) := by decide +kernel
theorem dX9_hardFirst_108 : decode cX9_hardFirst 108 = .ok (.getfield 35, 3) := by decide +kernel
theorem dX9_hardFirst_111 : decode cX9_hardFirst 111 = .ok (.iload 8, 2) := by decide +kernel
theorem dX9_hardFirst_113 : decode cX9_hardFirst 113 = .ok (.iaload, 1) := by decide +kernel
theorem dX9_hardFirst_114 : decode cX9_hardFirst 114 = .ok (.iload 8, 2) := by decide +kernel
theorem dX9_hardFirst_116 : decode cX9_hardFirst 116 = .ok (.ifCond .ne 8, 3) := by decide +kernel
theorem dX9_hardFirst_119 : decode cX9_hardFirst 119 = .ok (.iload 4, 2) := by decide +kernel
theorem dX9_hardFirst_121 : decode cX9_hardFirst 121 = .ok (.goto 5, 3) := by decide +kernel
theorem dX9_hardFirst_124 : decode cX9_hardFirst 124 = .ok (.iload 5, 2) := by decide +kernel
theorem dX9_hardFirst_126 : decode cX9_hardFirst 126 = .ok (.invokevirtual 257, 3) := by decide +kernel
theorem dX9_hardFirst_129 : decode cX9_hardFirst 129 = .ok (.iadd, 1) := by decide +kernel
theorem dX9_hardFirst_130 : decode cX9_hardFirst 130 = .ok (.istore_n 3, 1) := by decide +kernel
theorem dX9_hardFirst_131 : decode cX9_hardFirst 131 = .ok (.iload 4, 2) := by decide +kernel
theorem dX9_hardFirst_133 : decode cX9_hardFirst 133 = .ok (.iload 8, 2) := by decide +kernel
theorem dX9_hardFirst_135 : decode cX9_hardFirst 135 = .ok (.ifCond .ne 7, 3) := by decide +kernel
theorem dX9_hardFirst_138 : decode cX9_hardFirst 138 = .ok (.iconst 1, 1) := by decide +kernel
theorem dX9_hardFirst_139 : decode cX9_hardFirst 139 = .ok (.goto 4, 3) := by decide +kernel
theorem dX9_hardFirst_142 : decode cX9_hardFirst 142 = .ok (.iconst 0, 1) := by decide +kernel
theorem dX9_hardFirst_143 : decode cX9_hardFirst 143 = .ok (.iadd, 1) := by decide +kernel
theorem dX9_hardFirst_144 : decode cX9_hardFirst 144 = .ok (.istore 4, 2) := by decide +kernel
theorem dX9_hardFirst_146 : decode cX9_hardFirst 146 = .ok (.iload 5, 2) := by decide +kernel
theorem dX9_hardFirst_148 : decode cX9_hardFirst 148 = .ok (.iload 8, 2) := by decide +kernel
theorem dX9_hardFirst_150 : decode cX9_hardFirst 150 = .ok (.iadd, 1) := by decide +kernel
theorem dX9_hardFirst_151 : decode cX9_hardFirst 151 = .ok (.istore 5, 2) := by decide +kernel
theorem dX9_hardFirst_153 : decode cX9_hardFirst 153 = .ok (.iinc 6 1, 3) := by decide +kernel
theorem dX9_hardFirst_156 : decode cX9_hardFirst 156 = .ok (.goto (-133), 3) := by decide +kernel
theorem dX9_hardFirst_159 : decode cX9_hardFirst 159 = .ok (.iload_n 3, 1) := by decide +kernel
theorem dX9_hardFirst_160 : decode cX9_hardFirst 160 = .ok (.ireturn, 1) := by decide +kernel
theorem dX9_order_0 : decode cX9_order 0 = .ok (.aload_n 0, 1) := by decide +kernel
theorem dX9_order_1 : decode cX9_order 1 = .ok (.invokevirtual 287, 3) := by decide +kernel
theorem dX9_order_4 : decode cX9_order 4 = .ok (.istore_n 2, 1) := by decide +kernel
theorem dX9_order_5 : decode cX9_order 5 = .ok (.iload_n 1, 1) := by decide +kernel
theorem dX9_order_6 : decode cX9_order 6 = .ok (.bipush (-2), 2) := by decide +kernel
theorem dX9_order_8 : decode cX9_order 8 = .ok (.if_icmp .ge 5, 3) := by decide +kernel
theorem dX9_order_11 : decode cX9_order 11 = .ok (.iconst (-1), 1) := by decide +kernel
theorem dX9_order_12 : decode cX9_order 12 = .ok (.ireturn, 1) := by decide +kernel
theorem dX9_order_13 : decode cX9_order 13 = .ok (.iload_n 1, 1) := by decide +kernel
theorem dX9_order_14 : decode cX9_order 14 = .ok (.iload_n 2, 1) := by decide +kernel
theorem dX9_order_15 : decode cX9_order 15 = .ok (.if_icmp .lt 6, 3) := by decide +kernel
theorem dX9_order_18 : decode cX9_order 18 = .ok (.bipush (-2), 2) := by decide +kernel
theorem dX9_order_20 : decode cX9_order 20 = .ok (.ireturn, 1) := by decide +kernel
theorem dX9_order_21 : decode cX9_order 21 = .ok (.aload_n 0, 1) := by decide +kernel
theorem dX9_order_22 : decode cX9_order 22 = .ok (.iconst (-1), 1) := by decide +kernel
theorem dX9_order_23 : decode cX9_order 23 = .ok (.putfield 273, 3) := by decide +kernel
theorem dX9_order_26 : decode cX9_order 26 = .ok (.aload_n 0, 1) := by decide +kernel
theorem dX9_order_27 : decode cX9_order 27 = .ok (.iconst 0, 1) := by decide +kernel
theorem dX9_order_28 : decode cX9_order 28 = .ok (.iload_n 2, 1) := by decide +kernel
theorem dX9_order_29 : decode cX9_order 29 = .ok (.iconst 0, 1) := by decide +kernel
theorem dX9_order_30 : decode cX9_order 30 = .ok (.iconst 0, 1) := by decide +kernel
theorem dX9_order_31 : decode cX9_order 31 = .ok (.aload_n 0, 1) := by decide +kernel
theorem dX9_order_32 : decode cX9_order 32 = .ok (.getfield 41, 3) := by decide +kernel
theorem dX9_order_35 : decode cX9_order 35 = .ok (.iconst 0, 1) := by decide +kernel
theorem dX9_order_36 : decode cX9_order 36 = .ok (.iaload, 1) := by decide +kernel
theorem dX9_order_37 : decode cX9_order 37 = .ok (.aload_n 0, 1) := by decide +kernel
theorem dX9_order_38 : decode cX9_order 38 = .ok (.getfield 41, 3) := by decide +kernel
theorem dX9_order_41 : decode cX9_order 41 = .ok (.iconst 1, 1) := by decide +kernel
theorem dX9_order_42 : decode cX9_order 42 = .ok (.iaload, 1) := by decide +kernel
theorem dX9_order_43 : decode cX9_order 43 = .ok (.invokevirtual 283, 3) := by decide +kernel
theorem dX9_order_46 : decode cX9_order 46 = .ok (.iload_n 1, 1) := by decide +kernel
theorem dX9_order_47 : decode cX9_order 47 = .ok (.iconst (-1), 1) := by decide +kernel
theorem dX9_order_48 : decode cX9_order 48 = .ok (.if_icmp .ne 10, 3) := by decide +kernel
theorem dX9_order_51 : decode cX9_order 51 = .ok (.aload_n 0, 1) := by decide +kernel
theorem dX9_order_52 : decode cX9_order 52 = .ok (.getfield 273, 3) := by decide +kernel
theorem dX9_order_55 : decode cX9_order 55 = .ok (.goto 28, 3) := by decide +kernel
theorem dX9_order_58 : decode cX9_order 58 = .ok (.iload_n 1, 1) := by decide +kernel
theorem dX9_order_59 : decode cX9_order 59 = .ok (.bipush (-2), 2) := by decide +kernel
theorem dX9_order_61 : decode cX9_order 61 = .ok (.if_icmp .ne 16, 3) := by decide +kernel
theorem dX9_order_64 : decode cX9_order 64 = .ok (.aload_n 0, 1) := by decide +kernel
theorem dX9_order_65 : decode cX9_order 65 = .ok (.iload_n 2, 1) := by decide +kernel
theorem dX9_order_66 : decode cX9_order 66 = .ok (.invokevirtual 290, 3) := by decide +kernel
theorem dX9_order_69 : decode cX9_order 69 = .ok (.aload_n 0, 1) := by decide +kernel
theorem dX9_order_70 : decode cX9_order 70 = .ok (.getfield 273, 3) := by decide +kernel
theorem dX9_order_73 : decode cX9_order 73 = .ok (.isub, 1) := by decide +kernel
theorem dX9_order_74 : decode cX9_order 74 = .ok (.goto 9, 3) := by decide +kernel
theorem dX9_order_77 : decode cX9_order 77 = .ok (.aload_n 0, 1) := by decide +kernel
theorem dX9_order_78 : decode cX9_order 78 = .ok (.getfield 74, 3) := by decide +kernel
theorem dX9_order_81 : decode cX9_order 81 = .ok (.iload_n 1, 1) := by decide +kernel
theorem dX9_order_82 : decode cX9_order 82 = .ok (.iaload, 1) := by decide +kernel
theorem dX9_order_83 : decode cX9_order 83 = .ok (.ireturn, 1) := by decide +kernel
theorem dX9_common_0 : decode cX9_common 0 = .ok (.lload_n 3, 1) := by decide +kernel
theorem dX9_common_1 : decode cX9_common 1 = .ok (.lconst 0, 1) := by decide +kernel
theorem dX9_common_2 : decode cX9_common 2 = .ok (.lcmp, 1) := by decide +kernel
theorem dX9_common_3 : decode cX9_common 3 = .ok (.ifCond .ne 7, 3) := by decide +kernel
theorem dX9_common_6 : decode cX9_common 6 = .ok (.lload_n 1, 1) := by decide +kernel
theorem dX9_common_7 : decode cX9_common 7 = .ok (.goto 11, 3) := by decide +kernel
theorem dX9_common_10 : decode cX9_common 10 = .ok (.aload_n 0, 1) := by decide +kernel
theorem dX9_common_11 : decode cX9_common 11 = .ok (.lload_n 3, 1) := by decide +kernel
theorem dX9_common_12 : decode cX9_common 12 = .ok (.lload_n 1, 1) := by decide +kernel
theorem dX9_common_13 : decode cX9_common 13 = .ok (.lload_n 3, 1) := by decide +kernel
theorem dX9_common_14 : decode cX9_common 14 = .ok (.lrem, 1) := by decide +kernel
theorem dX9_common_15 : decode cX9_common 15 = .ok (.invokevirtual 293, 3) := by decide +kernel
theorem dX9_common_18 : decode cX9_common 18 = .ok (.lreturn, 1) := by decide +kernel
theorem dX9_lowest_0 : decode cX9_lowest 0 = .ok (.aload_n 0, 1) := by decide +kernel
theorem dX9_lowest_1 : decode cX9_lowest 1 = .ok (.lload_n 1, 1) := by decide +kernel
theorem dX9_lowest_2 : decode cX9_lowest 2 = .ok (.lload_n 3, 1) := by decide +kernel
theorem dX9_lowest_3 : decode cX9_lowest 3 = .ok (.invokevirtual 293, 3) := by decide +kernel
theorem dX9_lowest_6 : decode cX9_lowest 6 = .ok (.lstore 6, 2) := by decide +kernel
theorem dX9_lowest_8 : decode cX9_lowest 8 = .ok (.iload 5, 2) := by decide +kernel
theorem dX9_lowest_10 : decode cX9_lowest 10 = .ok (.ifCond .ne 7, 3) := by decide +kernel
theorem dX9_lowest_13 : decode cX9_lowest 13 = .ok (.lload_n 1, 1) := by decide +kernel
theorem dX9_lowest_14 : decode cX9_lowest 14 = .ok (.goto 4, 3) := by decide +kernel
theorem dX9_lowest_17 : decode cX9_lowest 17 = .ok (.lload_n 3, 1) := by decide +kernel
theorem dX9_lowest_18 : decode cX9_lowest 18 = .ok (.lload 6, 2) := by decide +kernel
theorem dX9_lowest_20 : decode cX9_lowest 20 = .ok (.ldiv, 1) := by decide +kernel
theorem dX9_lowest_21 : decode cX9_lowest 21 = .ok (.lreturn, 1) := by decide +kernel
theorem dX9_dropped_0 : decode cX9_dropped 0 = .ok (.aload_n 0, 1) := by decide +kernel
theorem dX9_dropped_1 : decode cX9_dropped 1 = .ok (.iload_n 1, 1) := by decide +kernel
theorem dX9_dropped_2 : decode cX9_dropped 2 = .ok (.invokevirtual 261, 3) := by decide +kernel
theorem dX9_dropped_5 : decode cX9_dropped 5 = .ok (.ifCond .eq 13, 3) := by decide +kernel
theorem dX9_dropped_8 : decode cX9_dropped 8 = .ok (.aload_n 0, 1) := by decide +kernel
theorem dX9_dropped_9 : decode cX9_dropped 9 = .ok (.iload_n 2, 1) := by decide +kernel
theorem dX9_dropped_10 : decode cX9_dropped 10 = .ok (.iconst 0, 1) := by decide +kernel
theorem dX9_dropped_11 : decode cX9_dropped 11 = .ok (.iconst 1, 1) := by decide +kernel
theorem dX9_dropped_12 : decode cX9_dropped 12 = .ok (.invokevirtual 114, 3) := by decide +kernel
theorem dX9_dropped_15 : decode cX9_dropped 15 = .ok (.ifCond .ne 7, 3) := by decide +kernel
theorem dX9_dropped_18 : decode cX9_dropped 18 = .ok (.ldc2_w 299, 3) := by decide +kernel
theorem dX9_dropped_21 : decode cX9_dropped 21 = .ok (.lreturn, 1) := by decide +kernel
theorem dX9_dropped_22 : decode cX9_dropped 22 = .ok (.aload_n 0, 1) := by decide +kernel
theorem dX9_dropped_23 : decode cX9_dropped 23 = .ok (.ldc2_w 301, 3) := by decide +kernel
theorem dX9_dropped_26 : decode cX9_dropped 26 = .ok (.aload_n 0, 1) := by decide +kernel
theorem dX9_dropped_27 : decode cX9_dropped 27 = .ok (.iload_n 1, 1) := by decide +kernel
theorem dX9_dropped_28 : decode cX9_dropped 28 = .ok (.bipush 10, 2) := by decide +kernel
theorem dX9_dropped_30 : decode cX9_dropped 30 = .ok (.idiv, 1) := by decide +kernel
theorem dX9_dropped_31 : decode cX9_dropped 31 = .ok (.iload_n 1, 1) := by decide +kernel
theorem dX9_dropped_32 : decode cX9_dropped 32 = .ok (.bipush 10, 2) := by decide +kernel
theorem dX9_dropped_34 : decode cX9_dropped 34 = .ok (.irem, 1) := by decide +kernel
theorem dX9_dropped_35 : decode cX9_dropped 35 = .ok (.invokevirtual 264, 3) := by decide +kernel
theorem dX9_dropped_38 : decode cX9_dropped 38 = .ok (.i2l, 1) := by decide +kernel
theorem dX9_dropped_39 : decode cX9_dropped 39 = .ok (.lmul, 1) := by decide +kernel
theorem dX9_dropped_40 : decode cX9_dropped 40 = .ok (.aload_n 0, 1) := by decide +kernel
theorem dX9_dropped_41 : decode cX9_dropped 41 = .ok (.getfield 139, 3) := by decide +kernel
theorem dX9_dropped_44 : decode cX9_dropped 44 = .ok (.aload_n 0, 1) := by decide +kernel
theorem dX9_dropped_45 : decode cX9_dropped 45 = .ok (.getfield 7, 3) := by decide +kernel
theorem dX9_dropped_48 : decode cX9_dropped 48 = .ok (.imul, 1) := by decide +kernel
theorem dX9_dropped_49 : decode cX9_dropped 49 = .ok (.i2l, 1) := by decide +kernel
theorem dX9_dropped_50 : decode cX9_dropped 50 = .ok (.ladd, 1) := by decide +kernel
theorem dX9_dropped_51 : decode cX9_dropped 51 = .ok (.ldc2_w 301, 3) := by decide +kernel
theorem dX9_dropped_54 : decode cX9_dropped 54 = .ok (.aload_n 0, 1) := by decide +kernel
theorem dX9_dropped_55 : decode cX9_dropped 55 = .ok (.getfield 139, 3) := by decide +kernel
theorem dX9_dropped_58 : decode cX9_dropped 58 = .ok (.i2l, 1) := by decide +kernel
theorem dX9_dropped_59 : decode cX9_dropped 59 = .ok (.lsub, 1) := by decide +kernel
theorem dX9_dropped_60 : decode cX9_dropped 60 = .ok (.iload_n 2, 1) := by decide +kernel
theorem dX9_dropped_61 : decode cX9_dropped 61 = .ok (.invokevirtual 303, 3) := by decide +kernel
theorem dX9_dropped_64 : decode cX9_dropped 64 = .ok (.lreturn, 1) := by decide +kernel
theorem dX9_by_0 : decode cX9_by 0 = .ok (.aload_n 0, 1) := by decide +kernel
theorem dX9_by_1 : decode cX9_by 1 = .ok (.iload_n 1, 1) := by decide +kernel
theorem dX9_by_2 : decode cX9_by 2 = .ok (.invokevirtual 261, 3) := by decide +kernel
theorem dX9_by_5 : decode cX9_by 5 = .ok (.ifCond .eq 25, 3) := by decide +kernel
theorem dX9_by_8 : decode cX9_by 8 = .ok (.aload_n 0, 1) := by decide +kernel
theorem dX9_by_9 : decode cX9_by 9 = .ok (.iload_n 2, 1) := by decide +kernel
theorem dX9_by_10 : decode cX9_by 10 = .ok (.iconst 0, 1) := by decide +kernel
theorem dX9_by_11 : decode cX9_by 11 = .ok (.sipush 9999, 3) := by decide +kernel
theorem dX9_by_14 : decode cX9_by 14 = .ok (.invokevirtual 114, 3) := by decide +kernel
theorem dX9_by_17 : decode cX9_by 17 = .ok (.ifCond .eq 13, 3) := by decide +kernel
theorem dX9_by_20 : decode cX9_by 20 = .ok (.aload_n 0, 1) := by decide +kernel
theorem dX9_by_21 : decode cX9_by 21 = .ok (.iload_n 3, 1) := by decide +kernel
theorem dX9_by_22 : decode cX9_by 22 = .ok (.iconst 0, 1) := by decide +kernel
theorem dX9_by_23 : decode cX9_by 23 = .ok (.iconst 1, 1) := by decide +kernel
theorem dX9_by_24 : decode cX9_by 24 = .ok (.invokevirtual 114, 3) := by decide +kernel
theorem dX9_by_27 : decode cX9_by 27 = .ok (.ifCond .ne 7, 3) := by decide +kernel
theorem dX9_by_30 : decode cX9_by 30 = .ok (.ldc2_w 299, 3) := by decide +kernel
theorem dX9_by_33 : decode cX9_by 33 = .ok (.lreturn, 1) := by decide +kernel
theorem dX9_by_34 : decode cX9_by 34 = .ok (.aload_n 0, 1) := by decide +kernel
theorem dX9_by_35 : decode cX9_by 35 = .ok (.iload_n 1, 1) := by decide +kernel
theorem dX9_by_36 : decode cX9_by 36 = .ok (.bipush 10, 2) := by decide +kernel
theorem dX9_by_38 : decode cX9_by 38 = .ok (.idiv, 1) := by decide +kernel
theorem dX9_by_39 : decode cX9_by 39 = .ok (.iload_n 1, 1) := by decide +kernel
theorem dX9_by_40 : decode cX9_by 40 = .ok (.bipush 10, 2) := by decide +kernel
theorem dX9_by_42 : decode cX9_by 42 = .ok (.irem, 1) := by decide +kernel
theorem dX9_by_43 : decode cX9_by 43 = .ok (.invokevirtual 264, 3) := by decide +kernel
theorem dX9_by_46 : decode cX9_by 46 = .ok (.istore 4, 2) := by decide +kernel
theorem dX9_by_48 : decode cX9_by 48 = .ok (.lconst 1, 1) := by decide +kernel
theorem dX9_by_49 : decode cX9_by 49 = .ok (.lstore 5, 2) := by decide +kernel
theorem dX9_by_51 : decode cX9_by 51 = .ok (.lconst 1, 1) := by decide +kernel
theorem dX9_by_52 : decode cX9_by 52 = .ok (.lstore 7, 2) := by decide +kernel
theorem dX9_by_54 : decode cX9_by 54 = .ok (.iconst 1, 1) := by decide +kernel
theorem dX9_by_55 : decode cX9_by 55 = .ok (.istore 9, 2) := by decide +kernel
theorem dX9_by_57 : decode cX9_by 57 = .ok (.iload 9, 2) := by decide +kernel
theorem dX9_by_59 : decode cX9_by 59 = .ok (.bipush 6, 2) := by decide +kernel
theorem dX9_by_61 : decode cX9_by 61 = .ok (.if_icmp .gt 46, 3) := by decide +kernel
theorem dX9_by_64 : decode cX9_by 64 = .ok (.iload 9, 2) := by decide +kernel
theorem dX9_by_66 : decode cX9_by 66 = .ok (.iload 4, 2) := by decide +kernel
theorem dX9_by_68 : decode cX9_by 68 = .ok (.imul, 1) := by decide +kernel
theorem dX9_by_69 : decode cX9_by 69 = .ok (.iload 9, 2) := by decide +kernel
theorem dX9_by_71 : decode cX9_by 71 = .ok (.iconst 1, 1) := by decide +kernel
theorem dX9_by_72 : decode cX9_by 72 = .ok (.isub, 1) := by decide +kernel
theorem dX9_by_73 : decode cX9_by 73 = .ok (.aload_n 0, 1) := by decide +kernel
theorem dX9_by_74 : decode cX9_by 74 = .ok (.getfield 7, 3) := by decide +kernel
theorem dX9_by_77 : decode cX9_by 77 = .ok (.imul, 1) := by decide +kernel
theorem dX9_by_78 : decode cX9_by 78 = .ok (.iadd, 1) := by decide +kernel
theorem dX9_by_79 : decode cX9_by 79 = .ok (.iload_n 2, 1) := by decide +kernel
theorem dX9_by_80 : decode cX9_by 80 = .ok (.if_icmp .gt 27, 3) := by decide +kernel
theorem dX9_by_83 : decode cX9_by 83 = .ok (.lload 5, 2) := by decide +kernel
theorem dX9_by_85 : decode cX9_by 85 = .ok (.ldc2_w 301, 3) := by decide +kernel
theorem dX9_by_88 : decode cX9_by 88 = .ok (.lmul, 1) := by decide +kernel
theorem dX9_by_89 : decode cX9_by 89 = .ok (.lstore 5, 2) := by decide +kernel
theorem dX9_by_91 : decode cX9_by 91 = .ok (.lload 7, 2) := by decide +kernel
theorem dX9_by_93 : decode cX9_by 93 = .ok (.aload_n 0, 1) := by decide +kernel
theorem dX9_by_94 : decode cX9_by 94 = .ok (.getfield 139, 3) := by decide +kernel
theorem dX9_by_97 : decode cX9_by 97 = .ok (.i2l, 1) := by decide +kernel
theorem dX9_by_98 : decode cX9_by 98 = .ok (.lmul, 1) := by decide +kernel
theorem dX9_by_99 : decode cX9_by 99 = .ok (.lstore 7, 2) := by decide +kernel
theorem dX9_by_101 : decode cX9_by 101 = .ok (.iinc 9 1, 3) := by decide +kernel
theorem dX9_by_104 : decode cX9_by 104 = .ok (.goto (-47), 3) := by decide +kernel
theorem dX9_by_107 : decode cX9_by 107 = .ok (.aload_n 0, 1) := by decide +kernel
theorem dX9_by_108 : decode cX9_by 108 = .ok (.lload 5, 2) := by decide +kernel
theorem dX9_by_110 : decode cX9_by 110 = .ok (.lload 7, 2) := by decide +kernel
theorem dX9_by_112 : decode cX9_by 112 = .ok (.lsub, 1) := by decide +kernel
theorem dX9_by_113 : decode cX9_by 113 = .ok (.lload 5, 2) := by decide +kernel
theorem dX9_by_115 : decode cX9_by 115 = .ok (.iload_n 3, 1) := by decide +kernel
theorem dX9_by_116 : decode cX9_by 116 = .ok (.invokevirtual 303, 3) := by decide +kernel
theorem dX9_by_119 : decode cX9_by 119 = .ok (.lreturn, 1) := by decide +kernel
theorem dX9_practice_0 : decode cX9_practice 0 = .ok (.aload_n 0, 1) := by decide +kernel
theorem dX9_practice_1 : decode cX9_practice 1 = .ok (.iload_n 1, 1) := by decide +kernel
theorem dX9_practice_2 : decode cX9_practice 2 = .ok (.invokevirtual 261, 3) := by decide +kernel
theorem dX9_practice_5 : decode cX9_practice 5 = .ok (.ifCond .eq 25, 3) := by decide +kernel
theorem dX9_practice_8 : decode cX9_practice 8 = .ok (.aload_n 0, 1) := by decide +kernel
theorem dX9_practice_9 : decode cX9_practice 9 = .ok (.iload_n 2, 1) := by decide +kernel
theorem dX9_practice_10 : decode cX9_practice 10 = .ok (.iconst 1, 1) := by decide +kernel
theorem dX9_practice_11 : decode cX9_practice 11 = .ok (.sipush 999, 3) := by decide +kernel
theorem dX9_practice_14 : decode cX9_practice 14 = .ok (.invokevirtual 114, 3) := by decide +kernel
theorem dX9_practice_17 : decode cX9_practice 17 = .ok (.ifCond .eq 13, 3) := by decide +kernel
theorem dX9_practice_20 : decode cX9_practice 20 = .ok (.aload_n 0, 1) := by decide +kernel
theorem dX9_practice_21 : decode cX9_practice 21 = .ok (.iload_n 3, 1) := by decide +kernel
theorem dX9_practice_22 : decode cX9_practice 22 = .ok (.iconst 0, 1) := by decide +kernel
theorem dX9_practice_23 : decode cX9_practice 23 = .ok (.iconst 1, 1) := by decide +kernel
theorem dX9_practice_24 : decode cX9_practice 24 = .ok (.invokevirtual 114, 3) := by decide +kernel
theorem dX9_practice_27 : decode cX9_practice 27 = .ok (.ifCond .ne 5, 3) := by decide +kernel
theorem dX9_practice_30 : decode cX9_practice 30 = .ok (.iconst (-1), 1) := by decide +kernel
theorem dX9_practice_31 : decode cX9_practice 31 = .ok (.ireturn, 1) := by decide +kernel
theorem dX9_practice_32 : decode cX9_practice 32 = .ok (.iload_n 1, 1) := by decide +kernel
theorem dX9_practice_33 : decode cX9_practice 33 = .ok (.bipush 10, 2) := by decide +kernel
theorem dX9_practice_35 : decode cX9_practice 35 = .ok (.idiv, 1) := by decide +kernel
theorem dX9_practice_36 : decode cX9_practice 36 = .ok (.istore 4, 2) := by decide +kernel
theorem dX9_practice_38 : decode cX9_practice 38 = .ok (.iload_n 1, 1) := by decide +kernel
theorem dX9_practice_39 : decode cX9_practice 39 = .ok (.bipush 10, 2) := by decide +kernel
theorem dX9_practice_41 : decode cX9_practice 41 = .ok (.irem, 1) := by decide +kernel
theorem dX9_practice_42 : decode cX9_practice 42 = .ok (.istore 5, 2) := by decide +kernel
theorem dX9_practice_44 : decode cX9_practice 44 = .ok (.aload_n 0, 1) := by decide +kernel
theorem dX9_practice_45 : decode cX9_practice 45 = .ok (.getfield 26, 3) := by decide +kernel
theorem dX9_practice_48 : decode cX9_practice 48 = .ok (.iload 5, 2) := by decide +kernel
theorem dX9_practice_50 : decode cX9_practice 50 = .ok (.iaload, 1) := by decide +kernel
theorem dX9_practice_51 : decode cX9_practice 51 = .ok (.istore 6, 2) := by decide +kernel
theorem dX9_practice_53 : decode cX9_practice 53 = .ok (.iconst 0, 1) := by decide +kernel
theorem dX9_practice_54 : decode cX9_practice 54 = .ok (.istore 7, 2) := by decide +kernel
theorem dX9_practice_56 : decode cX9_practice 56 = .ok (.iload 7, 2) := by decide +kernel
theorem dX9_practice_58 : decode cX9_practice 58 = .ok (.iload_n 3, 1) := by decide +kernel
theorem dX9_practice_59 : decode cX9_practice 59 = .ok (.ifCond .ne 8, 3) := by decide +kernel
theorem dX9_practice_62 : decode cX9_practice 62 = .ok (.bipush 99, 2) := by decide +kernel
theorem dX9_practice_64 : decode cX9_practice 64 = .ok (.goto 5, 3) := by decide +kernel
theorem dX9_practice_67 : decode cX9_practice 67 = .ok (.bipush 9, 2) := by decide +kernel
theorem dX9_practice_69 : decode cX9_practice 69 = .ok (.if_icmp .gt 65, 3) := by decide +kernel
theorem dX9_practice_72 : decode cX9_practice 72 = .ok (.iload_n 3, 1) := by decide +kernel
theorem dX9_practice_73 : decode cX9_practice 73 = .ok (.ifCond .ne 31, 3) := by decide +kernel
theorem dX9_practice_76 : decode cX9_practice 76 = .ok (.aload_n 0, 1) := by decide +kernel
theorem dX9_practice_77 : decode cX9_practice 77 = .ok (.iload 4, 2) := by decide +kernel
theorem dX9_practice_79 : decode cX9_practice 79 = .ok (.iload 5, 2) := by decide +kernel
theorem dX9_practice_81 : decode cX9_practice 81 = .ok (.aload_n 0, 1) := by decide +kernel
theorem dX9_practice_82 : decode cX9_practice 82 = .ok (.getfield 35, 3) := by decide +kernel
theorem dX9_practice_85 : decode cX9_practice 85 = .ok (.iload 6, 2) := by decide +kernel
theorem dX9_practice_87 : decode cX9_practice 87 = .ok (.iaload, 1) := by decide +kernel
theorem dX9_practice_88 : decode cX9_practice 88 = .ok (.aload_n 0, 1) := by decide +kernel
theorem dX9_practice_89 : decode cX9_practice 89 = .ok (.getfield 41, 3) := by decide +kernel
theorem dX9_practice_92 : decode cX9_practice 92 = .ok (.iload 6, 2) := by decide +kernel
theorem dX9_practice_94 : decode cX9_practice 94 = .ok (.iaload, 1) := by decide +kernel
theorem dX9_practice_95 : decode cX9_practice 95 = .ok (.iload 7, 2) := by decide +kernel
theorem dX9_practice_97 : decode cX9_practice 97 = .ok (.iadd, 1) := by decide +kernel
theorem dX9_practice_98 : decode cX9_practice 98 = .ok (.invokevirtual 257, 3) := by decide +kernel
theorem dX9_practice_101 : decode cX9_practice 101 = .ok (.goto 20, 3) := by decide +kernel
theorem dX9_practice_104 : decode cX9_practice 104 = .ok (.aload_n 0, 1) := by decide +kernel
theorem dX9_practice_105 : decode cX9_practice 105 = .ok (.iload 4, 2) := by decide +kernel
theorem dX9_practice_107 : decode cX9_practice 107 = .ok (.iload 5, 2) := by decide +kernel
theorem dX9_practice_109 : decode cX9_practice 109 = .ok (.iload 7, 2) := by decide +kernel
theorem dX9_practice_111 : decode cX9_practice 111 = .ok (.aload_n 0, 1) := by decide +kernel
theorem dX9_practice_112 : decode cX9_practice 112 = .ok (.getfield 41, 3) := by decide +kernel
theorem dX9_practice_115 : decode cX9_practice 115 = .ok (.iload 6, 2) := by decide +kernel
theorem dX9_practice_117 : decode cX9_practice 117 = .ok (.iaload, 1) := by decide +kernel
theorem dX9_practice_118 : decode cX9_practice 118 = .ok (.invokevirtual 257, 3) := by decide +kernel
theorem dX9_practice_121 : decode cX9_practice 121 = .ok (.iload_n 2, 1) := by decide +kernel
theorem dX9_practice_122 : decode cX9_practice 122 = .ok (.if_icmp .gt 6, 3) := by decide +kernel
theorem dX9_practice_125 : decode cX9_practice 125 = .ok (.iload 7, 2) := by decide +kernel
theorem dX9_practice_127 : decode cX9_practice 127 = .ok (.ireturn, 1) := by decide +kernel
theorem dX9_practice_128 : decode cX9_practice 128 = .ok (.iinc 7 1, 3) := by decide +kernel
theorem dX9_practice_131 : decode cX9_practice 131 = .ok (.goto (-75), 3) := by decide +kernel
theorem dX9_practice_134 : decode cX9_practice 134 = .ok (.bipush (-2), 2) := by decide +kernel
theorem dX9_practice_136 : decode cX9_practice 136 = .ok (.ireturn, 1) := by decide +kernel
theorem dX9_nextSpot_0 : decode cX9_nextSpot 0 = .ok (.iconst (-1), 1) := by decide +kernel
theorem dX9_nextSpot_1 : decode cX9_nextSpot 1 = .ok (.istore_n 2, 1) := by decide +kernel
theorem dX9_nextSpot_2 : decode cX9_nextSpot 2 = .ok (.iconst 0, 1) := by decide +kernel
theorem dX9_nextSpot_3 : decode cX9_nextSpot 3 = .ok (.istore_n 3, 1) := by decide +kernel
theorem dX9_nextSpot_4 : decode cX9_nextSpot 4 = .ok (.iload_n 3, 1) := by decide +kernel
theorem dX9_nextSpot_5 : decode cX9_nextSpot 5 = .ok (.aload_n 0, 1) := by decide +kernel
theorem dX9_nextSpot_6 : decode cX9_nextSpot 6 = .ok (.getfield 130, 3) := by decide +kernel
theorem dX9_nextSpot_9 : decode cX9_nextSpot 9 = .ok (.if_icmp .ge 53, 3) := by decide +kernel
theorem dX9_nextSpot_12 : decode cX9_nextSpot 12 = .ok (.aload_n 0, 1) := by decide +kernel
theorem dX9_nextSpot_13 : decode cX9_nextSpot 13 = .ok (.iload_n 1, 1) := by decide +kernel
theorem dX9_nextSpot_14 : decode cX9_nextSpot 14 = .ok (.iload_n 3, 1) := by decide +kernel
theorem dX9_nextSpot_15 : decode cX9_nextSpot 15 = .ok (.invokevirtual 276, 3) := by decide +kernel
theorem dX9_nextSpot_18 : decode cX9_nextSpot 18 = .ok (.ifCond .ne 38, 3) := by decide +kernel
theorem dX9_nextSpot_21 : decode cX9_nextSpot 21 = .ok (.iload_n 2, 1) := by decide +kernel
theorem dX9_nextSpot_22 : decode cX9_nextSpot 22 = .ok (.ifCond .lt 32, 3) := by decide +kernel
theorem dX9_nextSpot_25 : decode cX9_nextSpot 25 = .ok (.aload_n 0, 1) := by decide +kernel
theorem dX9_nextSpot_26 : decode cX9_nextSpot 26 = .ok (.getfield 47, 3) := by decide +kernel
theorem dX9_nextSpot_29 : decode cX9_nextSpot 29 = .ok (.iload_n 3, 1) := by decide +kernel
theorem dX9_nextSpot_30 : decode cX9_nextSpot 30 = .ok (.iaload, 1) := by decide +kernel
theorem dX9_nextSpot_31 : decode cX9_nextSpot 31 = .ok (.aload_n 0, 1) := by decide +kernel
theorem dX9_nextSpot_32 : decode cX9_nextSpot 32 = .ok (.getfield 44, 3) := by decide +kernel
theorem dX9_nextSpot_35 : decode cX9_nextSpot 35 = .ok (.iload_n 2, 1) := by decide +kernel
theorem dX9_nextSpot_36 : decode cX9_nextSpot 36 = .ok (.iaload, 1) := by decide +kernel
theorem dX9_nextSpot_37 : decode cX9_nextSpot 37 = .ok (.imul, 1) := by decide +kernel
theorem dX9_nextSpot_38 : decode cX9_nextSpot 38 = .ok (.aload_n 0, 1) := by decide +kernel
theorem dX9_nextSpot_39 : decode cX9_nextSpot 39 = .ok (.getfield 47, 3) := by decide +kernel
theorem dX9_nextSpot_42 : decode cX9_nextSpot 42 = .ok (.iload_n 2, 1) := by decide +kernel
theorem dX9_nextSpot_43 : decode cX9_nextSpot 43 = .ok (.iaload, 1) := by decide +kernel
theorem dX9_nextSpot_44 : decode cX9_nextSpot 44 = .ok (.aload_n 0, 1) := by decide +kernel
theorem dX9_nextSpot_45 : decode cX9_nextSpot 45 = .ok (.getfield 44, 3) := by decide +kernel
theorem dX9_nextSpot_48 : decode cX9_nextSpot 48 = .ok (.iload_n 3, 1) := by decide +kernel
theorem dX9_nextSpot_49 : decode cX9_nextSpot 49 = .ok (.iaload, 1) := by decide +kernel
theorem dX9_nextSpot_50 : decode cX9_nextSpot 50 = .ok (.imul, 1) := by decide +kernel
theorem dX9_nextSpot_51 : decode cX9_nextSpot 51 = .ok (.if_icmp .ge 5, 3) := by decide +kernel
theorem dX9_nextSpot_54 : decode cX9_nextSpot 54 = .ok (.iload_n 3, 1) := by decide +kernel
theorem dX9_nextSpot_55 : decode cX9_nextSpot 55 = .ok (.istore_n 2, 1) := by decide +kernel
theorem dX9_nextSpot_56 : decode cX9_nextSpot 56 = .ok (.iinc 3 1, 3) := by decide +kernel
theorem dX9_nextSpot_59 : decode cX9_nextSpot 59 = .ok (.goto (-55), 3) := by decide +kernel
theorem dX9_nextSpot_62 : decode cX9_nextSpot 62 = .ok (.iload_n 2, 1) := by decide +kernel
theorem dX9_nextSpot_63 : decode cX9_nextSpot 63 = .ok (.ireturn, 1) := by decide +kernel
theorem dX9_search_0 : decode cX9_search 0 = .ok (.iload_n 1, 1) := by decide +kernel
theorem dX9_search_1 : decode cX9_search 1 = .ok (.bipush (-2), 2) := by decide +kernel
theorem dX9_search_3 : decode cX9_search 3 = .ok (.if_icmp .ge 7, 3) := by decide +kernel
theorem dX9_search_6 : decode cX9_search 6 = .ok (.ldc2_w 299, 3) := by decide +kernel
theorem dX9_search_9 : decode cX9_search 9 = .ok (.lreturn, 1) := by decide +kernel
theorem dX9_search_10 : decode cX9_search 10 = .ok (.aload_n 0, 1) := by decide +kernel
theorem dX9_search_11 : decode cX9_search 11 = .ok (.getfield 130, 3) := by decide +kernel
theorem dX9_search_14 : decode cX9_search 14 = .ok (.ifCond .eq 11, 3) := by decide +kernel
theorem dX9_search_17 : decode cX9_search 17 = .ok (.iload_n 1, 1) := by decide +kernel
theorem dX9_search_18 : decode cX9_search 18 = .ok (.aload_n 0, 1) := by decide +kernel
theorem dX9_search_19 : decode cX9_search 19 = .ok (.getfield 130, 3) := by decide +kernel
theorem dX9_search_22 : decode cX9_search 22 = .ok (.if_icmp .lt 7, 3) := by decide +kernel
theorem dX9_search_25 : decode cX9_search 25 = .ok (.ldc2_w 307, 3) := by decide +kernel
theorem dX9_search_28 : decode cX9_search 28 = .ok (.lreturn, 1) := by decide +kernel
theorem dX9_search_29 : decode cX9_search 29 = .ok (.iconst 0, 1) := by decide +kernel
theorem dX9_search_30 : decode cX9_search 30 = .ok (.istore_n 2, 1) := by decide +kernel
theorem dX9_search_31 : decode cX9_search 31 = .ok (.iconst 0, 1) := by decide +kernel
theorem dX9_search_32 : decode cX9_search 32 = .ok (.istore_n 3, 1) := by decide +kernel
theorem dX9_search_33 : decode cX9_search 33 = .ok (.lconst 0, 1) := by decide +kernel
theorem dX9_search_34 : decode cX9_search 34 = .ok (.lstore 4, 2) := by decide +kernel
theorem dX9_search_36 : decode cX9_search 36 = .ok (.lconst 0, 1) := by decide +kernel
theorem dX9_search_37 : decode cX9_search 37 = .ok (.lstore 6, 2) := by decide +kernel
theorem dX9_search_39 : decode cX9_search 39 = .ok (.iconst 0, 1) := by decide +kernel
theorem dX9_search_40 : decode cX9_search 40 = .ok (.istore 8, 2) := by decide +kernel
theorem dX9_search_42 : decode cX9_search 42 = .ok (.iload 8, 2) := by decide +kernel
theorem dX9_search_44 : decode cX9_search 44 = .ok (.aload_n 0, 1) := by decide +kernel
theorem dX9_search_45 : decode cX9_search 45 = .ok (.getfield 130, 3) := by decide +kernel
theorem dX9_search_48 : decode cX9_search 48 = .ok (.if_icmp .ge 72, 3) := by decide +kernel
theorem dX9_search_51 : decode cX9_search 51 = .ok (.aload_n 0, 1) := by decide +kernel
theorem dX9_search_52 : decode cX9_search 52 = .ok (.iload_n 2, 1) := by decide +kernel
theorem dX9_search_53 : decode cX9_search 53 = .ok (.invokevirtual 309, 3) := by decide +kernel
theorem dX9_search_56 : decode cX9_search 56 = .ok (.istore 9, 2) := by decide +kernel
theorem dX9_search_58 : decode cX9_search 58 = .ok (.iload 8, 2) := by decide +kernel
theorem dX9_search_60 : decode cX9_search 60 = .ok (.iload_n 1, 1) := by decide +kernel
theorem dX9_search_61 : decode cX9_search 61 = .ok (.if_icmp .ne 7, 3) := by decide +kernel
theorem dX9_search_64 : decode cX9_search 64 = .ok (.iload 9, 2) := by decide +kernel
theorem dX9_search_66 : decode cX9_search 66 = .ok (.i2l, 1) := by decide +kernel
theorem dX9_search_67 : decode cX9_search 67 = .ok (.lreturn, 1) := by decide +kernel
theorem dX9_search_68 : decode cX9_search 68 = .ok (.iload_n 2, 1) := by decide +kernel
theorem dX9_search_69 : decode cX9_search 69 = .ok (.iconst 1, 1) := by decide +kernel
theorem dX9_search_70 : decode cX9_search 70 = .ok (.iload 9, 2) := by decide +kernel
theorem dX9_search_72 : decode cX9_search 72 = .ok (.ishl, 1) := by decide +kernel
theorem dX9_search_73 : decode cX9_search 73 = .ok (.ior, 1) := by decide +kernel
theorem dX9_search_74 : decode cX9_search 74 = .ok (.istore_n 2, 1) := by decide +kernel
theorem dX9_search_75 : decode cX9_search 75 = .ok (.iload_n 3, 1) := by decide +kernel
theorem dX9_search_76 : decode cX9_search 76 = .ok (.aload_n 0, 1) := by decide +kernel
theorem dX9_search_77 : decode cX9_search 77 = .ok (.getfield 47, 3) := by decide +kernel
theorem dX9_search_80 : decode cX9_search 80 = .ok (.iload 9, 2) := by decide +kernel
theorem dX9_search_82 : decode cX9_search 82 = .ok (.iaload, 1) := by decide +kernel
theorem dX9_search_83 : decode cX9_search 83 = .ok (.iadd, 1) := by decide +kernel
theorem dX9_search_84 : decode cX9_search 84 = .ok (.istore_n 3, 1) := by decide +kernel
theorem dX9_search_85 : decode cX9_search 85 = .ok (.lload 4, 2) := by decide +kernel
theorem dX9_search_87 : decode cX9_search 87 = .ok (.aload_n 0, 1) := by decide +kernel
theorem dX9_search_88 : decode cX9_search 88 = .ok (.getfield 44, 3) := by decide +kernel
theorem dX9_search_91 : decode cX9_search 91 = .ok (.iload 9, 2) := by decide +kernel
theorem dX9_search_93 : decode cX9_search 93 = .ok (.iaload, 1) := by decide +kernel
theorem dX9_search_94 : decode cX9_search 94 = .ok (.i2l, 1) := by decide +kernel
theorem dX9_search_95 : decode cX9_search 95 = .ok (.iload_n 3, 1) := by decide +kernel
theorem dX9_search_96 : decode cX9_search 96 = .ok (.i2l, 1) := by decide +kernel
theorem dX9_search_97 : decode cX9_search 97 = .ok (.lmul, 1) := by decide +kernel
theorem dX9_search_98 : decode cX9_search 98 = .ok (.ladd, 1) := by decide +kernel
theorem dX9_search_99 : decode cX9_search 99 = .ok (.lstore 4, 2) := by decide +kernel
theorem dX9_search_101 : decode cX9_search 101 = .ok (.lload 6, 2) := by decide +kernel
theorem dX9_search_103 : decode cX9_search 103 = .ok (.aload_n 0, 1) := by decide +kernel
theorem dX9_search_104 : decode cX9_search 104 = .ok (.getfield 44, 3) := by decide +kernel
theorem dX9_search_107 : decode cX9_search 107 = .ok (.iload 9, 2) := by decide +kernel
theorem dX9_search_109 : decode cX9_search 109 = .ok (.iaload, 1) := by decide +kernel
theorem dX9_search_110 : decode cX9_search 110 = .ok (.i2l, 1) := by decide +kernel
theorem dX9_search_111 : decode cX9_search 111 = .ok (.ladd, 1) := by decide +kernel
theorem dX9_search_112 : decode cX9_search 112 = .ok (.lstore 6, 2) := by decide +kernel
theorem dX9_search_114 : decode cX9_search 114 = .ok (.iinc 8 1, 3) := by decide +kernel
theorem dX9_search_117 : decode cX9_search 117 = .ok (.goto (-75), 3) := by decide +kernel
theorem dX9_search_120 : decode cX9_search 120 = .ok (.aload_n 0, 1) := by decide +kernel
theorem dX9_search_121 : decode cX9_search 121 = .ok (.lload 4, 2) := by decide +kernel
theorem dX9_search_123 : decode cX9_search 123 = .ok (.lload 6, 2) := by decide +kernel
theorem dX9_search_125 : decode cX9_search 125 = .ok (.iload_n 1, 1) := by decide +kernel
theorem dX9_search_126 : decode cX9_search 126 = .ok (.iconst 2, 1) := by decide +kernel
theorem dX9_search_127 : decode cX9_search 127 = .ok (.iadd, 1) := by decide +kernel
theorem dX9_search_128 : decode cX9_search 128 = .ok (.invokevirtual 303, 3) := by decide +kernel
theorem dX9_search_131 : decode cX9_search 131 = .ok (.lreturn, 1) := by decide +kernel
theorem dX9_told_0 : decode cX9_told 0 = .ok (.aload_n 0, 1) := by decide +kernel
theorem dX9_told_1 : decode cX9_told 1 = .ok (.iload_n 1, 1) := by decide +kernel
theorem dX9_told_2 : decode cX9_told 2 = .ok (.invokevirtual 122, 3) := by decide +kernel
theorem dX9_told_5 : decode cX9_told 5 = .ok (.ifCond .eq 32, 3) := by decide +kernel
theorem dX9_told_8 : decode cX9_told 8 = .ok (.aload_n 0, 1) := by decide +kernel
theorem dX9_told_9 : decode cX9_told 9 = .ok (.iload_n 2, 1) := by decide +kernel
theorem dX9_told_10 : decode cX9_told 10 = .ok (.iconst 0, 1) := by decide +kernel
theorem dX9_told_11 : decode cX9_told 11 = .ok (.iconst 1, 1) := by decide +kernel
theorem dX9_told_12 : decode cX9_told 12 = .ok (.invokevirtual 114, 3) := by decide +kernel
theorem dX9_told_15 : decode cX9_told 15 = .ok (.ifCond .eq 22, 3) := by decide +kernel
theorem dX9_told_18 : decode cX9_told 18 = .ok (.aload_n 0, 1) := by decide +kernel
theorem dX9_told_19 : decode cX9_told 19 = .ok (.getfield 89, 3) := by decide +kernel
theorem dX9_told_22 : decode cX9_told 22 = .ok (.iload_n 1, 1) := by decide +kernel
theorem dX9_told_23 : decode cX9_told 23 = .ok (.iaload, 1) := by decide +kernel
theorem dX9_told_24 : decode cX9_told 24 = .ok (.iconst 2, 1) := by decide +kernel
theorem dX9_told_25 : decode cX9_told 25 = .ok (.if_icmp .ne 12, 3) := by decide +kernel
theorem dX9_told_28 : decode cX9_told 28 = .ok (.aload_n 0, 1) := by decide +kernel
theorem dX9_told_29 : decode cX9_told 29 = .ok (.getfield 92, 3) := by decide +kernel
theorem dX9_told_32 : decode cX9_told 32 = .ok (.iload_n 1, 1) := by decide +kernel
theorem dX9_told_33 : decode cX9_told 33 = .ok (.iaload, 1) := by decide +kernel
theorem dX9_told_34 : decode cX9_told 34 = .ok (.ifCond .eq 7, 3) := by decide +kernel
theorem dX9_told_37 : decode cX9_told 37 = .ok (.ldc2_w 299, 3) := by decide +kernel
theorem dX9_told_40 : decode cX9_told 40 = .ok (.lreturn, 1) := by decide +kernel
theorem dX9_told_41 : decode cX9_told 41 = .ok (.aload_n 0, 1) := by decide +kernel
theorem dX9_told_42 : decode cX9_told 42 = .ok (.getfield 130, 3) := by decide +kernel
theorem dX9_told_45 : decode cX9_told 45 = .ok (.ifCond .ne 7, 3) := by decide +kernel
theorem dX9_told_48 : decode cX9_told 48 = .ok (.ldc2_w 307, 3) := by decide +kernel
theorem dX9_told_51 : decode cX9_told 51 = .ok (.lreturn, 1) := by decide +kernel
theorem dX9_told_52 : decode cX9_told 52 = .ok (.iconst 0, 1) := by decide +kernel
theorem dX9_told_53 : decode cX9_told 53 = .ok (.istore_n 3, 1) := by decide +kernel
theorem dX9_told_54 : decode cX9_told 54 = .ok (.iconst 0, 1) := by decide +kernel
theorem dX9_told_55 : decode cX9_told 55 = .ok (.istore 4, 2) := by decide +kernel
theorem dX9_told_57 : decode cX9_told 57 = .ok (.lconst 0, 1) := by decide +kernel
theorem dX9_told_58 : decode cX9_told 58 = .ok (.lstore 5, 2) := by decide +kernel
theorem dX9_told_60 : decode cX9_told 60 = .ok (.lconst 0, 1) := by decide +kernel
theorem dX9_told_61 : decode cX9_told 61 = .ok (.lstore 7, 2) := by decide +kernel
theorem dX9_told_63 : decode cX9_told 63 = .ok (.iconst 0, 1) := by decide +kernel
theorem dX9_told_64 : decode cX9_told 64 = .ok (.istore 9, 2) := by decide +kernel
theorem dX9_told_66 : decode cX9_told 66 = .ok (.iload 9, 2) := by decide +kernel
theorem dX9_told_68 : decode cX9_told 68 = .ok (.aload_n 0, 1) := by decide +kernel
theorem dX9_told_69 : decode cX9_told 69 = .ok (.getfield 95, 3) := by decide +kernel
theorem dX9_told_72 : decode cX9_told 72 = .ok (.iload_n 1, 1) := by decide +kernel
theorem dX9_told_73 : decode cX9_told 73 = .ok (.iaload, 1) := by decide +kernel
theorem dX9_told_74 : decode cX9_told 74 = .ok (.if_icmp .ge 83, 3) := by decide +kernel
theorem dX9_told_77 : decode cX9_told 77 = .ok (.aload_n 0, 1) := by decide +kernel
theorem dX9_told_78 : decode cX9_told 78 = .ok (.iload_n 1, 1) := by decide +kernel
theorem dX9_told_79 : decode cX9_told 79 = .ok (.iload 9, 2) := by decide +kernel
theorem dX9_told_81 : decode cX9_told 81 = .ok (.invokevirtual 126, 3) := by decide +kernel
theorem dX9_told_84 : decode cX9_told 84 = .ok (.istore 10, 2) := by decide +kernel
theorem dX9_told_86 : decode cX9_told 86 = .ok (.aload_n 0, 1) := by decide +kernel
theorem dX9_told_87 : decode cX9_told 87 = .ok (.iload 10, 2) := by decide +kernel
theorem dX9_told_89 : decode cX9_told 89 = .ok (.iconst 0, 1) := by decide +kernel
theorem dX9_told_90 : decode cX9_told 90 = .ok (.aload_n 0, 1) := by decide +kernel
theorem dX9_told_91 : decode cX9_told 91 = .ok (.getfield 130, 3) := by decide +kernel
theorem dX9_told_94 : decode cX9_told 94 = .ok (.iconst 1, 1) := by decide +kernel
theorem dX9_told_95 : decode cX9_told 95 = .ok (.isub, 1) := by decide +kernel
theorem dX9_told_96 : decode cX9_told 96 = .ok (.invokevirtual 114, 3) := by decide +kernel
theorem dX9_told_99 : decode cX9_told 99 = .ok (.ifCond .eq 58, 3) := by decide +kernel
theorem dX9_told_102 : decode cX9_told 102 = .ok (.aload_n 0, 1) := by decide +kernel
theorem dX9_told_103 : decode cX9_told 103 = .ok (.iload_n 3, 1) := by decide +kernel
theorem dX9_told_104 : decode cX9_told 104 = .ok (.iload 10, 2) := by decide +kernel
theorem dX9_told_106 : decode cX9_told 106 = .ok (.invokevirtual 276, 3) := by decide +kernel
theorem dX9_told_109 : decode cX9_told 109 = .ok (.ifCond .eq 6, 3) := by decide +kernel
theorem dX9_told_112 : decode cX9_told 112 = .ok (.goto 45, 3) := by decide +kernel
theorem dX9_told_115 : decode cX9_told 115 = .ok (.iload_n 3, 1) := by decide +kernel
theorem dX9_told_116 : decode cX9_told 116 = .ok (.iconst 1, 1) := by decide +kernel
theorem dX9_told_117 : decode cX9_told 117 = .ok (.iload 10, 2) := by decide +kernel
theorem dX9_told_119 : decode cX9_told 119 = .ok (.ishl, 1) := by decide +kernel
theorem dX9_told_120 : decode cX9_told 120 = .ok (.ior, 1) := by decide +kernel
theorem dX9_told_121 : decode cX9_told 121 = .ok (.istore_n 3, 1) := by decide +kernel
theorem dX9_told_122 : decode cX9_told 122 = .ok (.iload 4, 2) := by decide +kernel
theorem dX9_told_124 : decode cX9_told 124 = .ok (.aload_n 0, 1) := by decide +kernel
theorem dX9_told_125 : decode cX9_told 125 = .ok (.getfield 47, 3) := by decide +kernel
theorem dX9_told_128 : decode cX9_told 128 = .ok (.iload 10, 2) := by decide +kernel
theorem dX9_told_130 : decode cX9_told 130 = .ok (.iaload, 1) := by decide +kernel
theorem dX9_told_131 : decode cX9_told 131 = .ok (.iadd, 1) := by decide +kernel
theorem dX9_told_132 : decode cX9_told 132 = .ok (.istore 4, 2) := by decide +kernel
theorem dX9_told_134 : decode cX9_told 134 = .ok (.lload 5, 2) := by decide +kernel
theorem dX9_told_136 : decode cX9_told 136 = .ok (.aload_n 0, 1) := by decide +kernel
theorem dX9_told_137 : decode cX9_told 137 = .ok (.getfield 44, 3) := by decide +kernel
theorem dX9_told_140 : decode cX9_told 140 = .ok (.iload 10, 2) := by decide +kernel
theorem dX9_told_142 : decode cX9_told 142 = .ok (.iaload, 1) := by decide +kernel
theorem dX9_told_143 : decode cX9_told 143 = .ok (.i2l, 1) := by decide +kernel
theorem dX9_told_144 : decode cX9_told 144 = .ok (.iload 4, 2) := by decide +kernel
theorem dX9_told_146 : decode cX9_told 146 = .ok (.i2l, 1) := by decide +kernel
theorem dX9_told_147 : decode cX9_told 147 = .ok (.lmul, 1) := by decide +kernel
theorem dX9_told_148 : decode cX9_told 148 = .ok (.ladd, 1) := by decide +kernel
theorem dX9_told_149 : decode cX9_told 149 = .ok (.lstore 5, 2) := by decide +kernel
theorem dX9_told_151 : decode cX9_told 151 = .ok (.iinc 9 1, 3) := by decide +kernel
theorem dX9_told_154 : decode cX9_told 154 = .ok (.goto (-88), 3) := by decide +kernel
theorem dX9_told_157 : decode cX9_told 157 = .ok (.iconst 0, 1) := by decide +kernel
theorem dX9_told_158 : decode cX9_told 158 = .ok (.istore 9, 2) := by decide +kernel
theorem dX9_told_160 : decode cX9_told 160 = .ok (.iload 9, 2) := by decide +kernel
theorem dX9_told_162 : decode cX9_told 162 = .ok (.aload_n 0, 1) := by decide +kernel
theorem dX9_told_163 : decode cX9_told 163 = .ok (.getfield 130, 3) := by decide +kernel
theorem dX9_told_166 : decode cX9_told 166 = .ok (.if_icmp .ge 49, 3) := by decide +kernel
theorem dX9_told_169 : decode cX9_told 169 = .ok (.lload 7, 2) := by decide +kernel
theorem dX9_told_171 : decode cX9_told 171 = .ok (.aload_n 0, 1) := by decide +kernel
theorem dX9_told_172 : decode cX9_told 172 = .ok (.getfield 44, 3) := by decide +kernel
theorem dX9_told_175 : decode cX9_told 175 = .ok (.iload 9, 2) := by decide +kernel
theorem dX9_told_177 : decode cX9_told 177 = .ok (.iaload, 1) := by decide +kernel
theorem dX9_told_178 : decode cX9_told 178 = .ok (.i2l, 1) := by decide +kernel
theorem dX9_told_179 : decode cX9_told 179 = .ok (.ladd, 1) := by decide +kernel
theorem dX9_told_180 : decode cX9_told 180 = .ok (.lstore 7, 2) := by decide +kernel
theorem dX9_told_182 : decode cX9_told 182 = .ok (.aload_n 0, 1) := by decide +kernel
theorem dX9_told_183 : decode cX9_told 183 = .ok (.iload_n 3, 1) := by decide +kernel
theorem dX9_told_184 : decode cX9_told 184 = .ok (.iload 9, 2) := by decide +kernel
theorem dX9_told_186 : decode cX9_told 186 = .ok (.invokevirtual 276, 3) := by decide +kernel
theorem dX9_told_189 : decode cX9_told 189 = .ok (.ifCond .ne 20, 3) := by decide +kernel
theorem dX9_told_192 : decode cX9_told 192 = .ok (.lload 5, 2) := by decide +kernel
theorem dX9_told_194 : decode cX9_told 194 = .ok (.ldc2_w 312, 3) := by decide +kernel
theorem dX9_told_197 : decode cX9_told 197 = .ok (.aload_n 0, 1) := by decide +kernel
theorem dX9_told_198 : decode cX9_told 198 = .ok (.getfield 44, 3) := by decide +kernel
theorem dX9_told_201 : decode cX9_told 201 = .ok (.iload 9, 2) := by decide +kernel
theorem dX9_told_203 : decode cX9_told 203 = .ok (.iaload, 1) := by decide +kernel
theorem dX9_told_204 : decode cX9_told 204 = .ok (.i2l, 1) := by decide +kernel
theorem dX9_told_205 : decode cX9_told 205 = .ok (.lmul, 1) := by decide +kernel
theorem dX9_told_206 : decode cX9_told 206 = .ok (.ladd, 1) := by decide +kernel
theorem dX9_told_207 : decode cX9_told 207 = .ok (.lstore 5, 2) := by decide +kernel
theorem dX9_told_209 : decode cX9_told 209 = .ok (.iinc 9 1, 3) := by decide +kernel
theorem dX9_told_212 : decode cX9_told 212 = .ok (.goto (-52), 3) := by decide +kernel
theorem dX9_told_215 : decode cX9_told 215 = .ok (.aload_n 0, 1) := by decide +kernel
theorem dX9_told_216 : decode cX9_told 216 = .ok (.lload 5, 2) := by decide +kernel
theorem dX9_told_218 : decode cX9_told 218 = .ok (.lload 7, 2) := by decide +kernel
theorem dX9_told_220 : decode cX9_told 220 = .ok (.iload_n 2, 1) := by decide +kernel
theorem dX9_told_221 : decode cX9_told 221 = .ok (.invokevirtual 303, 3) := by decide +kernel
theorem dX9_told_224 : decode cX9_told 224 = .ok (.lreturn, 1) := by decide +kernel
theorem dX9_asked_0 : decode cX9_asked 0 = .ok (.aload_n 0, 1) := by decide +kernel
theorem dX9_asked_1 : decode cX9_asked 1 = .ok (.iload_n 1, 1) := by decide +kernel
theorem dX9_asked_2 : decode cX9_asked 2 = .ok (.iconst 0, 1) := by decide +kernel
theorem dX9_asked_3 : decode cX9_asked 3 = .ok (.aload_n 0, 1) := by decide +kernel
theorem dX9_asked_4 : decode cX9_asked 4 = .ok (.invokevirtual 287, 3) := by decide +kernel
theorem dX9_asked_7 : decode cX9_asked 7 = .ok (.invokevirtual 114, 3) := by decide +kernel
theorem dX9_asked_10 : decode cX9_asked 10 = .ok (.ifCond .eq 25, 3) := by decide +kernel
theorem dX9_asked_13 : decode cX9_asked 13 = .ok (.aload_n 0, 1) := by decide +kernel
theorem dX9_asked_14 : decode cX9_asked 14 = .ok (.iload_n 2, 1) := by decide +kernel
theorem dX9_asked_15 : decode cX9_asked 15 = .ok (.iconst 0, 1) := by decide +kernel
theorem dX9_asked_16 : decode cX9_asked 16 = .ok (.ldc_w 314, 3) := by decide +kernel
theorem dX9_asked_19 : decode cX9_asked 19 = .ok (.invokevirtual 114, 3) := by decide +kernel
theorem dX9_asked_22 : decode cX9_asked 22 = .ok (.ifCond .eq 13, 3) := by decide +kernel
theorem dX9_asked_25 : decode cX9_asked 25 = .ok (.aload_n 0, 1) := by decide +kernel
theorem dX9_asked_26 : decode cX9_asked 26 = .ok (.iload_n 3, 1) := by decide +kernel
theorem dX9_asked_27 : decode cX9_asked 27 = .ok (.iconst 0, 1) := by decide +kernel
theorem dX9_asked_28 : decode cX9_asked 28 = .ok (.iconst 1, 1) := by decide +kernel
theorem dX9_asked_29 : decode cX9_asked 29 = .ok (.invokevirtual 114, 3) := by decide +kernel
theorem dX9_asked_32 : decode cX9_asked 32 = .ok (.ifCond .ne 5, 3) := by decide +kernel
theorem dX9_asked_35 : decode cX9_asked 35 = .ok (.iconst (-1), 1) := by decide +kernel
theorem dX9_asked_36 : decode cX9_asked 36 = .ok (.ireturn, 1) := by decide +kernel
theorem dX9_asked_37 : decode cX9_asked 37 = .ok (.iload_n 2, 1) := by decide +kernel
theorem dX9_asked_38 : decode cX9_asked 38 = .ok (.sipush 10000, 3) := by decide +kernel
theorem dX9_asked_41 : decode cX9_asked 41 = .ok (.idiv, 1) := by decide +kernel
theorem dX9_asked_42 : decode cX9_asked 42 = .ok (.istore 4, 2) := by decide +kernel
theorem dX9_asked_44 : decode cX9_asked 44 = .ok (.iload_n 2, 1) := by decide +kernel
theorem dX9_asked_45 : decode cX9_asked 45 = .ok (.sipush 10000, 3) := by decide +kernel
theorem dX9_asked_48 : decode cX9_asked 48 = .ok (.irem, 1) := by decide +kernel
theorem dX9_asked_49 : decode cX9_asked 49 = .ok (.istore 5, 2) := by decide +kernel
theorem dX9_asked_51 : decode cX9_asked 51 = .ok (.iconst 0, 1) := by decide +kernel
theorem dX9_asked_52 : decode cX9_asked 52 = .ok (.istore 6, 2) := by decide +kernel
theorem dX9_asked_54 : decode cX9_asked 54 = .ok (.iload 5, 2) := by decide +kernel
theorem dX9_asked_56 : decode cX9_asked 56 = .ok (.istore 7, 2) := by decide +kernel
theorem dX9_asked_58 : decode cX9_asked 58 = .ok (.iconst 0, 1) := by decide +kernel
theorem dX9_asked_59 : decode cX9_asked 59 = .ok (.istore 8, 2) := by decide +kernel
theorem dX9_asked_61 : decode cX9_asked 61 = .ok (.iload 8, 2) := by decide +kernel
theorem dX9_asked_63 : decode cX9_asked 63 = .ok (.iload_n 1, 1) := by decide +kernel
theorem dX9_asked_64 : decode cX9_asked 64 = .ok (.if_icmp .ge 59, 3) := by decide +kernel
theorem dX9_asked_67 : decode cX9_asked 67 = .ok (.iload 6, 2) := by decide +kernel
theorem dX9_asked_69 : decode cX9_asked 69 = .ok (.iload 6, 2) := by decide +kernel
theorem dX9_asked_71 : decode cX9_asked 71 = .ok (.iload 5, 2) := by decide +kernel
theorem dX9_asked_73 : decode cX9_asked 73 = .ok (.if_icmp .ge 14, 3) := by decide +kernel
theorem dX9_asked_76 : decode cX9_asked 76 = .ok (.aload_n 0, 1) := by decide +kernel
theorem dX9_asked_77 : decode cX9_asked 77 = .ok (.iload 8, 2) := by decide +kernel
theorem dX9_asked_79 : decode cX9_asked 79 = .ok (.iload 8, 2) := by decide +kernel
theorem dX9_asked_81 : decode cX9_asked 81 = .ok (.invokevirtual 264, 3) := by decide +kernel
theorem dX9_asked_84 : decode cX9_asked 84 = .ok (.goto 14, 3) := by decide +kernel
theorem dX9_asked_87 : decode cX9_asked 87 = .ok (.aload_n 0, 1) := by decide +kernel
theorem dX9_asked_88 : decode cX9_asked 88 = .ok (.iload 8, 2) := by decide +kernel
theorem dX9_asked_90 : decode cX9_asked 90 = .ok (.iload 8, 2) := by decide +kernel
theorem dX9_asked_92 : decode cX9_asked 92 = .ok (.iload 4, 2) := by decide +kernel
theorem dX9_asked_94 : decode cX9_asked 94 = .ok (.iconst 0, 1) := by decide +kernel
theorem dX9_asked_95 : decode cX9_asked 95 = .ok (.invokevirtual 257, 3) := by decide +kernel
theorem dX9_asked_98 : decode cX9_asked 98 = .ok (.iadd, 1) := by decide +kernel
theorem dX9_asked_99 : decode cX9_asked 99 = .ok (.istore 6, 2) := by decide +kernel
theorem dX9_asked_101 : decode cX9_asked 101 = .ok (.iload 7, 2) := by decide +kernel
theorem dX9_asked_103 : decode cX9_asked 103 = .ok (.aload_n 0, 1) := by decide +kernel
theorem dX9_asked_104 : decode cX9_asked 104 = .ok (.iload 8, 2) := by decide +kernel
theorem dX9_asked_106 : decode cX9_asked 106 = .ok (.iload 8, 2) := by decide +kernel
theorem dX9_asked_108 : decode cX9_asked 108 = .ok (.iload 4, 2) := by decide +kernel
theorem dX9_asked_110 : decode cX9_asked 110 = .ok (.iconst 0, 1) := by decide +kernel
theorem dX9_asked_111 : decode cX9_asked 111 = .ok (.invokevirtual 257, 3) := by decide +kernel
theorem dX9_asked_114 : decode cX9_asked 114 = .ok (.iadd, 1) := by decide +kernel
theorem dX9_asked_115 : decode cX9_asked 115 = .ok (.istore 7, 2) := by decide +kernel
theorem dX9_asked_117 : decode cX9_asked 117 = .ok (.iinc 8 1, 3) := by decide +kernel
theorem dX9_asked_120 : decode cX9_asked 120 = .ok (.goto (-59), 3) := by decide +kernel
theorem dX9_asked_123 : decode cX9_asked 123 = .ok (.iload_n 3, 1) := by decide +kernel
theorem dX9_asked_124 : decode cX9_asked 124 = .ok (.ifCond .ne 8, 3) := by decide +kernel
theorem dX9_asked_127 : decode cX9_asked 127 = .ok (.iload 6, 2) := by decide +kernel
theorem dX9_asked_129 : decode cX9_asked 129 = .ok (.goto 19, 3) := by decide +kernel
theorem dX9_asked_132 : decode cX9_asked 132 = .ok (.aload_n 0, 1) := by decide +kernel
theorem dX9_asked_133 : decode cX9_asked 133 = .ok (.iload 7, 2) := by decide +kernel
theorem dX9_asked_135 : decode cX9_asked 135 = .ok (.iload 6, 2) := by decide +kernel
theorem dX9_asked_137 : decode cX9_asked 137 = .ok (.if_icmp .ge 7, 3) := by decide +kernel
theorem dX9_asked_140 : decode cX9_asked 140 = .ok (.iconst 1, 1) := by decide +kernel
theorem dX9_asked_141 : decode cX9_asked 141 = .ok (.goto 4, 3) := by decide +kernel
theorem dX9_asked_144 : decode cX9_asked 144 = .ok (.iconst 0, 1) := by decide +kernel
theorem dX9_asked_145 : decode cX9_asked 145 = .ok (.invokevirtual 228, 3) := by decide +kernel
theorem dX9_asked_148 : decode cX9_asked 148 = .ok (.ireturn, 1) := by decide +kernel
theorem dX9_alone_0 : decode cX9_alone 0 = .ok (.iconst 0, 1) := by decide +kernel
theorem dX9_alone_1 : decode cX9_alone 1 = .ok (.istore_n 2, 1) := by decide +kernel
theorem dX9_alone_2 : decode cX9_alone 2 = .ok (.iconst 0, 1) := by decide +kernel
theorem dX9_alone_3 : decode cX9_alone 3 = .ok (.istore_n 3, 1) := by decide +kernel
theorem dX9_alone_4 : decode cX9_alone 4 = .ok (.iload_n 3, 1) := by decide +kernel
theorem dX9_alone_5 : decode cX9_alone 5 = .ok (.iconst 2, 1) := by decide +kernel
theorem dX9_alone_6 : decode cX9_alone 6 = .ok (.if_icmp .ge 39, 3) := by decide +kernel
theorem dX9_alone_9 : decode cX9_alone 9 = .ok (.iload_n 2, 1) := by decide +kernel
theorem dX9_alone_10 : decode cX9_alone 10 = .ok (.aload_n 0, 1) := by decide +kernel
theorem dX9_alone_11 : decode cX9_alone 11 = .ok (.iload_n 3, 1) := by decide +kernel
theorem dX9_alone_12 : decode cX9_alone 12 = .ok (.iload_n 3, 1) := by decide +kernel
theorem dX9_alone_13 : decode cX9_alone 13 = .ok (.aload_n 0, 1) := by decide +kernel
theorem dX9_alone_14 : decode cX9_alone 14 = .ok (.getfield 26, 3) := by decide +kernel
theorem dX9_alone_17 : decode cX9_alone 17 = .ok (.iload_n 3, 1) := by decide +kernel
theorem dX9_alone_18 : decode cX9_alone 18 = .ok (.iaload, 1) := by decide +kernel
theorem dX9_alone_19 : decode cX9_alone 19 = .ok (.ifCond .ne 10, 3) := by decide +kernel
theorem dX9_alone_22 : decode cX9_alone 22 = .ok (.iload_n 1, 1) := by decide +kernel
theorem dX9_alone_23 : decode cX9_alone 23 = .ok (.bipush 10, 2) := by decide +kernel
theorem dX9_alone_25 : decode cX9_alone 25 = .ok (.idiv, 1) := by decide +kernel
theorem dX9_alone_26 : decode cX9_alone 26 = .ok (.goto 7, 3) := by decide +kernel
theorem dX9_alone_29 : decode cX9_alone 29 = .ok (.iload_n 1, 1) := by decide +kernel
theorem dX9_alone_30 : decode cX9_alone 30 = .ok (.bipush 10, 2) := by decide +kernel
theorem dX9_alone_32 : decode cX9_alone 32 = .ok (.irem, 1) := by decide +kernel
theorem dX9_alone_33 : decode cX9_alone 33 = .ok (.iconst 0, 1) := by decide +kernel
theorem dX9_alone_34 : decode cX9_alone 34 = .ok (.invokevirtual 257, 3) := by decide +kernel
theorem dX9_alone_37 : decode cX9_alone 37 = .ok (.iadd, 1) := by decide +kernel
theorem dX9_alone_38 : decode cX9_alone 38 = .ok (.istore_n 2, 1) := by decide +kernel
theorem dX9_alone_39 : decode cX9_alone 39 = .ok (.iinc 3 1, 3) := by decide +kernel
theorem dX9_alone_42 : decode cX9_alone 42 = .ok (.goto (-38), 3) := by decide +kernel
theorem dX9_alone_45 : decode cX9_alone 45 = .ok (.iload_n 2, 1) := by decide +kernel
theorem dX9_alone_46 : decode cX9_alone 46 = .ok (.ireturn, 1) := by decide +kernel
theorem dX9_helping_0 : decode cX9_helping 0 = .ok (.iload_n 1, 1) := by decide +kernel
theorem dX9_helping_1 : decode cX9_helping 1 = .ok (.bipush 10, 2) := by decide +kernel
theorem dX9_helping_3 : decode cX9_helping 3 = .ok (.idiv, 1) := by decide +kernel
theorem dX9_helping_4 : decode cX9_helping 4 = .ok (.iload_n 1, 1) := by decide +kernel
theorem dX9_helping_5 : decode cX9_helping 5 = .ok (.bipush 10, 2) := by decide +kernel
theorem dX9_helping_7 : decode cX9_helping 7 = .ok (.irem, 1) := by decide +kernel
theorem dX9_helping_8 : decode cX9_helping 8 = .ok (.if_icmp .le 10, 3) := by decide +kernel
theorem dX9_helping_11 : decode cX9_helping 11 = .ok (.iload_n 1, 1) := by decide +kernel
theorem dX9_helping_12 : decode cX9_helping 12 = .ok (.bipush 10, 2) := by decide +kernel
theorem dX9_helping_14 : decode cX9_helping 14 = .ok (.idiv, 1) := by decide +kernel
theorem dX9_helping_15 : decode cX9_helping 15 = .ok (.goto 7, 3) := by decide +kernel
theorem dX9_helping_18 : decode cX9_helping 18 = .ok (.iload_n 1, 1) := by decide +kernel
theorem dX9_helping_19 : decode cX9_helping 19 = .ok (.bipush 10, 2) := by decide +kernel
theorem dX9_helping_21 : decode cX9_helping 21 = .ok (.irem, 1) := by decide +kernel
theorem dX9_helping_22 : decode cX9_helping 22 = .ok (.istore_n 2, 1) := by decide +kernel
theorem dX9_helping_23 : decode cX9_helping 23 = .ok (.aload_n 0, 1) := by decide +kernel
theorem dX9_helping_24 : decode cX9_helping 24 = .ok (.iconst 0, 1) := by decide +kernel
theorem dX9_helping_25 : decode cX9_helping 25 = .ok (.iconst 0, 1) := by decide +kernel
theorem dX9_helping_26 : decode cX9_helping 26 = .ok (.iload_n 2, 1) := by decide +kernel
theorem dX9_helping_27 : decode cX9_helping 27 = .ok (.iconst 0, 1) := by decide +kernel
theorem dX9_helping_28 : decode cX9_helping 28 = .ok (.invokevirtual 257, 3) := by decide +kernel
theorem dX9_helping_31 : decode cX9_helping 31 = .ok (.aload_n 0, 1) := by decide +kernel
theorem dX9_helping_32 : decode cX9_helping 32 = .ok (.iconst 1, 1) := by decide +kernel
theorem dX9_helping_33 : decode cX9_helping 33 = .ok (.iconst 1, 1) := by decide +kernel
theorem dX9_helping_34 : decode cX9_helping 34 = .ok (.iload_n 2, 1) := by decide +kernel
theorem dX9_helping_35 : decode cX9_helping 35 = .ok (.iconst 0, 1) := by decide +kernel
theorem dX9_helping_36 : decode cX9_helping 36 = .ok (.invokevirtual 257, 3) := by decide +kernel
theorem dX9_helping_39 : decode cX9_helping 39 = .ok (.iadd, 1) := by decide +kernel
theorem dX9_helping_40 : decode cX9_helping 40 = .ok (.ireturn, 1) := by decide +kernel
theorem dX9_two_0 : decode cX9_two 0 = .ok (.aload_n 0, 1) := by decide +kernel
theorem dX9_two_1 : decode cX9_two 1 = .ok (.iload_n 1, 1) := by decide +kernel
theorem dX9_two_2 : decode cX9_two 2 = .ok (.iconst 0, 1) := by decide +kernel
theorem dX9_two_3 : decode cX9_two 3 = .ok (.bipush 99, 2) := by decide +kernel
theorem dX9_two_5 : decode cX9_two 5 = .ok (.invokevirtual 114, 3) := by decide +kernel
theorem dX9_two_8 : decode cX9_two 8 = .ok (.ifCond .eq 24, 3) := by decide +kernel
theorem dX9_two_11 : decode cX9_two 11 = .ok (.aload_n 0, 1) := by decide +kernel
theorem dX9_two_12 : decode cX9_two 12 = .ok (.iload_n 2, 1) := by decide +kernel
theorem dX9_two_13 : decode cX9_two 13 = .ok (.iconst 0, 1) := by decide +kernel
theorem dX9_two_14 : decode cX9_two 14 = .ok (.bipush 99, 2) := by decide +kernel
theorem dX9_two_16 : decode cX9_two 16 = .ok (.invokevirtual 114, 3) := by decide +kernel
theorem dX9_two_19 : decode cX9_two 19 = .ok (.ifCond .eq 13, 3) := by decide +kernel
theorem dX9_two_22 : decode cX9_two 22 = .ok (.aload_n 0, 1) := by decide +kernel
theorem dX9_two_23 : decode cX9_two 23 = .ok (.iload_n 3, 1) := by decide +kernel
theorem dX9_two_24 : decode cX9_two 24 = .ok (.iconst 0, 1) := by decide +kernel
theorem dX9_two_25 : decode cX9_two 25 = .ok (.iconst 2, 1) := by decide +kernel
theorem dX9_two_26 : decode cX9_two 26 = .ok (.invokevirtual 114, 3) := by decide +kernel
theorem dX9_two_29 : decode cX9_two 29 = .ok (.ifCond .ne 5, 3) := by decide +kernel
theorem dX9_two_32 : decode cX9_two 32 = .ok (.iconst (-1), 1) := by decide +kernel
theorem dX9_two_33 : decode cX9_two 33 = .ok (.ireturn, 1) := by decide +kernel
theorem dX9_two_34 : decode cX9_two 34 = .ok (.aload_n 0, 1) := by decide +kernel
theorem dX9_two_35 : decode cX9_two 35 = .ok (.invokevirtual 287, 3) := by decide +kernel
theorem dX9_two_38 : decode cX9_two 38 = .ok (.iconst 2, 1) := by decide +kernel
theorem dX9_two_39 : decode cX9_two 39 = .ok (.if_icmp .ge 6, 3) := by decide +kernel
theorem dX9_two_42 : decode cX9_two 42 = .ok (.bipush (-5), 2) := by decide +kernel
theorem dX9_two_44 : decode cX9_two 44 = .ok (.ireturn, 1) := by decide +kernel
theorem dX9_two_45 : decode cX9_two 45 = .ok (.aload_n 0, 1) := by decide +kernel
theorem dX9_two_46 : decode cX9_two 46 = .ok (.iload_n 1, 1) := by decide +kernel
theorem dX9_two_47 : decode cX9_two 47 = .ok (.invokevirtual 315, 3) := by decide +kernel
theorem dX9_two_50 : decode cX9_two 50 = .ok (.aload_n 0, 1) := by decide +kernel
theorem dX9_two_51 : decode cX9_two 51 = .ok (.iload_n 2, 1) := by decide +kernel
theorem dX9_two_52 : decode cX9_two 52 = .ok (.invokevirtual 315, 3) := by decide +kernel
theorem dX9_two_55 : decode cX9_two 55 = .ok (.if_icmp .le 11, 3) := by decide +kernel
theorem dX9_two_58 : decode cX9_two 58 = .ok (.aload_n 0, 1) := by decide +kernel
theorem dX9_two_59 : decode cX9_two 59 = .ok (.iload_n 1, 1) := by decide +kernel
theorem dX9_two_60 : decode cX9_two 60 = .ok (.invokevirtual 315, 3) := by decide +kernel
theorem dX9_two_63 : decode cX9_two 63 = .ok (.goto 8, 3) := by decide +kernel
theorem dX9_two_66 : decode cX9_two 66 = .ok (.aload_n 0, 1) := by decide +kernel
theorem dX9_two_67 : decode cX9_two 67 = .ok (.iload_n 2, 1) := by decide +kernel
theorem dX9_two_68 : decode cX9_two 68 = .ok (.invokevirtual 315, 3) := by decide +kernel
theorem dX9_two_71 : decode cX9_two 71 = .ok (.istore 4, 2) := by decide +kernel
theorem dX9_two_73 : decode cX9_two 73 = .ok (.aload_n 0, 1) := by decide +kernel
theorem dX9_two_74 : decode cX9_two 74 = .ok (.iload_n 1, 1) := by decide +kernel
theorem dX9_two_75 : decode cX9_two 75 = .ok (.invokevirtual 318, 3) := by decide +kernel
theorem dX9_two_78 : decode cX9_two 78 = .ok (.aload_n 0, 1) := by decide +kernel
theorem dX9_two_79 : decode cX9_two 79 = .ok (.iload_n 2, 1) := by decide +kernel
theorem dX9_two_80 : decode cX9_two 80 = .ok (.invokevirtual 318, 3) := by decide +kernel
theorem dX9_two_83 : decode cX9_two 83 = .ok (.iadd, 1) := by decide +kernel
theorem dX9_two_84 : decode cX9_two 84 = .ok (.istore 5, 2) := by decide +kernel
theorem dX9_two_86 : decode cX9_two 86 = .ok (.iload_n 3, 1) := by decide +kernel
theorem dX9_two_87 : decode cX9_two 87 = .ok (.ifCond .ne 8, 3) := by decide +kernel
theorem dX9_two_90 : decode cX9_two 90 = .ok (.iload 4, 2) := by decide +kernel
theorem dX9_two_92 : decode cX9_two 92 = .ok (.goto 29, 3) := by decide +kernel
theorem dX9_two_95 : decode cX9_two 95 = .ok (.iload_n 3, 1) := by decide +kernel
theorem dX9_two_96 : decode cX9_two 96 = .ok (.iconst 1, 1) := by decide +kernel
theorem dX9_two_97 : decode cX9_two 97 = .ok (.if_icmp .ne 8, 3) := by decide +kernel
theorem dX9_two_100 : decode cX9_two 100 = .ok (.iload 5, 2) := by decide +kernel
theorem dX9_two_102 : decode cX9_two 102 = .ok (.goto 19, 3) := by decide +kernel
theorem dX9_two_105 : decode cX9_two 105 = .ok (.aload_n 0, 1) := by decide +kernel
theorem dX9_two_106 : decode cX9_two 106 = .ok (.iload 5, 2) := by decide +kernel
theorem dX9_two_108 : decode cX9_two 108 = .ok (.iload 4, 2) := by decide +kernel
theorem dX9_two_110 : decode cX9_two 110 = .ok (.if_icmp .ge 7, 3) := by decide +kernel
theorem dX9_two_113 : decode cX9_two 113 = .ok (.iconst 1, 1) := by decide +kernel
theorem dX9_two_114 : decode cX9_two 114 = .ok (.goto 4, 3) := by decide +kernel
theorem dX9_two_117 : decode cX9_two 117 = .ok (.iconst 0, 1) := by decide +kernel
theorem dX9_two_118 : decode cX9_two 118 = .ok (.invokevirtual 228, 3) := by decide +kernel
theorem dX9_two_121 : decode cX9_two 121 = .ok (.ireturn, 1) := by decide +kernel
theorem dX9_barsOf_0 : decode cX9_barsOf 0 = .ok (.aload_n 0, 1) := by decide +kernel
theorem dX9_barsOf_1 : decode cX9_barsOf 1 = .ok (.getfield 89, 3) := by decide +kernel
theorem dX9_barsOf_4 : decode cX9_barsOf 4 = .ok (.iload_n 1, 1) := by decide +kernel
theorem dX9_barsOf_5 : decode cX9_barsOf 5 = .ok (.iaload, 1) := by decide +kernel
theorem dX9_barsOf_6 : decode cX9_barsOf 6 = .ok (.ifCond .ne 8, 3) := by decide +kernel
theorem dX9_barsOf_9 : decode cX9_barsOf 9 = .ok (.bipush (-11), 2) := by decide +kernel
theorem dX9_barsOf_11 : decode cX9_barsOf 11 = .ok (.goto 29, 3) := by decide +kernel
theorem dX9_barsOf_14 : decode cX9_barsOf 14 = .ok (.aload_n 0, 1) := by decide +kernel
theorem dX9_barsOf_15 : decode cX9_barsOf 15 = .ok (.getfield 89, 3) := by decide +kernel
theorem dX9_barsOf_18 : decode cX9_barsOf 18 = .ok (.iload_n 1, 1) := by decide +kernel
theorem dX9_barsOf_19 : decode cX9_barsOf 19 = .ok (.iaload, 1) := by decide +kernel
theorem dX9_barsOf_20 : decode cX9_barsOf 20 = .ok (.iconst 2, 1) := by decide +kernel
theorem dX9_barsOf_21 : decode cX9_barsOf 21 = .ok (.if_icmp .ne 13, 3) := by decide +kernel
theorem dX9_barsOf_24 : decode cX9_barsOf 24 = .ok (.aload_n 0, 1) := by decide +kernel
theorem dX9_barsOf_25 : decode cX9_barsOf 25 = .ok (.getfield 92, 3) := by decide +kernel
theorem dX9_barsOf_28 : decode cX9_barsOf 28 = .ok (.iload_n 1, 1) := by decide +kernel
theorem dX9_barsOf_29 : decode cX9_barsOf 29 = .ok (.iaload, 1) := by decide +kernel
theorem dX9_barsOf_30 : decode cX9_barsOf 30 = .ok (.iconst 1, 1) := by decide +kernel
theorem dX9_barsOf_31 : decode cX9_barsOf 31 = .ok (.if_icmp .eq 8, 3) := by decide +kernel
theorem dX9_barsOf_34 : decode cX9_barsOf 34 = .ok (.bipush (-12), 2) := by decide +kernel
theorem dX9_barsOf_36 : decode cX9_barsOf 36 = .ok (.goto 4, 3) := by decide +kernel
theorem dX9_barsOf_39 : decode cX9_barsOf 39 = .ok (.iconst 0, 1) := by decide +kernel
theorem dX9_barsOf_40 : decode cX9_barsOf 40 = .ok (.ireturn, 1) := by decide +kernel
theorem dX9_unlike_0 : decode cX9_unlike 0 = .ok (.iconst 0, 1) := by decide +kernel
theorem dX9_unlike_1 : decode cX9_unlike 1 = .ok (.istore 6, 2) := by decide +kernel
theorem dX9_unlike_3 : decode cX9_unlike 3 = .ok (.iload 6, 2) := by decide +kernel
theorem dX9_unlike_5 : decode cX9_unlike 5 = .ok (.aload_n 0, 1) := by decide +kernel
theorem dX9_unlike_6 : decode cX9_unlike 6 = .ok (.getfield 95, 3) := by decide +kernel
theorem dX9_unlike_9 : decode cX9_unlike 9 = .ok (.iload_n 1, 1) := by decide +kernel
theorem dX9_unlike_10 : decode cX9_unlike 10 = .ok (.iaload, 1) := by decide +kernel
theorem dX9_unlike_11 : decode cX9_unlike 11 = .ok (.if_icmp .ge 47, 3) := by decide +kernel
theorem dX9_unlike_14 : decode cX9_unlike 14 = .ok (.aload_n 0, 1) := by decide +kernel
theorem dX9_unlike_15 : decode cX9_unlike 15 = .ok (.iload_n 2, 1) := by decide +kernel
theorem dX9_unlike_16 : decode cX9_unlike 16 = .ok (.iload_n 3, 1) := by decide +kernel
theorem dX9_unlike_17 : decode cX9_unlike 17 = .ok (.aload_n 0, 1) := by decide +kernel
theorem dX9_unlike_18 : decode cX9_unlike 18 = .ok (.getfield 35, 3) := by decide +kernel
theorem dX9_unlike_21 : decode cX9_unlike 21 = .ok (.iload 4, 2) := by decide +kernel
theorem dX9_unlike_23 : decode cX9_unlike 23 = .ok (.iaload, 1) := by decide +kernel
theorem dX9_unlike_24 : decode cX9_unlike 24 = .ok (.aload_n 0, 1) := by decide +kernel
theorem dX9_unlike_25 : decode cX9_unlike 25 = .ok (.getfield 41, 3) := by decide +kernel
theorem dX9_unlike_28 : decode cX9_unlike 28 = .ok (.iload 4, 2) := by decide +kernel
theorem dX9_unlike_30 : decode cX9_unlike 30 = .ok (.iaload, 1) := by decide +kernel
theorem dX9_unlike_31 : decode cX9_unlike 31 = .ok (.iload 6, 2) := by decide +kernel
theorem dX9_unlike_33 : decode cX9_unlike 33 = .ok (.iadd, 1) := by decide +kernel
theorem dX9_unlike_34 : decode cX9_unlike 34 = .ok (.iload 5, 2) := by decide +kernel
theorem dX9_unlike_36 : decode cX9_unlike 36 = .ok (.invokevirtual 250, 3) := by decide +kernel
theorem dX9_unlike_39 : decode cX9_unlike 39 = .ok (.aload_n 0, 1) := by decide +kernel
theorem dX9_unlike_40 : decode cX9_unlike 40 = .ok (.iload_n 1, 1) := by decide +kernel
theorem dX9_unlike_41 : decode cX9_unlike 41 = .ok (.iload 6, 2) := by decide +kernel
theorem dX9_unlike_43 : decode cX9_unlike 43 = .ok (.invokevirtual 126, 3) := by decide +kernel
theorem dX9_unlike_46 : decode cX9_unlike 46 = .ok (.if_icmp .eq 6, 3) := by decide +kernel
theorem dX9_unlike_49 : decode cX9_unlike 49 = .ok (.iload 6, 2) := by decide +kernel
theorem dX9_unlike_51 : decode cX9_unlike 51 = .ok (.ireturn, 1) := by decide +kernel
theorem dX9_unlike_52 : decode cX9_unlike 52 = .ok (.iinc 6 1, 3) := by decide +kernel
theorem dX9_unlike_55 : decode cX9_unlike 55 = .ok (.goto (-52), 3) := by decide +kernel
theorem dX9_unlike_58 : decode cX9_unlike 58 = .ok (.bipush (-2), 2) := by decide +kernel
theorem dX9_unlike_60 : decode cX9_unlike 60 = .ok (.ireturn, 1) := by decide +kernel
theorem dX9_judge_0 : decode cX9_judge 0 = .ok (.aload_n 0, 1) := by decide +kernel
theorem dX9_judge_1 : decode cX9_judge 1 = .ok (.iload_n 1, 1) := by decide +kernel
theorem dX9_judge_2 : decode cX9_judge 2 = .ok (.invokevirtual 122, 3) := by decide +kernel
theorem dX9_judge_5 : decode cX9_judge 5 = .ok (.ifCond .eq 11, 3) := by decide +kernel
theorem dX9_judge_8 : decode cX9_judge 8 = .ok (.aload_n 0, 1) := by decide +kernel
theorem dX9_judge_9 : decode cX9_judge 9 = .ok (.iload_n 2, 1) := by decide +kernel
theorem dX9_judge_10 : decode cX9_judge 10 = .ok (.invokevirtual 261, 3) := by decide +kernel
theorem dX9_judge_13 : decode cX9_judge 13 = .ok (.ifCond .ne 5, 3) := by decide +kernel
theorem dX9_judge_16 : decode cX9_judge 16 = .ok (.iconst (-1), 1) := by decide +kernel
theorem dX9_judge_17 : decode cX9_judge 17 = .ok (.ireturn, 1) := by decide +kernel
theorem dX9_judge_18 : decode cX9_judge 18 = .ok (.iload_n 2, 1) := by decide +kernel
theorem dX9_judge_19 : decode cX9_judge 19 = .ok (.bipush 10, 2) := by decide +kernel
theorem dX9_judge_21 : decode cX9_judge 21 = .ok (.irem, 1) := by decide +kernel
theorem dX9_judge_22 : decode cX9_judge 22 = .ok (.istore_n 3, 1) := by decide +kernel
theorem dX9_judge_23 : decode cX9_judge 23 = .ok (.aload_n 0, 1) := by decide +kernel
theorem dX9_judge_24 : decode cX9_judge 24 = .ok (.iload_n 1, 1) := by decide +kernel
theorem dX9_judge_25 : decode cX9_judge 25 = .ok (.invokevirtual 321, 3) := by decide +kernel
theorem dX9_judge_28 : decode cX9_judge 28 = .ok (.ifCond .eq 11, 3) := by decide +kernel
theorem dX9_judge_31 : decode cX9_judge 31 = .ok (.aload_n 0, 1) := by decide +kernel
theorem dX9_judge_32 : decode cX9_judge 32 = .ok (.iload_n 1, 1) := by decide +kernel
theorem dX9_judge_33 : decode cX9_judge 33 = .ok (.invokevirtual 321, 3) := by decide +kernel
theorem dX9_judge_36 : decode cX9_judge 36 = .ok (.goto 25, 3) := by decide +kernel
theorem dX9_judge_39 : decode cX9_judge 39 = .ok (.aload_n 0, 1) := by decide +kernel
theorem dX9_judge_40 : decode cX9_judge 40 = .ok (.iload_n 1, 1) := by decide +kernel
theorem dX9_judge_41 : decode cX9_judge 41 = .ok (.iload_n 2, 1) := by decide +kernel
theorem dX9_judge_42 : decode cX9_judge 42 = .ok (.bipush 10, 2) := by decide +kernel
theorem dX9_judge_44 : decode cX9_judge 44 = .ok (.idiv, 1) := by decide +kernel
theorem dX9_judge_45 : decode cX9_judge 45 = .ok (.iload_n 3, 1) := by decide +kernel
theorem dX9_judge_46 : decode cX9_judge 46 = .ok (.aload_n 0, 1) := by decide +kernel
theorem dX9_judge_47 : decode cX9_judge 47 = .ok (.getfield 26, 3) := by decide +kernel
theorem dX9_judge_50 : decode cX9_judge 50 = .ok (.iload_n 3, 1) := by decide +kernel
theorem dX9_judge_51 : decode cX9_judge 51 = .ok (.iaload, 1) := by decide +kernel
theorem dX9_judge_52 : decode cX9_judge 52 = .ok (.aload_n 0, 1) := by decide +kernel
theorem dX9_judge_53 : decode cX9_judge 53 = .ok (.getfield 20, 3) := by decide +kernel
theorem dX9_judge_56 : decode cX9_judge 56 = .ok (.iload_n 3, 1) := by decide +kernel
theorem dX9_judge_57 : decode cX9_judge 57 = .ok (.iaload, 1) := by decide +kernel
theorem dX9_judge_58 : decode cX9_judge 58 = .ok (.invokevirtual 324, 3) := by decide +kernel
theorem dX9_judge_61 : decode cX9_judge 61 = .ok (.ireturn, 1) := by decide +kernel
theorem dX9_which_0 : decode cX9_which 0 = .ok (.aload_n 0, 1) := by decide +kernel
theorem dX9_which_1 : decode cX9_which 1 = .ok (.iload_n 1, 1) := by decide +kernel
theorem dX9_which_2 : decode cX9_which 2 = .ok (.invokevirtual 122, 3) := by decide +kernel
theorem dX9_which_5 : decode cX9_which 5 = .ok (.ifCond .eq 11, 3) := by decide +kernel
theorem dX9_which_8 : decode cX9_which 8 = .ok (.aload_n 0, 1) := by decide +kernel
theorem dX9_which_9 : decode cX9_which 9 = .ok (.iload_n 2, 1) := by decide +kernel
theorem dX9_which_10 : decode cX9_which 10 = .ok (.invokevirtual 136, 3) := by decide +kernel
theorem dX9_which_13 : decode cX9_which 13 = .ok (.ifCond .ne 5, 3) := by decide +kernel
theorem dX9_which_16 : decode cX9_which 16 = .ok (.iconst (-1), 1) := by decide +kernel
theorem dX9_which_17 : decode cX9_which 17 = .ok (.ireturn, 1) := by decide +kernel
theorem dX9_which_18 : decode cX9_which 18 = .ok (.aload_n 0, 1) := by decide +kernel
theorem dX9_which_19 : decode cX9_which 19 = .ok (.iload_n 1, 1) := by decide +kernel
theorem dX9_which_20 : decode cX9_which 20 = .ok (.invokevirtual 321, 3) := by decide +kernel
theorem dX9_which_23 : decode cX9_which 23 = .ok (.ifCond .eq 9, 3) := by decide +kernel
theorem dX9_which_26 : decode cX9_which 26 = .ok (.aload_n 0, 1) := by decide +kernel
theorem dX9_which_27 : decode cX9_which 27 = .ok (.iload_n 1, 1) := by decide +kernel
theorem dX9_which_28 : decode cX9_which 28 = .ok (.invokevirtual 321, 3) := by decide +kernel
theorem dX9_which_31 : decode cX9_which 31 = .ok (.ireturn, 1) := by decide +kernel
theorem dX9_which_32 : decode cX9_which 32 = .ok (.iconst 0, 1) := by decide +kernel
theorem dX9_which_33 : decode cX9_which 33 = .ok (.istore_n 3, 1) := by decide +kernel
theorem dX9_which_34 : decode cX9_which 34 = .ok (.iconst 0, 1) := by decide +kernel
theorem dX9_which_35 : decode cX9_which 35 = .ok (.istore 4, 2) := by decide +kernel
theorem dX9_which_37 : decode cX9_which 37 = .ok (.iload 4, 2) := by decide +kernel
theorem dX9_which_39 : decode cX9_which 39 = .ok (.aload_n 0, 1) := by decide +kernel
theorem dX9_which_40 : decode cX9_which 40 = .ok (.getfield 108, 3) := by decide +kernel
theorem dX9_which_43 : decode cX9_which 43 = .ok (.if_icmp .ge 41, 3) := by decide +kernel
theorem dX9_which_46 : decode cX9_which 46 = .ok (.aload_n 0, 1) := by decide +kernel
theorem dX9_which_47 : decode cX9_which 47 = .ok (.iload_n 1, 1) := by decide +kernel
theorem dX9_which_48 : decode cX9_which 48 = .ok (.iload 4, 2) := by decide +kernel
theorem dX9_which_50 : decode cX9_which 50 = .ok (.iload_n 2, 1) := by decide +kernel
theorem dX9_which_51 : decode cX9_which 51 = .ok (.aload_n 0, 1) := by decide +kernel
theorem dX9_which_52 : decode cX9_which 52 = .ok (.getfield 26, 3) := by decide +kernel
theorem dX9_which_55 : decode cX9_which 55 = .ok (.iload_n 2, 1) := by decide +kernel
theorem dX9_which_56 : decode cX9_which 56 = .ok (.iaload, 1) := by decide +kernel
theorem dX9_which_57 : decode cX9_which 57 = .ok (.aload_n 0, 1) := by decide +kernel
theorem dX9_which_58 : decode cX9_which 58 = .ok (.getfield 20, 3) := by decide +kernel
theorem dX9_which_61 : decode cX9_which 61 = .ok (.iload_n 2, 1) := by decide +kernel
theorem dX9_which_62 : decode cX9_which 62 = .ok (.iaload, 1) := by decide +kernel
theorem dX9_which_63 : decode cX9_which 63 = .ok (.invokevirtual 324, 3) := by decide +kernel
theorem dX9_which_66 : decode cX9_which 66 = .ok (.bipush (-2), 2) := by decide +kernel
theorem dX9_which_68 : decode cX9_which 68 = .ok (.if_icmp .ne 10, 3) := by decide +kernel
theorem dX9_which_71 : decode cX9_which 71 = .ok (.iload_n 3, 1) := by decide +kernel
theorem dX9_which_72 : decode cX9_which 72 = .ok (.iconst 1, 1) := by decide +kernel
theorem dX9_which_73 : decode cX9_which 73 = .ok (.iload 4, 2) := by decide +kernel
theorem dX9_which_75 : decode cX9_which 75 = .ok (.ishl, 1) := by decide +kernel
theorem dX9_which_76 : decode cX9_which 76 = .ok (.ior, 1) := by decide +kernel
theorem dX9_which_77 : decode cX9_which 77 = .ok (.istore_n 3, 1) := by decide +kernel
theorem dX9_which_78 : decode cX9_which 78 = .ok (.iinc 4 1, 3) := by decide +kernel
theorem dX9_which_81 : decode cX9_which 81 = .ok (.goto (-44), 3) := by decide +kernel
theorem dX9_which_84 : decode cX9_which 84 = .ok (.iload_n 3, 1) := by decide +kernel
theorem dX9_which_85 : decode cX9_which 85 = .ok (.ireturn, 1) := by decide +kernel
theorem dX9_how_0 : decode cX9_how 0 = .ok (.aload_n 0, 1) := by decide +kernel
theorem dX9_how_1 : decode cX9_how 1 = .ok (.iload_n 1, 1) := by decide +kernel
theorem dX9_how_2 : decode cX9_how 2 = .ok (.invokevirtual 122, 3) := by decide +kernel
theorem dX9_how_5 : decode cX9_how 5 = .ok (.ifCond .eq 21, 3) := by decide +kernel
theorem dX9_how_8 : decode cX9_how 8 = .ok (.aload_n 0, 1) := by decide +kernel
theorem dX9_how_9 : decode cX9_how 9 = .ok (.iload_n 2, 1) := by decide +kernel
theorem dX9_how_10 : decode cX9_how 10 = .ok (.invokevirtual 261, 3) := by decide +kernel
theorem dX9_how_13 : decode cX9_how 13 = .ok (.ifCond .eq 13, 3) := by decide +kernel
theorem dX9_how_16 : decode cX9_how 16 = .ok (.aload_n 0, 1) := by decide +kernel
theorem dX9_how_17 : decode cX9_how 17 = .ok (.iload_n 3, 1) := by decide +kernel
theorem dX9_how_18 : decode cX9_how 18 = .ok (.iconst 0, 1) := by decide +kernel
theorem dX9_how_19 : decode cX9_how 19 = .ok (.iconst 1, 1) := by decide +kernel
theorem dX9_how_20 : decode cX9_how 20 = .ok (.invokevirtual 114, 3) := by decide +kernel
theorem dX9_how_23 : decode cX9_how 23 = .ok (.ifCond .ne 5, 3) := by decide +kernel
theorem dX9_how_26 : decode cX9_how 26 = .ok (.iconst (-1), 1) := by decide +kernel
theorem dX9_how_27 : decode cX9_how 27 = .ok (.ireturn, 1) := by decide +kernel
theorem dX9_how_28 : decode cX9_how 28 = .ok (.aload_n 0, 1) := by decide +kernel
theorem dX9_how_29 : decode cX9_how 29 = .ok (.iload_n 1, 1) := by decide +kernel
theorem dX9_how_30 : decode cX9_how 30 = .ok (.invokevirtual 321, 3) := by decide +kernel
theorem dX9_how_33 : decode cX9_how 33 = .ok (.ifCond .eq 9, 3) := by decide +kernel
theorem dX9_how_36 : decode cX9_how 36 = .ok (.aload_n 0, 1) := by decide +kernel
theorem dX9_how_37 : decode cX9_how 37 = .ok (.iload_n 1, 1) := by decide +kernel
theorem dX9_how_38 : decode cX9_how 38 = .ok (.invokevirtual 321, 3) := by decide +kernel
theorem dX9_how_41 : decode cX9_how 41 = .ok (.ireturn, 1) := by decide +kernel
theorem dX9_how_42 : decode cX9_how 42 = .ok (.iload_n 2, 1) := by decide +kernel
theorem dX9_how_43 : decode cX9_how 43 = .ok (.bipush 10, 2) := by decide +kernel
theorem dX9_how_45 : decode cX9_how 45 = .ok (.idiv, 1) := by decide +kernel
theorem dX9_how_46 : decode cX9_how 46 = .ok (.istore 4, 2) := by decide +kernel
theorem dX9_how_48 : decode cX9_how 48 = .ok (.iload_n 2, 1) := by decide +kernel
theorem dX9_how_49 : decode cX9_how 49 = .ok (.bipush 10, 2) := by decide +kernel
theorem dX9_how_51 : decode cX9_how 51 = .ok (.irem, 1) := by decide +kernel
theorem dX9_how_52 : decode cX9_how 52 = .ok (.istore 5, 2) := by decide +kernel
theorem dX9_how_54 : decode cX9_how 54 = .ok (.iconst 0, 1) := by decide +kernel
theorem dX9_how_55 : decode cX9_how 55 = .ok (.istore 6, 2) := by decide +kernel
theorem dX9_how_57 : decode cX9_how 57 = .ok (.iload_n 3, 1) := by decide +kernel
theorem dX9_how_58 : decode cX9_how 58 = .ok (.ifCond .ne 48, 3) := by decide +kernel
theorem dX9_how_61 : decode cX9_how 61 = .ok (.iconst 0, 1) := by decide +kernel
theorem dX9_how_62 : decode cX9_how 62 = .ok (.istore 7, 2) := by decide +kernel
theorem dX9_how_64 : decode cX9_how 64 = .ok (.iload 7, 2) := by decide +kernel
theorem dX9_how_66 : decode cX9_how 66 = .ok (.bipush 10, 2) := by decide +kernel
theorem dX9_how_68 : decode cX9_how 68 = .ok (.if_icmp .ge 35, 3) := by decide +kernel
theorem dX9_how_71 : decode cX9_how 71 = .ok (.aload_n 0, 1) := by decide +kernel
theorem dX9_how_72 : decode cX9_how 72 = .ok (.iload_n 1, 1) := by decide +kernel
theorem dX9_how_73 : decode cX9_how 73 = .ok (.iload 4, 2) := by decide +kernel
theorem dX9_how_75 : decode cX9_how 75 = .ok (.iload 5, 2) := by decide +kernel
theorem dX9_how_77 : decode cX9_how 77 = .ok (.aload_n 0, 1) := by decide +kernel
theorem dX9_how_78 : decode cX9_how 78 = .ok (.getfield 26, 3) := by decide +kernel
theorem dX9_how_81 : decode cX9_how 81 = .ok (.iload 5, 2) := by decide +kernel
theorem dX9_how_83 : decode cX9_how 83 = .ok (.iaload, 1) := by decide +kernel
theorem dX9_how_84 : decode cX9_how 84 = .ok (.iload 7, 2) := by decide +kernel
theorem dX9_how_86 : decode cX9_how 86 = .ok (.invokevirtual 324, 3) := by decide +kernel
theorem dX9_how_89 : decode cX9_how 89 = .ok (.bipush (-2), 2) := by decide +kernel
theorem dX9_how_91 : decode cX9_how 91 = .ok (.if_icmp .ne 6, 3) := by decide +kernel
theorem dX9_how_94 : decode cX9_how 94 = .ok (.iload 7, 2) := by decide +kernel
theorem dX9_how_96 : decode cX9_how 96 = .ok (.ireturn, 1) := by decide +kernel
theorem dX9_how_97 : decode cX9_how 97 = .ok (.iinc 7 1, 3) := by decide +kernel
theorem dX9_how_100 : decode cX9_how 100 = .ok (.goto (-36), 3) := by decide +kernel
theorem dX9_how_103 : decode cX9_how 103 = .ok (.bipush (-2), 2) := by decide +kernel
theorem dX9_how_105 : decode cX9_how 105 = .ok (.ireturn, 1) := by decide +kernel
theorem dX9_how_106 : decode cX9_how 106 = .ok (.iconst 0, 1) := by decide +kernel
theorem dX9_how_107 : decode cX9_how 107 = .ok (.istore 7, 2) := by decide +kernel
theorem dX9_how_109 : decode cX9_how 109 = .ok (.iload 7, 2) := by decide +kernel
theorem dX9_how_111 : decode cX9_how 111 = .ok (.iconst 2, 1) := by decide +kernel
theorem dX9_how_112 : decode cX9_how 112 = .ok (.if_icmp .ge 41, 3) := by decide +kernel
theorem dX9_how_115 : decode cX9_how 115 = .ok (.aload_n 0, 1) := by decide +kernel
theorem dX9_how_116 : decode cX9_how 116 = .ok (.iload_n 1, 1) := by decide +kernel
theorem dX9_how_117 : decode cX9_how 117 = .ok (.iload 4, 2) := by decide +kernel
theorem dX9_how_119 : decode cX9_how 119 = .ok (.iload 5, 2) := by decide +kernel
theorem dX9_how_121 : decode cX9_how 121 = .ok (.iload 7, 2) := by decide +kernel
theorem dX9_how_123 : decode cX9_how 123 = .ok (.aload_n 0, 1) := by decide +kernel
theorem dX9_how_124 : decode cX9_how 124 = .ok (.getfield 20, 3) := by decide +kernel
theorem dX9_how_127 : decode cX9_how 127 = .ok (.iload 5, 2) := by decide +kernel
theorem dX9_how_129 : decode cX9_how 129 = .ok (.iaload, 1) := by decide +kernel
theorem dX9_how_130 : decode cX9_how 130 = .ok (.invokevirtual 324, 3) := by decide +kernel
theorem dX9_how_133 : decode cX9_how 133 = .ok (.bipush (-2), 2) := by decide +kernel
theorem dX9_how_135 : decode cX9_how 135 = .ok (.if_icmp .ne 12, 3) := by decide +kernel
theorem dX9_how_138 : decode cX9_how 138 = .ok (.iload 6, 2) := by decide +kernel
theorem dX9_how_140 : decode cX9_how 140 = .ok (.iconst 1, 1) := by decide +kernel
theorem dX9_how_141 : decode cX9_how 141 = .ok (.iload 7, 2) := by decide +kernel
theorem dX9_how_143 : decode cX9_how 143 = .ok (.ishl, 1) := by decide +kernel
theorem dX9_how_144 : decode cX9_how 144 = .ok (.ior, 1) := by decide +kernel
theorem dX9_how_145 : decode cX9_how 145 = .ok (.istore 6, 2) := by decide +kernel
theorem dX9_how_147 : decode cX9_how 147 = .ok (.iinc 7 1, 3) := by decide +kernel
theorem dX9_how_150 : decode cX9_how 150 = .ok (.goto (-41), 3) := by decide +kernel
theorem dX9_how_153 : decode cX9_how 153 = .ok (.iload 6, 2) := by decide +kernel
theorem dX9_how_155 : decode cX9_how 155 = .ok (.ireturn, 1) := by decide +kernel
theorem dX9_drawn_0 : decode cX9_drawn 0 = .ok (.aload_n 0, 1) := by decide +kernel
theorem dX9_drawn_1 : decode cX9_drawn 1 = .ok (.iload_n 1, 1) := by decide +kernel
theorem dX9_drawn_2 : decode cX9_drawn 2 = .ok (.invokevirtual 261, 3) := by decide +kernel
theorem dX9_drawn_5 : decode cX9_drawn 5 = .ok (.ifCond .eq 25, 3) := by decide +kernel
theorem dX9_drawn_8 : decode cX9_drawn 8 = .ok (.aload_n 0, 1) := by decide +kernel
theorem dX9_drawn_9 : decode cX9_drawn 9 = .ok (.iload_n 3, 1) := by decide +kernel
theorem dX9_drawn_10 : decode cX9_drawn 10 = .ok (.iconst 1, 1) := by decide +kernel
theorem dX9_drawn_11 : decode cX9_drawn 11 = .ok (.bipush 50, 2) := by decide +kernel
theorem dX9_drawn_13 : decode cX9_drawn 13 = .ok (.invokevirtual 114, 3) := by decide +kernel
theorem dX9_drawn_16 : decode cX9_drawn 16 = .ok (.ifCond .eq 14, 3) := by decide +kernel
theorem dX9_drawn_19 : decode cX9_drawn 19 = .ok (.aload_n 0, 1) := by decide +kernel
theorem dX9_drawn_20 : decode cX9_drawn 20 = .ok (.iload 4, 2) := by decide +kernel
theorem dX9_drawn_22 : decode cX9_drawn 22 = .ok (.iconst 0, 1) := by decide +kernel
theorem dX9_drawn_23 : decode cX9_drawn 23 = .ok (.iconst 1, 1) := by decide +kernel
theorem dX9_drawn_24 : decode cX9_drawn 24 = .ok (.invokevirtual 114, 3) := by decide +kernel
theorem dX9_drawn_27 : decode cX9_drawn 27 = .ok (.ifCond .ne 5, 3) := by decide +kernel
theorem dX9_drawn_30 : decode cX9_drawn 30 = .ok (.iconst (-1), 1) := by decide +kernel
theorem dX9_drawn_31 : decode cX9_drawn 31 = .ok (.ireturn, 1) := by decide +kernel
theorem dX9_drawn_32 : decode cX9_drawn 32 = .ok (.iload_n 2, 1) := by decide +kernel
theorem dX9_drawn_33 : decode cX9_drawn 33 = .ok (.istore 5, 2) := by decide +kernel
theorem dX9_drawn_35 : decode cX9_drawn 35 = .ok (.aload_n 0, 1) := by decide +kernel
theorem dX9_drawn_36 : decode cX9_drawn 36 = .ok (.iload_n 1, 1) := by decide +kernel
theorem dX9_drawn_37 : decode cX9_drawn 37 = .ok (.bipush 10, 2) := by decide +kernel
theorem dX9_drawn_39 : decode cX9_drawn 39 = .ok (.idiv, 1) := by decide +kernel
theorem dX9_drawn_40 : decode cX9_drawn 40 = .ok (.iload_n 1, 1) := by decide +kernel
theorem dX9_drawn_41 : decode cX9_drawn 41 = .ok (.bipush 10, 2) := by decide +kernel
theorem dX9_drawn_43 : decode cX9_drawn 43 = .ok (.irem, 1) := by decide +kernel
theorem dX9_drawn_44 : decode cX9_drawn 44 = .ok (.invokevirtual 264, 3) := by decide +kernel
theorem dX9_drawn_47 : decode cX9_drawn 47 = .ok (.istore 6, 2) := by decide +kernel
theorem dX9_drawn_49 : decode cX9_drawn 49 = .ok (.iconst 0, 1) := by decide +kernel
theorem dX9_drawn_50 : decode cX9_drawn 50 = .ok (.istore 7, 2) := by decide +kernel
theorem dX9_drawn_52 : decode cX9_drawn 52 = .ok (.iconst 0, 1) := by decide +kernel
theorem dX9_drawn_53 : decode cX9_drawn 53 = .ok (.istore 8, 2) := by decide +kernel
theorem dX9_drawn_55 : decode cX9_drawn 55 = .ok (.iconst 0, 1) := by decide +kernel
theorem dX9_drawn_56 : decode cX9_drawn 56 = .ok (.istore 9, 2) := by decide +kernel
theorem dX9_drawn_58 : decode cX9_drawn 58 = .ok (.iload 9, 2) := by decide +kernel
theorem dX9_drawn_60 : decode cX9_drawn 60 = .ok (.iload_n 3, 1) := by decide +kernel
theorem dX9_drawn_61 : decode cX9_drawn 61 = .ok (.if_icmp .ge 99, 3) := by decide +kernel
theorem dX9_drawn_64 : decode cX9_drawn 64 = .ok (.iconst 1, 1) := by decide +kernel
theorem dX9_drawn_65 : decode cX9_drawn 65 = .ok (.istore 10, 2) := by decide +kernel
theorem dX9_drawn_67 : decode cX9_drawn 67 = .ok (.iconst 0, 1) := by decide +kernel
theorem dX9_drawn_68 : decode cX9_drawn 68 = .ok (.istore 11, 2) := by decide +kernel
theorem dX9_drawn_70 : decode cX9_drawn 70 = .ok (.iload 11, 2) := by decide +kernel
theorem dX9_drawn_72 : decode cX9_drawn 72 = .ok (.bipush 20, 2) := by decide +kernel
theorem dX9_drawn_74 : decode cX9_drawn 74 = .ok (.if_icmp .ge 69, 3) := by decide +kernel
theorem dX9_drawn_77 : decode cX9_drawn 77 = .ok (.iload 10, 2) := by decide +kernel
theorem dX9_drawn_79 : decode cX9_drawn 79 = .ok (.ifCond .eq 64, 3) := by decide +kernel
theorem dX9_drawn_82 : decode cX9_drawn 82 = .ok (.iload 5, 2) := by decide +kernel
theorem dX9_drawn_84 : decode cX9_drawn 84 = .ok (.ldc_w 327, 3) := by decide +kernel
theorem dX9_drawn_87 : decode cX9_drawn 87 = .ok (.imul, 1) := by decide +kernel
theorem dX9_drawn_88 : decode cX9_drawn 88 = .ok (.sipush 12345, 3) := by decide +kernel
theorem dX9_drawn_91 : decode cX9_drawn 91 = .ok (.iadd, 1) := by decide +kernel
theorem dX9_drawn_92 : decode cX9_drawn 92 = .ok (.istore 5, 2) := by decide +kernel
theorem dX9_drawn_94 : decode cX9_drawn 94 = .ok (.iload 5, 2) := by decide +kernel
theorem dX9_drawn_96 : decode cX9_drawn 96 = .ok (.bipush 8, 2) := by decide +kernel
theorem dX9_drawn_98 : decode cX9_drawn 98 = .ok (.iushr, 1) := by decide +kernel
theorem dX9_drawn_99 : decode cX9_drawn 99 = .ok (.bipush 12, 2) := by decide +kernel
theorem dX9_drawn_101 : decode cX9_drawn 101 = .ok (.irem, 1) := by decide +kernel
theorem dX9_drawn_102 : decode cX9_drawn 102 = .ok (.aload_n 0, 1) := by decide +kernel
theorem dX9_drawn_103 : decode cX9_drawn 103 = .ok (.getfield 139, 3) := by decide +kernel
theorem dX9_drawn_106 : decode cX9_drawn 106 = .ok (.if_icmp .ge 7, 3) := by decide +kernel
theorem dX9_drawn_109 : decode cX9_drawn 109 = .ok (.iconst 1, 1) := by decide +kernel
theorem dX9_drawn_110 : decode cX9_drawn 110 = .ok (.goto 4, 3) := by decide +kernel
theorem dX9_drawn_113 : decode cX9_drawn 113 = .ok (.iconst 0, 1) := by decide +kernel
theorem dX9_drawn_114 : decode cX9_drawn 114 = .ok (.istore 10, 2) := by decide +kernel
theorem dX9_drawn_116 : decode cX9_drawn 116 = .ok (.iload 7, 2) := by decide +kernel
theorem dX9_drawn_118 : decode cX9_drawn 118 = .ok (.iload 6, 2) := by decide +kernel
theorem dX9_drawn_120 : decode cX9_drawn 120 = .ok (.iload 10, 2) := by decide +kernel
theorem dX9_drawn_122 : decode cX9_drawn 122 = .ok (.ifCond .eq 10, 3) := by decide +kernel
theorem dX9_drawn_125 : decode cX9_drawn 125 = .ok (.aload_n 0, 1) := by decide +kernel
theorem dX9_drawn_126 : decode cX9_drawn 126 = .ok (.getfield 7, 3) := by decide +kernel
theorem dX9_drawn_129 : decode cX9_drawn 129 = .ok (.goto 4, 3) := by decide +kernel
theorem dX9_drawn_132 : decode cX9_drawn 132 = .ok (.iconst 0, 1) := by decide +kernel
theorem dX9_drawn_133 : decode cX9_drawn 133 = .ok (.iadd, 1) := by decide +kernel
theorem dX9_drawn_134 : decode cX9_drawn 134 = .ok (.iadd, 1) := by decide +kernel
theorem dX9_drawn_135 : decode cX9_drawn 135 = .ok (.istore 7, 2) := by decide +kernel
theorem dX9_drawn_137 : decode cX9_drawn 137 = .ok (.iinc 11 1, 3) := by decide +kernel
theorem dX9_drawn_140 : decode cX9_drawn 140 = .ok (.goto (-70), 3) := by decide +kernel
theorem dX9_drawn_143 : decode cX9_drawn 143 = .ok (.iload 8, 2) := by decide +kernel
theorem dX9_drawn_145 : decode cX9_drawn 145 = .ok (.aload_n 0, 1) := by decide +kernel
theorem dX9_drawn_146 : decode cX9_drawn 146 = .ok (.iload 10, 2) := by decide +kernel
theorem dX9_drawn_148 : decode cX9_drawn 148 = .ok (.invokevirtual 228, 3) := by decide +kernel
theorem dX9_drawn_151 : decode cX9_drawn 151 = .ok (.iadd, 1) := by decide +kernel
theorem dX9_drawn_152 : decode cX9_drawn 152 = .ok (.istore 8, 2) := by decide +kernel
theorem dX9_drawn_154 : decode cX9_drawn 154 = .ok (.iinc 9 1, 3) := by decide +kernel
theorem dX9_drawn_157 : decode cX9_drawn 157 = .ok (.goto (-99), 3) := by decide +kernel
theorem dX9_drawn_160 : decode cX9_drawn 160 = .ok (.iload 4, 2) := by decide +kernel
theorem dX9_drawn_162 : decode cX9_drawn 162 = .ok (.ifCond .ne 8, 3) := by decide +kernel
theorem dX9_drawn_165 : decode cX9_drawn 165 = .ok (.iload 7, 2) := by decide +kernel
theorem dX9_drawn_167 : decode cX9_drawn 167 = .ok (.goto 5, 3) := by decide +kernel
theorem dX9_drawn_170 : decode cX9_drawn 170 = .ok (.iload 8, 2) := by decide +kernel
theorem dX9_drawn_172 : decode cX9_drawn 172 = .ok (.ireturn, 1) := by decide +kernel
theorem dX9_isUsed_0 : decode cX9_isUsed 0 = .ok (.iconst 0, 1) := by decide +kernel
theorem dX9_isUsed_1 : decode cX9_isUsed 1 = .ok (.istore_n 2, 1) := by decide +kernel
theorem dX9_isUsed_2 : decode cX9_isUsed 2 = .ok (.iload_n 2, 1) := by decide +kernel
theorem dX9_isUsed_3 : decode cX9_isUsed 3 = .ok (.aload_n 0, 1) := by decide +kernel
theorem dX9_isUsed_4 : decode cX9_isUsed 4 = .ok (.getfield 111, 3) := by decide +kernel
theorem dX9_isUsed_7 : decode cX9_isUsed 7 = .ok (.if_icmp .ge 21, 3) := by decide +kernel
theorem dX9_isUsed_10 : decode cX9_isUsed 10 = .ok (.aload_n 0, 1) := by decide +kernel
theorem dX9_isUsed_11 : decode cX9_isUsed 11 = .ok (.getfield 32, 3) := by decide +kernel
theorem dX9_isUsed_14 : decode cX9_isUsed 14 = .ok (.iload_n 2, 1) := by decide +kernel
theorem dX9_isUsed_15 : decode cX9_isUsed 15 = .ok (.iaload, 1) := by decide +kernel
theorem dX9_isUsed_16 : decode cX9_isUsed 16 = .ok (.iload_n 1, 1) := by decide +kernel
theorem dX9_isUsed_17 : decode cX9_isUsed 17 = .ok (.if_icmp .ne 5, 3) := by decide +kernel
theorem dX9_isUsed_20 : decode cX9_isUsed 20 = .ok (.iconst 1, 1) := by decide +kernel
theorem dX9_isUsed_21 : decode cX9_isUsed 21 = .ok (.ireturn, 1) := by decide +kernel
theorem dX9_isUsed_22 : decode cX9_isUsed 22 = .ok (.iinc 2 1, 3) := by decide +kernel
theorem dX9_isUsed_25 : decode cX9_isUsed 25 = .ok (.goto (-23), 3) := by decide +kernel
theorem dX9_isUsed_28 : decode cX9_isUsed 28 = .ok (.iconst 0, 1) := by decide +kernel
theorem dX9_isUsed_29 : decode cX9_isUsed 29 = .ok (.ireturn, 1) := by decide +kernel
theorem dX9_puts_0 : decode cX9_puts 0 = .ok (.aload_n 0, 1) := by decide +kernel
theorem dX9_puts_1 : decode cX9_puts 1 = .ok (.iload_n 1, 1) := by decide +kernel
theorem dX9_puts_2 : decode cX9_puts 2 = .ok (.invokevirtual 261, 3) := by decide +kernel
theorem dX9_puts_5 : decode cX9_puts 5 = .ok (.ifCond .ne 5, 3) := by decide +kernel
theorem dX9_puts_8 : decode cX9_puts 8 = .ok (.iconst (-1), 1) := by decide +kernel
theorem dX9_puts_9 : decode cX9_puts 9 = .ok (.ireturn, 1) := by decide +kernel
theorem dX9_puts_10 : decode cX9_puts 10 = .ok (.iload_n 1, 1) := by decide +kernel
theorem dX9_puts_11 : decode cX9_puts 11 = .ok (.bipush 10, 2) := by decide +kernel
theorem dX9_puts_13 : decode cX9_puts 13 = .ok (.idiv, 1) := by decide +kernel
theorem dX9_puts_14 : decode cX9_puts 14 = .ok (.istore_n 2, 1) := by decide +kernel
theorem dX9_puts_15 : decode cX9_puts 15 = .ok (.iload_n 1, 1) := by decide +kernel
theorem dX9_puts_16 : decode cX9_puts 16 = .ok (.bipush 10, 2) := by decide +kernel
theorem dX9_puts_18 : decode cX9_puts 18 = .ok (.irem, 1) := by decide +kernel
theorem dX9_puts_19 : decode cX9_puts 19 = .ok (.istore_n 3, 1) := by decide +kernel
theorem dX9_puts_20 : decode cX9_puts 20 = .ok (.aload_n 0, 1) := by decide +kernel
theorem dX9_puts_21 : decode cX9_puts 21 = .ok (.iload_n 2, 1) := by decide +kernel
theorem dX9_puts_22 : decode cX9_puts 22 = .ok (.invokevirtual 328, 3) := by decide +kernel
theorem dX9_puts_25 : decode cX9_puts 25 = .ok (.ifCond .ne 14, 3) := by decide +kernel
theorem dX9_puts_28 : decode cX9_puts 28 = .ok (.aload_n 0, 1) := by decide +kernel
theorem dX9_puts_29 : decode cX9_puts 29 = .ok (.getfield 32, 3) := by decide +kernel
theorem dX9_puts_32 : decode cX9_puts 32 = .ok (.iload_n 3, 1) := by decide +kernel
theorem dX9_puts_33 : decode cX9_puts 33 = .ok (.iaload, 1) := by decide +kernel
theorem dX9_puts_34 : decode cX9_puts 34 = .ok (.bipush (-2), 2) := by decide +kernel
theorem dX9_puts_36 : decode cX9_puts 36 = .ok (.if_icmp .eq 6, 3) := by decide +kernel
theorem dX9_puts_39 : decode cX9_puts 39 = .ok (.bipush (-5), 2) := by decide +kernel
theorem dX9_puts_41 : decode cX9_puts 41 = .ok (.ireturn, 1) := by decide +kernel
theorem dX9_puts_42 : decode cX9_puts 42 = .ok (.aload_n 0, 1) := by decide +kernel
theorem dX9_puts_43 : decode cX9_puts 43 = .ok (.iload_n 2, 1) := by decide +kernel
theorem dX9_puts_44 : decode cX9_puts 44 = .ok (.iload_n 3, 1) := by decide +kernel
theorem dX9_puts_45 : decode cX9_puts 45 = .ok (.invokevirtual 264, 3) := by decide +kernel
theorem dX9_puts_48 : decode cX9_puts 48 = .ok (.istore 4, 2) := by decide +kernel
theorem dX9_puts_50 : decode cX9_puts 50 = .ok (.aload_n 0, 1) := by decide +kernel
theorem dX9_puts_51 : decode cX9_puts 51 = .ok (.getfield 32, 3) := by decide +kernel
theorem dX9_puts_54 : decode cX9_puts 54 = .ok (.iload_n 3, 1) := by decide +kernel
theorem dX9_puts_55 : decode cX9_puts 55 = .ok (.iload_n 2, 1) := by decide +kernel
theorem dX9_puts_56 : decode cX9_puts 56 = .ok (.iastore, 1) := by decide +kernel
theorem dX9_puts_57 : decode cX9_puts 57 = .ok (.aload_n 0, 1) := by decide +kernel
theorem dX9_puts_58 : decode cX9_puts 58 = .ok (.getfield 41, 3) := by decide +kernel
theorem dX9_puts_61 : decode cX9_puts 61 = .ok (.aload_n 0, 1) := by decide +kernel
theorem dX9_puts_62 : decode cX9_puts 62 = .ok (.getfield 26, 3) := by decide +kernel
theorem dX9_puts_65 : decode cX9_puts 65 = .ok (.iload_n 3, 1) := by decide +kernel
theorem dX9_puts_66 : decode cX9_puts 66 = .ok (.iaload, 1) := by decide +kernel
theorem dX9_puts_67 : decode cX9_puts 67 = .ok (.dup2, 1) := by decide +kernel
theorem dX9_puts_68 : decode cX9_puts 68 = .ok (.iaload, 1) := by decide +kernel
theorem dX9_puts_69 : decode cX9_puts 69 = .ok (.aload_n 0, 1) := by decide +kernel
theorem dX9_puts_70 : decode cX9_puts 70 = .ok (.getfield 41, 3) := by decide +kernel
theorem dX9_puts_73 : decode cX9_puts 73 = .ok (.aload_n 0, 1) := by decide +kernel
theorem dX9_puts_74 : decode cX9_puts 74 = .ok (.getfield 26, 3) := by decide +kernel
theorem dX9_puts_77 : decode cX9_puts 77 = .ok (.iload_n 3, 1) := by decide +kernel
theorem dX9_puts_78 : decode cX9_puts 78 = .ok (.iaload, 1) := by decide +kernel
theorem dX9_puts_79 : decode cX9_puts 79 = .ok (.iaload, 1) := by decide +kernel
theorem dX9_puts_80 : decode cX9_puts 80 = .ok (.bipush 99, 2) := by decide +kernel
theorem dX9_puts_82 : decode cX9_puts 82 = .ok (.if_icmp .ge 7, 3) := by decide +kernel
theorem dX9_puts_85 : decode cX9_puts 85 = .ok (.iconst 1, 1) := by decide +kernel
theorem dX9_puts_86 : decode cX9_puts 86 = .ok (.goto 4, 3) := by decide +kernel
theorem dX9_puts_89 : decode cX9_puts 89 = .ok (.iconst 0, 1) := by decide +kernel
theorem dX9_puts_90 : decode cX9_puts 90 = .ok (.iadd, 1) := by decide +kernel
theorem dX9_puts_91 : decode cX9_puts 91 = .ok (.iastore, 1) := by decide +kernel
theorem dX9_puts_92 : decode cX9_puts 92 = .ok (.aload_n 0, 1) := by decide +kernel
theorem dX9_puts_93 : decode cX9_puts 93 = .ok (.dup, 1) := by decide +kernel
theorem dX9_puts_94 : decode cX9_puts 94 = .ok (.getfield 331, 3) := by decide +kernel
theorem dX9_puts_97 : decode cX9_puts 97 = .ok (.iload 4, 2) := by decide +kernel
theorem dX9_puts_99 : decode cX9_puts 99 = .ok (.iadd, 1) := by decide +kernel
theorem dX9_puts_100 : decode cX9_puts 100 = .ok (.putfield 331, 3) := by decide +kernel
theorem dX9_puts_103 : decode cX9_puts 103 = .ok (.aload_n 0, 1) := by decide +kernel
theorem dX9_puts_104 : decode cX9_puts 104 = .ok (.dup, 1) := by decide +kernel
theorem dX9_puts_105 : decode cX9_puts 105 = .ok (.getfield 334, 3) := by decide +kernel
theorem dX9_puts_108 : decode cX9_puts 108 = .ok (.iconst 1, 1) := by decide +kernel
theorem dX9_puts_109 : decode cX9_puts 109 = .ok (.iadd, 1) := by decide +kernel
theorem dX9_puts_110 : decode cX9_puts 110 = .ok (.putfield 334, 3) := by decide +kernel
theorem dX9_puts_113 : decode cX9_puts 113 = .ok (.iload 4, 2) := by decide +kernel
theorem dX9_puts_115 : decode cX9_puts 115 = .ok (.ireturn, 1) := by decide +kernel
theorem dX9_out_0 : decode cX9_out 0 = .ok (.aload_n 0, 1) := by decide +kernel
theorem dX9_out_1 : decode cX9_out 1 = .ok (.iload_n 1, 1) := by decide +kernel
theorem dX9_out_2 : decode cX9_out 2 = .ok (.invokevirtual 136, 3) := by decide +kernel
theorem dX9_out_5 : decode cX9_out 5 = .ok (.ifCond .ne 5, 3) := by decide +kernel
theorem dX9_out_8 : decode cX9_out 8 = .ok (.iconst (-1), 1) := by decide +kernel
theorem dX9_out_9 : decode cX9_out 9 = .ok (.ireturn, 1) := by decide +kernel
theorem dX9_out_10 : decode cX9_out 10 = .ok (.aload_n 0, 1) := by decide +kernel
theorem dX9_out_11 : decode cX9_out 11 = .ok (.getfield 32, 3) := by decide +kernel
theorem dX9_out_14 : decode cX9_out 14 = .ok (.iload_n 1, 1) := by decide +kernel
theorem dX9_out_15 : decode cX9_out 15 = .ok (.iaload, 1) := by decide +kernel
theorem dX9_out_16 : decode cX9_out 16 = .ok (.bipush (-2), 2) := by decide +kernel
theorem dX9_out_18 : decode cX9_out 18 = .ok (.if_icmp .ne 6, 3) := by decide +kernel
theorem dX9_out_21 : decode cX9_out 21 = .ok (.bipush (-5), 2) := by decide +kernel
theorem dX9_out_23 : decode cX9_out 23 = .ok (.ireturn, 1) := by decide +kernel
theorem dX9_out_24 : decode cX9_out 24 = .ok (.aload_n 0, 1) := by decide +kernel
theorem dX9_out_25 : decode cX9_out 25 = .ok (.getfield 32, 3) := by decide +kernel
theorem dX9_out_28 : decode cX9_out 28 = .ok (.iload_n 1, 1) := by decide +kernel
theorem dX9_out_29 : decode cX9_out 29 = .ok (.iaload, 1) := by decide +kernel
theorem dX9_out_30 : decode cX9_out 30 = .ok (.istore_n 2, 1) := by decide +kernel
theorem dX9_out_31 : decode cX9_out 31 = .ok (.aload_n 0, 1) := by decide +kernel
theorem dX9_out_32 : decode cX9_out 32 = .ok (.getfield 32, 3) := by decide +kernel
theorem dX9_out_35 : decode cX9_out 35 = .ok (.iload_n 1, 1) := by decide +kernel
theorem dX9_out_36 : decode cX9_out 36 = .ok (.bipush (-2), 2) := by decide +kernel
theorem dX9_out_38 : decode cX9_out 38 = .ok (.iastore, 1) := by decide +kernel
theorem dX9_out_39 : decode cX9_out 39 = .ok (.aload_n 0, 1) := by decide +kernel
theorem dX9_out_40 : decode cX9_out 40 = .ok (.dup, 1) := by decide +kernel
theorem dX9_out_41 : decode cX9_out 41 = .ok (.getfield 337, 3) := by decide +kernel
theorem dX9_out_44 : decode cX9_out 44 = .ok (.iconst 1, 1) := by decide +kernel
theorem dX9_out_45 : decode cX9_out 45 = .ok (.iadd, 1) := by decide +kernel
theorem dX9_out_46 : decode cX9_out 46 = .ok (.putfield 337, 3) := by decide +kernel
theorem dX9_out_49 : decode cX9_out 49 = .ok (.iload_n 2, 1) := by decide +kernel
theorem dX9_out_50 : decode cX9_out 50 = .ok (.ireturn, 1) := by decide +kernel
theorem dX9_night_0 : decode cX9_night 0 = .ok (.iconst 0, 1) := by decide +kernel
theorem dX9_night_1 : decode cX9_night 1 = .ok (.istore_n 1, 1) := by decide +kernel
theorem dX9_night_2 : decode cX9_night 2 = .ok (.iconst 0, 1) := by decide +kernel
theorem dX9_night_3 : decode cX9_night 3 = .ok (.istore_n 2, 1) := by decide +kernel
theorem dX9_night_4 : decode cX9_night 4 = .ok (.iload_n 2, 1) := by decide +kernel
theorem dX9_night_5 : decode cX9_night 5 = .ok (.aload_n 0, 1) := by decide +kernel
theorem dX9_night_6 : decode cX9_night 6 = .ok (.getfield 111, 3) := by decide +kernel
theorem dX9_night_9 : decode cX9_night 9 = .ok (.if_icmp .ge 40, 3) := by decide +kernel
theorem dX9_night_12 : decode cX9_night 12 = .ok (.iload_n 1, 1) := by decide +kernel
theorem dX9_night_13 : decode cX9_night 13 = .ok (.aload_n 0, 1) := by decide +kernel
theorem dX9_night_14 : decode cX9_night 14 = .ok (.aload_n 0, 1) := by decide +kernel
theorem dX9_night_15 : decode cX9_night 15 = .ok (.getfield 32, 3) := by decide +kernel
theorem dX9_night_18 : decode cX9_night 18 = .ok (.iload_n 2, 1) := by decide +kernel
theorem dX9_night_19 : decode cX9_night 19 = .ok (.iaload, 1) := by decide +kernel
theorem dX9_night_20 : decode cX9_night 20 = .ok (.bipush (-2), 2) := by decide +kernel
theorem dX9_night_22 : decode cX9_night 22 = .ok (.if_icmp .eq 7, 3) := by decide +kernel
theorem dX9_night_25 : decode cX9_night 25 = .ok (.iconst 1, 1) := by decide +kernel
theorem dX9_night_26 : decode cX9_night 26 = .ok (.goto 4, 3) := by decide +kernel
theorem dX9_night_29 : decode cX9_night 29 = .ok (.iconst 0, 1) := by decide +kernel
theorem dX9_night_30 : decode cX9_night 30 = .ok (.invokevirtual 228, 3) := by decide +kernel
theorem dX9_night_33 : decode cX9_night 33 = .ok (.iadd, 1) := by decide +kernel
theorem dX9_night_34 : decode cX9_night 34 = .ok (.istore_n 1, 1) := by decide +kernel
theorem dX9_night_35 : decode cX9_night 35 = .ok (.aload_n 0, 1) := by decide +kernel
theorem dX9_night_36 : decode cX9_night 36 = .ok (.getfield 32, 3) := by decide +kernel
theorem dX9_night_39 : decode cX9_night 39 = .ok (.iload_n 2, 1) := by decide +kernel
theorem dX9_night_40 : decode cX9_night 40 = .ok (.bipush (-2), 2) := by decide +kernel
theorem dX9_night_42 : decode cX9_night 42 = .ok (.iastore, 1) := by decide +kernel
theorem dX9_night_43 : decode cX9_night 43 = .ok (.iinc 2 1, 3) := by decide +kernel
theorem dX9_night_46 : decode cX9_night 46 = .ok (.goto (-42), 3) := by decide +kernel
theorem dX9_night_49 : decode cX9_night 49 = .ok (.aload_n 0, 1) := by decide +kernel
theorem dX9_night_50 : decode cX9_night 50 = .ok (.dup, 1) := by decide +kernel
theorem dX9_night_51 : decode cX9_night 51 = .ok (.getfield 340, 3) := by decide +kernel
theorem dX9_night_54 : decode cX9_night 54 = .ok (.iconst 1, 1) := by decide +kernel
theorem dX9_night_55 : decode cX9_night 55 = .ok (.iadd, 1) := by decide +kernel
theorem dX9_night_56 : decode cX9_night 56 = .ok (.putfield 340, 3) := by decide +kernel
theorem dX9_night_59 : decode cX9_night 59 = .ok (.iload_n 1, 1) := by decide +kernel
theorem dX9_night_60 : decode cX9_night 60 = .ok (.ireturn, 1) := by decide +kernel
theorem dX9_led_0 : decode cX9_led 0 = .ok (.iload_n 1, 1) := by decide +kernel
theorem dX9_led_1 : decode cX9_led 1 = .ok (.tableswitch 51 0 3 #[31, 36, 41, 46], 31) := by decide +kernel
theorem dX9_led_32 : decode cX9_led 32 = .ok (.aload_n 0, 1) := by decide +kernel
theorem dX9_led_33 : decode cX9_led 33 = .ok (.getfield 331, 3) := by decide +kernel
theorem dX9_led_36 : decode cX9_led 36 = .ok (.ireturn, 1) := by decide +kernel
theorem dX9_led_37 : decode cX9_led 37 = .ok (.aload_n 0, 1) := by decide +kernel
theorem dX9_led_38 : decode cX9_led 38 = .ok (.getfield 334, 3) := by decide +kernel
theorem dX9_led_41 : decode cX9_led 41 = .ok (.ireturn, 1) := by decide +kernel
theorem dX9_led_42 : decode cX9_led 42 = .ok (.aload_n 0, 1) := by decide +kernel
theorem dX9_led_43 : decode cX9_led 43 = .ok (.getfield 337, 3) := by decide +kernel
theorem dX9_led_46 : decode cX9_led 46 = .ok (.ireturn, 1) := by decide +kernel
theorem dX9_led_47 : decode cX9_led 47 = .ok (.aload_n 0, 1) := by decide +kernel
theorem dX9_led_48 : decode cX9_led 48 = .ok (.getfield 340, 3) := by decide +kernel
theorem dX9_led_51 : decode cX9_led 51 = .ok (.ireturn, 1) := by decide +kernel
theorem dX9_led_52 : decode cX9_led 52 = .ok (.iconst (-1), 1) := by decide +kernel
theorem dX9_led_53 : decode cX9_led 53 = .ok (.ireturn, 1) := by decide +kernel
theorem dX9_image_0 : decode cX9_image 0 = .ok (.aload_n 0, 1) := by decide +kernel
theorem dX9_image_1 : decode cX9_image 1 = .ok (.aload_n 0, 1) := by decide +kernel
theorem dX9_image_2 : decode cX9_image 2 = .ok (.getfield 111, 3) := by decide +kernel
theorem dX9_image_5 : decode cX9_image 5 = .ok (.putfield 80, 3) := by decide +kernel
theorem dX9_image_8 : decode cX9_image 8 = .ok (.iconst 0, 1) := by decide +kernel
theorem dX9_image_9 : decode cX9_image 9 = .ok (.istore_n 1, 1) := by decide +kernel
theorem dX9_image_10 : decode cX9_image 10 = .ok (.iload_n 1, 1) := by decide +kernel
theorem dX9_image_11 : decode cX9_image 11 = .ok (.aload_n 0, 1) := by decide +kernel
theorem dX9_image_12 : decode cX9_image 12 = .ok (.getfield 111, 3) := by decide +kernel
theorem dX9_image_15 : decode cX9_image 15 = .ok (.if_icmp .ge 21, 3) := by decide +kernel
theorem dX9_image_18 : decode cX9_image 18 = .ok (.aload_n 0, 1) := by decide +kernel
theorem dX9_image_19 : decode cX9_image 19 = .ok (.getfield 77, 3) := by decide +kernel
theorem dX9_image_22 : decode cX9_image 22 = .ok (.iload_n 1, 1) := by decide +kernel
theorem dX9_image_23 : decode cX9_image 23 = .ok (.aload_n 0, 1) := by decide +kernel
theorem dX9_image_24 : decode cX9_image 24 = .ok (.getfield 32, 3) := by decide +kernel
theorem dX9_image_27 : decode cX9_image 27 = .ok (.iload_n 1, 1) := by decide +kernel
theorem dX9_image_28 : decode cX9_image 28 = .ok (.iaload, 1) := by decide +kernel
theorem dX9_image_29 : decode cX9_image 29 = .ok (.iastore, 1) := by decide +kernel
theorem dX9_image_30 : decode cX9_image 30 = .ok (.iinc 1 1, 3) := by decide +kernel
theorem dX9_image_33 : decode cX9_image 33 = .ok (.goto (-23), 3) := by decide +kernel
theorem dX9_image_36 : decode cX9_image 36 = .ok (.aload_n 0, 1) := by decide +kernel
theorem dX9_image_37 : decode cX9_image 37 = .ok (.getfield 77, 3) := by decide +kernel
theorem dX9_image_40 : decode cX9_image 40 = .ok (.bipush 6, 2) := by decide +kernel
theorem dX9_image_42 : decode cX9_image 42 = .ok (.aload_n 0, 1) := by decide +kernel
theorem dX9_image_43 : decode cX9_image 43 = .ok (.getfield 41, 3) := by decide +kernel
theorem dX9_image_46 : decode cX9_image 46 = .ok (.iconst 0, 1) := by decide +kernel
theorem dX9_image_47 : decode cX9_image 47 = .ok (.iaload, 1) := by decide +kernel
theorem dX9_image_48 : decode cX9_image 48 = .ok (.iastore, 1) := by decide +kernel
theorem dX9_image_49 : decode cX9_image 49 = .ok (.aload_n 0, 1) := by decide +kernel
theorem dX9_image_50 : decode cX9_image 50 = .ok (.getfield 77, 3) := by decide +kernel
theorem dX9_image_53 : decode cX9_image 53 = .ok (.bipush 7, 2) := by decide +kernel
theorem dX9_image_55 : decode cX9_image 55 = .ok (.aload_n 0, 1) := by decide +kernel
theorem dX9_image_56 : decode cX9_image 56 = .ok (.getfield 41, 3) := by decide +kernel
theorem dX9_image_59 : decode cX9_image 59 = .ok (.iconst 1, 1) := by decide +kernel
theorem dX9_image_60 : decode cX9_image 60 = .ok (.iaload, 1) := by decide +kernel
theorem dX9_image_61 : decode cX9_image 61 = .ok (.iastore, 1) := by decide +kernel
theorem dX9_image_62 : decode cX9_image 62 = .ok (.aload_n 0, 1) := by decide +kernel
theorem dX9_image_63 : decode cX9_image 63 = .ok (.getfield 77, 3) := by decide +kernel
theorem dX9_image_66 : decode cX9_image 66 = .ok (.bipush 8, 2) := by decide +kernel
theorem dX9_image_68 : decode cX9_image 68 = .ok (.aload_n 0, 1) := by decide +kernel
theorem dX9_image_69 : decode cX9_image 69 = .ok (.getfield 331, 3) := by decide +kernel
theorem dX9_image_72 : decode cX9_image 72 = .ok (.iastore, 1) := by decide +kernel
theorem dX9_image_73 : decode cX9_image 73 = .ok (.aload_n 0, 1) := by decide +kernel
theorem dX9_image_74 : decode cX9_image 74 = .ok (.getfield 77, 3) := by decide +kernel
theorem dX9_image_77 : decode cX9_image 77 = .ok (.bipush 9, 2) := by decide +kernel
theorem dX9_image_79 : decode cX9_image 79 = .ok (.aload_n 0, 1) := by decide +kernel
theorem dX9_image_80 : decode cX9_image 80 = .ok (.getfield 334, 3) := by decide +kernel
theorem dX9_image_83 : decode cX9_image 83 = .ok (.iastore, 1) := by decide +kernel
theorem dX9_image_84 : decode cX9_image 84 = .ok (.aload_n 0, 1) := by decide +kernel
theorem dX9_image_85 : decode cX9_image 85 = .ok (.getfield 77, 3) := by decide +kernel
theorem dX9_image_88 : decode cX9_image 88 = .ok (.bipush 10, 2) := by decide +kernel
theorem dX9_image_90 : decode cX9_image 90 = .ok (.aload_n 0, 1) := by decide +kernel
theorem dX9_image_91 : decode cX9_image 91 = .ok (.getfield 337, 3) := by decide +kernel
theorem dX9_image_94 : decode cX9_image 94 = .ok (.iastore, 1) := by decide +kernel
theorem dX9_image_95 : decode cX9_image 95 = .ok (.aload_n 0, 1) := by decide +kernel
theorem dX9_image_96 : decode cX9_image 96 = .ok (.getfield 77, 3) := by decide +kernel
theorem dX9_image_99 : decode cX9_image 99 = .ok (.bipush 11, 2) := by decide +kernel
theorem dX9_image_101 : decode cX9_image 101 = .ok (.aload_n 0, 1) := by decide +kernel
theorem dX9_image_102 : decode cX9_image 102 = .ok (.getfield 340, 3) := by decide +kernel
theorem dX9_image_105 : decode cX9_image 105 = .ok (.iastore, 1) := by decide +kernel
theorem dX9_image_106 : decode cX9_image 106 = .ok (.aload_n 0, 1) := by decide +kernel
theorem dX9_image_107 : decode cX9_image 107 = .ok (.getfield 331, 3) := by decide +kernel
theorem dX9_image_110 : decode cX9_image 110 = .ok (.ireturn, 1) := by decide +kernel
theorem dX9_back_0 : decode cX9_back 0 = .ok (.aload_n 0, 1) := by decide +kernel
theorem dX9_back_1 : decode cX9_back 1 = .ok (.getfield 80, 3) := by decide +kernel
theorem dX9_back_4 : decode cX9_back 4 = .ok (.ifCond .ge 6, 3) := by decide +kernel
theorem dX9_back_7 : decode cX9_back 7 = .ok (.bipush (-5), 2) := by decide +kernel
theorem dX9_back_9 : decode cX9_back 9 = .ok (.ireturn, 1) := by decide +kernel
theorem dX9_back_10 : decode cX9_back 10 = .ok (.iconst 0, 1) := by decide +kernel
theorem dX9_back_11 : decode cX9_back 11 = .ok (.istore_n 1, 1) := by decide +kernel
theorem dX9_back_12 : decode cX9_back 12 = .ok (.iload_n 1, 1) := by decide +kernel
theorem dX9_back_13 : decode cX9_back 13 = .ok (.aload_n 0, 1) := by decide +kernel
theorem dX9_back_14 : decode cX9_back 14 = .ok (.getfield 111, 3) := by decide +kernel
theorem dX9_back_17 : decode cX9_back 17 = .ok (.if_icmp .ge 34, 3) := by decide +kernel
theorem dX9_back_20 : decode cX9_back 20 = .ok (.aload_n 0, 1) := by decide +kernel
theorem dX9_back_21 : decode cX9_back 21 = .ok (.getfield 32, 3) := by decide +kernel
theorem dX9_back_24 : decode cX9_back 24 = .ok (.iload_n 1, 1) := by decide +kernel
theorem dX9_back_25 : decode cX9_back 25 = .ok (.iload_n 1, 1) := by decide +kernel
theorem dX9_back_26 : decode cX9_back 26 = .ok (.aload_n 0, 1) := by decide +kernel
theorem dX9_back_27 : decode cX9_back 27 = .ok (.getfield 80, 3) := by decide +kernel
theorem dX9_back_30 : decode cX9_back 30 = .ok (.if_icmp .ge 12, 3) := by decide +kernel
theorem dX9_back_33 : decode cX9_back 33 = .ok (.aload_n 0, 1) := by decide +kernel
theorem dX9_back_34 : decode cX9_back 34 = .ok (.getfield 77, 3) := by decide +kernel
theorem dX9_back_37 : decode cX9_back 37 = .ok (.iload_n 1, 1) := by decide +kernel
theorem dX9_back_38 : decode cX9_back 38 = .ok (.iaload, 1) := by decide +kernel
theorem dX9_back_39 : decode cX9_back 39 = .ok (.goto 5, 3) := by decide +kernel
theorem dX9_back_42 : decode cX9_back 42 = .ok (.bipush (-2), 2) := by decide +kernel
theorem dX9_back_44 : decode cX9_back 44 = .ok (.iastore, 1) := by decide +kernel
theorem dX9_back_45 : decode cX9_back 45 = .ok (.iinc 1 1, 3) := by decide +kernel
theorem dX9_back_48 : decode cX9_back 48 = .ok (.goto (-36), 3) := by decide +kernel
theorem dX9_back_51 : decode cX9_back 51 = .ok (.aload_n 0, 1) := by decide +kernel
theorem dX9_back_52 : decode cX9_back 52 = .ok (.getfield 41, 3) := by decide +kernel
theorem dX9_back_55 : decode cX9_back 55 = .ok (.iconst 0, 1) := by decide +kernel
theorem dX9_back_56 : decode cX9_back 56 = .ok (.aload_n 0, 1) := by decide +kernel
theorem dX9_back_57 : decode cX9_back 57 = .ok (.getfield 77, 3) := by decide +kernel
theorem dX9_back_60 : decode cX9_back 60 = .ok (.bipush 6, 2) := by decide +kernel
theorem dX9_back_62 : decode cX9_back 62 = .ok (.iaload, 1) := by decide +kernel
theorem dX9_back_63 : decode cX9_back 63 = .ok (.iastore, 1) := by decide +kernel
theorem dX9_back_64 : decode cX9_back 64 = .ok (.aload_n 0, 1) := by decide +kernel
theorem dX9_back_65 : decode cX9_back 65 = .ok (.getfield 41, 3) := by decide +kernel
theorem dX9_back_68 : decode cX9_back 68 = .ok (.iconst 1, 1) := by decide +kernel
theorem dX9_back_69 : decode cX9_back 69 = .ok (.aload_n 0, 1) := by decide +kernel
theorem dX9_back_70 : decode cX9_back 70 = .ok (.getfield 77, 3) := by decide +kernel
theorem dX9_back_73 : decode cX9_back 73 = .ok (.bipush 7, 2) := by decide +kernel
theorem dX9_back_75 : decode cX9_back 75 = .ok (.iaload, 1) := by decide +kernel
theorem dX9_back_76 : decode cX9_back 76 = .ok (.iastore, 1) := by decide +kernel
theorem dX9_back_77 : decode cX9_back 77 = .ok (.aload_n 0, 1) := by decide +kernel
theorem dX9_back_78 : decode cX9_back 78 = .ok (.aload_n 0, 1) := by decide +kernel
theorem dX9_back_79 : decode cX9_back 79 = .ok (.getfield 77, 3) := by decide +kernel
theorem dX9_back_82 : decode cX9_back 82 = .ok (.bipush 8, 2) := by decide +kernel
theorem dX9_back_84 : decode cX9_back 84 = .ok (.iaload, 1) := by decide +kernel
theorem dX9_back_85 : decode cX9_back 85 = .ok (.putfield 331, 3) := by decide +kernel
theorem dX9_back_88 : decode cX9_back 88 = .ok (.aload_n 0, 1) := by decide +kernel
theorem dX9_back_89 : decode cX9_back 89 = .ok (.aload_n 0, 1) := by decide +kernel
theorem dX9_back_90 : decode cX9_back 90 = .ok (.getfield 77, 3) := by decide +kernel
theorem dX9_back_93 : decode cX9_back 93 = .ok (.bipush 9, 2) := by decide +kernel
theorem dX9_back_95 : decode cX9_back 95 = .ok (.iaload, 1) := by decide +kernel
theorem dX9_back_96 : decode cX9_back 96 = .ok (.putfield 334, 3) := by decide +kernel
theorem dX9_back_99 : decode cX9_back 99 = .ok (.aload_n 0, 1) := by decide +kernel
theorem dX9_back_100 : decode cX9_back 100 = .ok (.aload_n 0, 1) := by decide +kernel
theorem dX9_back_101 : decode cX9_back 101 = .ok (.getfield 77, 3) := by decide +kernel
theorem dX9_back_104 : decode cX9_back 104 = .ok (.bipush 10, 2) := by decide +kernel
theorem dX9_back_106 : decode cX9_back 106 = .ok (.iaload, 1) := by decide +kernel
theorem dX9_back_107 : decode cX9_back 107 = .ok (.putfield 337, 3) := by decide +kernel
theorem dX9_back_110 : decode cX9_back 110 = .ok (.aload_n 0, 1) := by decide +kernel
theorem dX9_back_111 : decode cX9_back 111 = .ok (.aload_n 0, 1) := by decide +kernel
theorem dX9_back_112 : decode cX9_back 112 = .ok (.getfield 77, 3) := by decide +kernel
theorem dX9_back_115 : decode cX9_back 115 = .ok (.bipush 11, 2) := by decide +kernel
theorem dX9_back_117 : decode cX9_back 117 = .ok (.iaload, 1) := by decide +kernel
theorem dX9_back_118 : decode cX9_back 118 = .ok (.putfield 340, 3) := by decide +kernel
theorem dX9_back_121 : decode cX9_back 121 = .ok (.aload_n 0, 1) := by decide +kernel
theorem dX9_back_122 : decode cX9_back 122 = .ok (.getfield 331, 3) := by decide +kernel
theorem dX9_back_125 : decode cX9_back 125 = .ok (.ireturn, 1) := by decide +kernel
theorem dX9_body_0 : decode cX9_body 0 = .ok (.aload_n 0, 1) := by decide +kernel
theorem dX9_body_1 : decode cX9_body 1 = .ok (.iload_n 1, 1) := by decide +kernel
theorem dX9_body_2 : decode cX9_body 2 = .ok (.iconst 0, 1) := by decide +kernel
theorem dX9_body_3 : decode cX9_body 3 = .ok (.bipush 7, 2) := by decide +kernel
theorem dX9_body_5 : decode cX9_body 5 = .ok (.invokevirtual 114, 3) := by decide +kernel
theorem dX9_body_8 : decode cX9_body 8 = .ok (.ifCond .ne 5, 3) := by decide +kernel
theorem dX9_body_11 : decode cX9_body 11 = .ok (.iconst (-1), 1) := by decide +kernel
theorem dX9_body_12 : decode cX9_body 12 = .ok (.ireturn, 1) := by decide +kernel
theorem dX9_body_13 : decode cX9_body 13 = .ok (.aload_n 0, 1) := by decide +kernel
theorem dX9_body_14 : decode cX9_body 14 = .ok (.getfield 343, 3) := by decide +kernel
theorem dX9_body_17 : decode cX9_body 17 = .ok (.bipush 50, 2) := by decide +kernel
theorem dX9_body_19 : decode cX9_body 19 = .ok (.if_icmp .ne 6, 3) := by decide +kernel
theorem dX9_body_22 : decode cX9_body 22 = .ok (.bipush (-3), 2) := by decide +kernel
theorem dX9_body_24 : decode cX9_body 24 = .ok (.ireturn, 1) := by decide +kernel
theorem dX9_body_25 : decode cX9_body 25 = .ok (.aload_n 0, 1) := by decide +kernel
theorem dX9_body_26 : decode cX9_body 26 = .ok (.getfield 83, 3) := by decide +kernel
theorem dX9_body_29 : decode cX9_body 29 = .ok (.aload_n 0, 1) := by decide +kernel
theorem dX9_body_30 : decode cX9_body 30 = .ok (.getfield 343, 3) := by decide +kernel
theorem dX9_body_33 : decode cX9_body 33 = .ok (.iload_n 1, 1) := by decide +kernel
theorem dX9_body_34 : decode cX9_body 34 = .ok (.iastore, 1) := by decide +kernel
theorem dX9_body_35 : decode cX9_body 35 = .ok (.aload_n 0, 1) := by decide +kernel
theorem dX9_body_36 : decode cX9_body 36 = .ok (.dup, 1) := by decide +kernel
theorem dX9_body_37 : decode cX9_body 37 = .ok (.getfield 343, 3) := by decide +kernel
theorem dX9_body_40 : decode cX9_body 40 = .ok (.dup_x1, 1) := by decide +kernel
theorem dX9_body_41 : decode cX9_body 41 = .ok (.iconst 1, 1) := by decide +kernel
theorem dX9_body_42 : decode cX9_body 42 = .ok (.iadd, 1) := by decide +kernel
theorem dX9_body_43 : decode cX9_body 43 = .ok (.putfield 343, 3) := by decide +kernel
theorem dX9_body_46 : decode cX9_body 46 = .ok (.ireturn, 1) := by decide +kernel
theorem dX9_runs_0 : decode cX9_runs 0 = .ok (.aload_n 0, 1) := by decide +kernel
theorem dX9_runs_1 : decode cX9_runs 1 = .ok (.getfield 346, 3) := by decide +kernel
theorem dX9_runs_4 : decode cX9_runs 4 = .ok (.bipush 24, 2) := by decide +kernel
theorem dX9_runs_6 : decode cX9_runs 6 = .ok (.if_icmp .ge 13, 3) := by decide +kernel
theorem dX9_runs_9 : decode cX9_runs 9 = .ok (.aload_n 0, 1) := by decide +kernel
theorem dX9_runs_10 : decode cX9_runs 10 = .ok (.getfield 86, 3) := by decide +kernel
theorem dX9_runs_13 : decode cX9_runs 13 = .ok (.aload_n 0, 1) := by decide +kernel
theorem dX9_runs_14 : decode cX9_runs 14 = .ok (.getfield 346, 3) := by decide +kernel
theorem dX9_runs_17 : decode cX9_runs 17 = .ok (.iload_n 1, 1) := by decide +kernel
theorem dX9_runs_18 : decode cX9_runs 18 = .ok (.iastore, 1) := by decide +kernel
theorem dX9_runs_19 : decode cX9_runs 19 = .ok (.aload_n 0, 1) := by decide +kernel
theorem dX9_runs_20 : decode cX9_runs 20 = .ok (.dup, 1) := by decide +kernel
theorem dX9_runs_21 : decode cX9_runs 21 = .ok (.getfield 346, 3) := by decide +kernel
theorem dX9_runs_24 : decode cX9_runs 24 = .ok (.iconst 1, 1) := by decide +kernel
theorem dX9_runs_25 : decode cX9_runs 25 = .ok (.iadd, 1) := by decide +kernel
theorem dX9_runs_26 : decode cX9_runs 26 = .ok (.putfield 346, 3) := by decide +kernel
theorem dX9_runs_29 : decode cX9_runs 29 = .ok (.return_, 1) := by decide +kernel
theorem dX9_above_0 : decode cX9_above 0 = .ok (.iload_n 1, 1) := by decide +kernel
theorem dX9_above_1 : decode cX9_above 1 = .ok (.tableswitch 43 3 7 #[35, 37, 39, 43, 41], 35) := by decide +kernel
theorem dX9_above_36 : decode cX9_above 36 = .ok (.iconst 2, 1) := by decide +kernel
theorem dX9_above_37 : decode cX9_above 37 = .ok (.ireturn, 1) := by decide +kernel
theorem dX9_above_38 : decode cX9_above 38 = .ok (.iconst 1, 1) := by decide +kernel
theorem dX9_above_39 : decode cX9_above 39 = .ok (.ireturn, 1) := by decide +kernel
theorem dX9_above_40 : decode cX9_above 40 = .ok (.iconst 3, 1) := by decide +kernel
theorem dX9_above_41 : decode cX9_above 41 = .ok (.ireturn, 1) := by decide +kernel
theorem dX9_above_42 : decode cX9_above 42 = .ok (.iconst 4, 1) := by decide +kernel
theorem dX9_above_43 : decode cX9_above 43 = .ok (.ireturn, 1) := by decide +kernel
theorem dX9_above_44 : decode cX9_above 44 = .ok (.iload_n 1, 1) := by decide +kernel
theorem dX9_above_45 : decode cX9_above 45 = .ok (.ifCond .ne 7, 3) := by decide +kernel
theorem dX9_above_48 : decode cX9_above 48 = .ok (.iconst (-1), 1) := by decide +kernel
theorem dX9_above_49 : decode cX9_above 49 = .ok (.goto 4, 3) := by decide +kernel
theorem dX9_above_52 : decode cX9_above 52 = .ok (.iconst 0, 1) := by decide +kernel
theorem dX9_above_53 : decode cX9_above 53 = .ok (.ireturn, 1) := by decide +kernel
theorem dX9_rings_0 : decode cX9_rings 0 = .ok (.iload_n 2, 1) := by decide +kernel
theorem dX9_rings_1 : decode cX9_rings 1 = .ok (.iconst 1, 1) := by decide +kernel
theorem dX9_rings_2 : decode cX9_rings 2 = .ok (.if_icmp .ne 23, 3) := by decide +kernel
theorem dX9_rings_5 : decode cX9_rings 5 = .ok (.aload_n 0, 1) := by decide +kernel
theorem dX9_rings_6 : decode cX9_rings 6 = .ok (.bipush 20, 2) := by decide +kernel
theorem dX9_rings_8 : decode cX9_rings 8 = .ok (.invokevirtual 349, 3) := by decide +kernel
theorem dX9_rings_11 : decode cX9_rings 11 = .ok (.aload_n 0, 1) := by decide +kernel
theorem dX9_rings_12 : decode cX9_rings 12 = .ok (.iload_n 1, 1) := by decide +kernel
theorem dX9_rings_13 : decode cX9_rings 13 = .ok (.aload_n 0, 1) := by decide +kernel
theorem dX9_rings_14 : decode cX9_rings 14 = .ok (.iload_n 2, 1) := by decide +kernel
theorem dX9_rings_15 : decode cX9_rings 15 = .ok (.invokevirtual 353, 3) := by decide +kernel
theorem dX9_rings_18 : decode cX9_rings 18 = .ok (.iload_n 3, 1) := by decide +kernel
theorem dX9_rings_19 : decode cX9_rings 19 = .ok (.invokevirtual 356, 3) := by decide +kernel
theorem dX9_rings_22 : decode cX9_rings 22 = .ok (.iconst 3, 1) := by decide +kernel
theorem dX9_rings_23 : decode cX9_rings 23 = .ok (.iadd, 1) := by decide +kernel
theorem dX9_rings_24 : decode cX9_rings 24 = .ok (.ireturn, 1) := by decide +kernel
theorem dX9_rings_25 : decode cX9_rings 25 = .ok (.iload_n 2, 1) := by decide +kernel
theorem dX9_rings_26 : decode cX9_rings 26 = .ok (.bipush 6, 2) := by decide +kernel
theorem dX9_rings_28 : decode cX9_rings 28 = .ok (.if_icmp .ne 23, 3) := by decide +kernel
theorem dX9_rings_31 : decode cX9_rings 31 = .ok (.aload_n 0, 1) := by decide +kernel
theorem dX9_rings_32 : decode cX9_rings 32 = .ok (.bipush 70, 2) := by decide +kernel
theorem dX9_rings_34 : decode cX9_rings 34 = .ok (.invokevirtual 349, 3) := by decide +kernel
theorem dX9_rings_37 : decode cX9_rings 37 = .ok (.aload_n 0, 1) := by decide +kernel
theorem dX9_rings_38 : decode cX9_rings 38 = .ok (.iload_n 1, 1) := by decide +kernel
theorem dX9_rings_39 : decode cX9_rings 39 = .ok (.aload_n 0, 1) := by decide +kernel
theorem dX9_rings_40 : decode cX9_rings 40 = .ok (.iload_n 2, 1) := by decide +kernel
theorem dX9_rings_41 : decode cX9_rings 41 = .ok (.invokevirtual 353, 3) := by decide +kernel
theorem dX9_rings_44 : decode cX9_rings 44 = .ok (.iload_n 3, 1) := by decide +kernel
theorem dX9_rings_45 : decode cX9_rings 45 = .ok (.invokevirtual 356, 3) := by decide +kernel
theorem dX9_rings_48 : decode cX9_rings 48 = .ok (.iconst 2, 1) := by decide +kernel
theorem dX9_rings_49 : decode cX9_rings 49 = .ok (.imul, 1) := by decide +kernel
theorem dX9_rings_50 : decode cX9_rings 50 = .ok (.ireturn, 1) := by decide +kernel
theorem dX9_rings_51 : decode cX9_rings 51 = .ok (.iload_n 2, 1) := by decide +kernel
theorem dX9_rings_52 : decode cX9_rings 52 = .ok (.ifCond .le 15, 3) := by decide +kernel
theorem dX9_rings_55 : decode cX9_rings 55 = .ok (.aload_n 0, 1) := by decide +kernel
theorem dX9_rings_56 : decode cX9_rings 56 = .ok (.iload_n 1, 1) := by decide +kernel
theorem dX9_rings_57 : decode cX9_rings 57 = .ok (.aload_n 0, 1) := by decide +kernel
theorem dX9_rings_58 : decode cX9_rings 58 = .ok (.iload_n 2, 1) := by decide +kernel
theorem dX9_rings_59 : decode cX9_rings 59 = .ok (.invokevirtual 353, 3) := by decide +kernel
theorem dX9_rings_62 : decode cX9_rings 62 = .ok (.iload_n 3, 1) := by decide +kernel
theorem dX9_rings_63 : decode cX9_rings 63 = .ok (.invokevirtual 356, 3) := by decide +kernel
theorem dX9_rings_66 : decode cX9_rings 66 = .ok (.ireturn, 1) := by decide +kernel
theorem dX9_rings_67 : decode cX9_rings 67 = .ok (.aload_n 0, 1) := by decide +kernel
theorem dX9_rings_68 : decode cX9_rings 68 = .ok (.iconst 1, 1) := by decide +kernel
theorem dX9_rings_69 : decode cX9_rings 69 = .ok (.invokevirtual 349, 3) := by decide +kernel
theorem dX9_rings_72 : decode cX9_rings 72 = .ok (.iload_n 3, 1) := by decide +kernel
theorem dX9_rings_73 : decode cX9_rings 73 = .ok (.iload_n 1, 1) := by decide +kernel
theorem dX9_rings_74 : decode cX9_rings 74 = .ok (.iadd, 1) := by decide +kernel
theorem dX9_rings_75 : decode cX9_rings 75 = .ok (.ireturn, 1) := by decide +kernel
theorem dX9_hears_0 : decode cX9_hears 0 = .ok (.iload_n 2, 1) := by decide +kernel
theorem dX9_hears_1 : decode cX9_hears 1 = .ok (.iconst 2, 1) := by decide +kernel
theorem dX9_hears_2 : decode cX9_hears 2 = .ok (.if_icmp .ne 22, 3) := by decide +kernel
theorem dX9_hears_5 : decode cX9_hears 5 = .ok (.aload_n 0, 1) := by decide +kernel
theorem dX9_hears_6 : decode cX9_hears 6 = .ok (.bipush 30, 2) := by decide +kernel
theorem dX9_hears_8 : decode cX9_hears 8 = .ok (.invokevirtual 349, 3) := by decide +kernel
theorem dX9_hears_11 : decode cX9_hears 11 = .ok (.aload_n 0, 1) := by decide +kernel
theorem dX9_hears_12 : decode cX9_hears 12 = .ok (.iload_n 1, 1) := by decide +kernel
theorem dX9_hears_13 : decode cX9_hears 13 = .ok (.aload_n 0, 1) := by decide +kernel
theorem dX9_hears_14 : decode cX9_hears 14 = .ok (.iload_n 2, 1) := by decide +kernel
theorem dX9_hears_15 : decode cX9_hears 15 = .ok (.invokevirtual 353, 3) := by decide +kernel
theorem dX9_hears_18 : decode cX9_hears 18 = .ok (.iload_n 3, 1) := by decide +kernel
theorem dX9_hears_19 : decode cX9_hears 19 = .ok (.invokevirtual 359, 3) := by decide +kernel
theorem dX9_hears_22 : decode cX9_hears 22 = .ok (.ineg, 1) := by decide +kernel
theorem dX9_hears_23 : decode cX9_hears 23 = .ok (.ireturn, 1) := by decide +kernel
theorem dX9_hears_24 : decode cX9_hears 24 = .ok (.iload_n 2, 1) := by decide +kernel
theorem dX9_hears_25 : decode cX9_hears 25 = .ok (.iconst 3, 1) := by decide +kernel
theorem dX9_hears_26 : decode cX9_hears 26 = .ok (.if_icmp .ne 23, 3) := by decide +kernel
theorem dX9_hears_29 : decode cX9_hears 29 = .ok (.aload_n 0, 1) := by decide +kernel
theorem dX9_hears_30 : decode cX9_hears 30 = .ok (.bipush 41, 2) := by decide +kernel
theorem dX9_hears_32 : decode cX9_hears 32 = .ok (.invokevirtual 349, 3) := by decide +kernel
theorem dX9_hears_35 : decode cX9_hears 35 = .ok (.aload_n 0, 1) := by decide +kernel
theorem dX9_hears_36 : decode cX9_hears 36 = .ok (.iload_n 1, 1) := by decide +kernel
theorem dX9_hears_37 : decode cX9_hears 37 = .ok (.aload_n 0, 1) := by decide +kernel
theorem dX9_hears_38 : decode cX9_hears 38 = .ok (.iload_n 2, 1) := by decide +kernel
theorem dX9_hears_39 : decode cX9_hears 39 = .ok (.invokevirtual 353, 3) := by decide +kernel
theorem dX9_hears_42 : decode cX9_hears 42 = .ok (.iload_n 3, 1) := by decide +kernel
theorem dX9_hears_43 : decode cX9_hears 43 = .ok (.iconst 1, 1) := by decide +kernel
theorem dX9_hears_44 : decode cX9_hears 44 = .ok (.iadd, 1) := by decide +kernel
theorem dX9_hears_45 : decode cX9_hears 45 = .ok (.invokevirtual 359, 3) := by decide +kernel
theorem dX9_hears_48 : decode cX9_hears 48 = .ok (.ireturn, 1) := by decide +kernel
theorem dX9_hears_49 : decode cX9_hears 49 = .ok (.iload_n 2, 1) := by decide +kernel
theorem dX9_hears_50 : decode cX9_hears 50 = .ok (.bipush 7, 2) := by decide +kernel
theorem dX9_hears_52 : decode cX9_hears 52 = .ok (.if_icmp .ne 38, 3) := by decide +kernel
theorem dX9_hears_55 : decode cX9_hears 55 = .ok (.aload_n 0, 1) := by decide +kernel
theorem dX9_hears_56 : decode cX9_hears 56 = .ok (.bipush 80, 2) := by decide +kernel
theorem dX9_hears_58 : decode cX9_hears 58 = .ok (.invokevirtual 349, 3) := by decide +kernel
theorem dX9_hears_61 : decode cX9_hears 61 = .ok (.aload_n 0, 1) := by decide +kernel
theorem dX9_hears_62 : decode cX9_hears 62 = .ok (.iload_n 1, 1) := by decide +kernel
theorem dX9_hears_63 : decode cX9_hears 63 = .ok (.aload_n 0, 1) := by decide +kernel
theorem dX9_hears_64 : decode cX9_hears 64 = .ok (.iload_n 2, 1) := by decide +kernel
theorem dX9_hears_65 : decode cX9_hears 65 = .ok (.invokevirtual 353, 3) := by decide +kernel
theorem dX9_hears_68 : decode cX9_hears 68 = .ok (.iload_n 3, 1) := by decide +kernel
theorem dX9_hears_69 : decode cX9_hears 69 = .ok (.invokevirtual 359, 3) := by decide +kernel
theorem dX9_hears_72 : decode cX9_hears 72 = .ok (.istore 4, 2) := by decide +kernel
theorem dX9_hears_74 : decode cX9_hears 74 = .ok (.iload 4, 2) := by decide +kernel
theorem dX9_hears_76 : decode cX9_hears 76 = .ok (.aload_n 0, 1) := by decide +kernel
theorem dX9_hears_77 : decode cX9_hears 77 = .ok (.iload_n 1, 1) := by decide +kernel
theorem dX9_hears_78 : decode cX9_hears 78 = .ok (.aload_n 0, 1) := by decide +kernel
theorem dX9_hears_79 : decode cX9_hears 79 = .ok (.getfield 83, 3) := by decide +kernel
theorem dX9_hears_82 : decode cX9_hears 82 = .ok (.iload_n 1, 1) := by decide +kernel
