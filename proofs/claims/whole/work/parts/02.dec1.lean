theorem dX8_how_9 : decode cX8_how 9 = .ok (.invokevirtual 132, 3) := by decide +kernel
theorem dX8_how_12 : decode cX8_how 12 = .ok (.ifCond .eq 10, 3) := by decide +kernel
theorem dX8_how_15 : decode cX8_how 15 = .ok (.iload_n 3, 1) := by decide +kernel
theorem dX8_how_16 : decode cX8_how 16 = .ok (.invokestatic 179, 3) := by decide +kernel
theorem dX8_how_19 : decode cX8_how 19 = .ok (.ifCond .ne 5, 3) := by decide +kernel
theorem dX8_how_22 : decode cX8_how 22 = .ok (.iconst (-1), 1) := by decide +kernel
theorem dX8_how_23 : decode cX8_how 23 = .ok (.ireturn, 1) := by decide +kernel
theorem dX8_how_24 : decode cX8_how 24 = .ok (.aload_n 0, 1) := by decide +kernel
theorem dX8_how_25 : decode cX8_how 25 = .ok (.getfield 58, 3) := by decide +kernel
theorem dX8_how_28 : decode cX8_how 28 = .ok (.iload_n 1, 1) := by decide +kernel
theorem dX8_how_29 : decode cX8_how 29 = .ok (.aaload, 1) := by decide +kernel
theorem dX8_how_30 : decode cX8_how 30 = .ok (.astore 4, 2) := by decide +kernel
theorem dX8_how_32 : decode cX8_how 32 = .ok (.aload 4, 2) := by decide +kernel
theorem dX8_how_34 : decode cX8_how 34 = .ok (.iconst 1, 1) := by decide +kernel
theorem dX8_how_35 : decode cX8_how 35 = .ok (.invokevirtual 224, 3) := by decide +kernel
theorem dX8_how_38 : decode cX8_how 38 = .ok (.ifCond .eq 10, 3) := by decide +kernel
theorem dX8_how_41 : decode cX8_how 41 = .ok (.aload 4, 2) := by decide +kernel
theorem dX8_how_43 : decode cX8_how 43 = .ok (.iconst 1, 1) := by decide +kernel
theorem dX8_how_44 : decode cX8_how 44 = .ok (.invokevirtual 224, 3) := by decide +kernel
theorem dX8_how_47 : decode cX8_how 47 = .ok (.ireturn, 1) := by decide +kernel
theorem dX8_how_48 : decode cX8_how 48 = .ok (.iload_n 3, 1) := by decide +kernel
theorem dX8_how_49 : decode cX8_how 49 = .ok (.ifCond .ne 20, 3) := by decide +kernel
theorem dX8_how_52 : decode cX8_how 52 = .ok (.aload_n 0, 1) := by decide +kernel
theorem dX8_how_53 : decode cX8_how 53 = .ok (.aload 4, 2) := by decide +kernel
theorem dX8_how_55 : decode cX8_how 55 = .ok (.iload_n 2, 1) := by decide +kernel
theorem dX8_how_56 : decode cX8_how 56 = .ok (.bipush 10, 2) := by decide +kernel
theorem dX8_how_58 : decode cX8_how 58 = .ok (.idiv, 1) := by decide +kernel
theorem dX8_how_59 : decode cX8_how 59 = .ok (.iload_n 2, 1) := by decide +kernel
theorem dX8_how_60 : decode cX8_how 60 = .ok (.bipush 10, 2) := by decide +kernel
theorem dX8_how_62 : decode cX8_how 62 = .ok (.irem, 1) := by decide +kernel
theorem dX8_how_63 : decode cX8_how 63 = .ok (.invokevirtual 231, 3) := by decide +kernel
theorem dX8_how_66 : decode cX8_how 66 = .ok (.goto 17, 3) := by decide +kernel
theorem dX8_how_69 : decode cX8_how 69 = .ok (.aload_n 0, 1) := by decide +kernel
theorem dX8_how_70 : decode cX8_how 70 = .ok (.aload 4, 2) := by decide +kernel
theorem dX8_how_72 : decode cX8_how 72 = .ok (.iload_n 2, 1) := by decide +kernel
theorem dX8_how_73 : decode cX8_how 73 = .ok (.bipush 10, 2) := by decide +kernel
theorem dX8_how_75 : decode cX8_how 75 = .ok (.idiv, 1) := by decide +kernel
theorem dX8_how_76 : decode cX8_how 76 = .ok (.iload_n 2, 1) := by decide +kernel
theorem dX8_how_77 : decode cX8_how 77 = .ok (.bipush 10, 2) := by decide +kernel
theorem dX8_how_79 : decode cX8_how 79 = .ok (.irem, 1) := by decide +kernel
theorem dX8_how_80 : decode cX8_how 80 = .ok (.invokevirtual 235, 3) := by decide +kernel
theorem dX8_how_83 : decode cX8_how 83 = .ok (.ireturn, 1) := by decide +kernel
theorem dX8_drawn_0 : decode cX8_drawn 0 = .ok (.aload_n 0, 1) := by decide +kernel
theorem dX8_drawn_1 : decode cX8_drawn 1 = .ok (.iload_n 1, 1) := by decide +kernel
theorem dX8_drawn_2 : decode cX8_drawn 2 = .ok (.invokevirtual 132, 3) := by decide +kernel
theorem dX8_drawn_5 : decode cX8_drawn 5 = .ok (.ifCond .eq 22, 3) := by decide +kernel
theorem dX8_drawn_8 : decode cX8_drawn 8 = .ok (.iload_n 3, 1) := by decide +kernel
theorem dX8_drawn_9 : decode cX8_drawn 9 = .ok (.iconst 1, 1) := by decide +kernel
theorem dX8_drawn_10 : decode cX8_drawn 10 = .ok (.if_icmp .lt 17, 3) := by decide +kernel
theorem dX8_drawn_13 : decode cX8_drawn 13 = .ok (.iload_n 3, 1) := by decide +kernel
theorem dX8_drawn_14 : decode cX8_drawn 14 = .ok (.bipush 50, 2) := by decide +kernel
theorem dX8_drawn_16 : decode cX8_drawn 16 = .ok (.if_icmp .gt 11, 3) := by decide +kernel
theorem dX8_drawn_19 : decode cX8_drawn 19 = .ok (.iload 4, 2) := by decide +kernel
theorem dX8_drawn_21 : decode cX8_drawn 21 = .ok (.invokestatic 179, 3) := by decide +kernel
theorem dX8_drawn_24 : decode cX8_drawn 24 = .ok (.ifCond .ne 5, 3) := by decide +kernel
theorem dX8_drawn_27 : decode cX8_drawn 27 = .ok (.iconst (-1), 1) := by decide +kernel
theorem dX8_drawn_28 : decode cX8_drawn 28 = .ok (.ireturn, 1) := by decide +kernel
theorem dX8_drawn_29 : decode cX8_drawn 29 = .ok (.aload_n 0, 1) := by decide +kernel
theorem dX8_drawn_30 : decode cX8_drawn 30 = .ok (.iload_n 1, 1) := by decide +kernel
theorem dX8_drawn_31 : decode cX8_drawn 31 = .ok (.bipush 10, 2) := by decide +kernel
theorem dX8_drawn_33 : decode cX8_drawn 33 = .ok (.idiv, 1) := by decide +kernel
theorem dX8_drawn_34 : decode cX8_drawn 34 = .ok (.iload_n 1, 1) := by decide +kernel
theorem dX8_drawn_35 : decode cX8_drawn 35 = .ok (.bipush 10, 2) := by decide +kernel
theorem dX8_drawn_37 : decode cX8_drawn 37 = .ok (.irem, 1) := by decide +kernel
theorem dX8_drawn_38 : decode cX8_drawn 38 = .ok (.invokevirtual 135, 3) := by decide +kernel
theorem dX8_drawn_41 : decode cX8_drawn 41 = .ok (.istore 5, 2) := by decide +kernel
theorem dX8_drawn_43 : decode cX8_drawn 43 = .ok (.iload_n 2, 1) := by decide +kernel
theorem dX8_drawn_44 : decode cX8_drawn 44 = .ok (.istore 6, 2) := by decide +kernel
theorem dX8_drawn_46 : decode cX8_drawn 46 = .ok (.iconst 0, 1) := by decide +kernel
theorem dX8_drawn_47 : decode cX8_drawn 47 = .ok (.istore 7, 2) := by decide +kernel
theorem dX8_drawn_49 : decode cX8_drawn 49 = .ok (.iconst 0, 1) := by decide +kernel
theorem dX8_drawn_50 : decode cX8_drawn 50 = .ok (.istore 8, 2) := by decide +kernel
theorem dX8_drawn_52 : decode cX8_drawn 52 = .ok (.iconst 0, 1) := by decide +kernel
theorem dX8_drawn_53 : decode cX8_drawn 53 = .ok (.istore 9, 2) := by decide +kernel
theorem dX8_drawn_55 : decode cX8_drawn 55 = .ok (.iload 9, 2) := by decide +kernel
theorem dX8_drawn_57 : decode cX8_drawn 57 = .ok (.iload_n 3, 1) := by decide +kernel
theorem dX8_drawn_58 : decode cX8_drawn 58 = .ok (.if_icmp .ge 106, 3) := by decide +kernel
theorem dX8_drawn_61 : decode cX8_drawn 61 = .ok (.iconst 0, 1) := by decide +kernel
theorem dX8_drawn_62 : decode cX8_drawn 62 = .ok (.istore 10, 2) := by decide +kernel
theorem dX8_drawn_64 : decode cX8_drawn 64 = .ok (.iconst 0, 1) := by decide +kernel
theorem dX8_drawn_65 : decode cX8_drawn 65 = .ok (.istore 11, 2) := by decide +kernel
theorem dX8_drawn_67 : decode cX8_drawn 67 = .ok (.iload 11, 2) := by decide +kernel
theorem dX8_drawn_69 : decode cX8_drawn 69 = .ok (.bipush 20, 2) := by decide +kernel
theorem dX8_drawn_71 : decode cX8_drawn 71 = .ok (.if_icmp .ge 79, 3) := by decide +kernel
theorem dX8_drawn_74 : decode cX8_drawn 74 = .ok (.iload 10, 2) := by decide +kernel
theorem dX8_drawn_76 : decode cX8_drawn 76 = .ok (.ifCond .ne 74, 3) := by decide +kernel
theorem dX8_drawn_79 : decode cX8_drawn 79 = .ok (.iload 6, 2) := by decide +kernel
theorem dX8_drawn_81 : decode cX8_drawn 81 = .ok (.ldc 238, 2) := by decide +kernel
theorem dX8_drawn_83 : decode cX8_drawn 83 = .ok (.imul, 1) := by decide +kernel
theorem dX8_drawn_84 : decode cX8_drawn 84 = .ok (.sipush 12345, 3) := by decide +kernel
theorem dX8_drawn_87 : decode cX8_drawn 87 = .ok (.iadd, 1) := by decide +kernel
theorem dX8_drawn_88 : decode cX8_drawn 88 = .ok (.istore 6, 2) := by decide +kernel
theorem dX8_drawn_90 : decode cX8_drawn 90 = .ok (.iload 6, 2) := by decide +kernel
theorem dX8_drawn_92 : decode cX8_drawn 92 = .ok (.bipush 8, 2) := by decide +kernel
theorem dX8_drawn_94 : decode cX8_drawn 94 = .ok (.iushr, 1) := by decide +kernel
theorem dX8_drawn_95 : decode cX8_drawn 95 = .ok (.bipush 12, 2) := by decide +kernel
theorem dX8_drawn_97 : decode cX8_drawn 97 = .ok (.irem, 1) := by decide +kernel
theorem dX8_drawn_98 : decode cX8_drawn 98 = .ok (.aload_n 0, 1) := by decide +kernel
theorem dX8_drawn_99 : decode cX8_drawn 99 = .ok (.getfield 11, 3) := by decide +kernel
theorem dX8_drawn_102 : decode cX8_drawn 102 = .ok (.bipush 9, 2) := by decide +kernel
theorem dX8_drawn_104 : decode cX8_drawn 104 = .ok (.aaload, 1) := by decide +kernel
theorem dX8_drawn_105 : decode cX8_drawn 105 = .ok (.iconst 0, 1) := by decide +kernel
theorem dX8_drawn_106 : decode cX8_drawn 106 = .ok (.iaload, 1) := by decide +kernel
theorem dX8_drawn_107 : decode cX8_drawn 107 = .ok (.if_icmp .lt 7, 3) := by decide +kernel
theorem dX8_drawn_110 : decode cX8_drawn 110 = .ok (.iconst 1, 1) := by decide +kernel
theorem dX8_drawn_111 : decode cX8_drawn 111 = .ok (.goto 4, 3) := by decide +kernel
theorem dX8_drawn_114 : decode cX8_drawn 114 = .ok (.iconst 0, 1) := by decide +kernel
theorem dX8_drawn_115 : decode cX8_drawn 115 = .ok (.istore 10, 2) := by decide +kernel
theorem dX8_drawn_117 : decode cX8_drawn 117 = .ok (.iload 7, 2) := by decide +kernel
theorem dX8_drawn_119 : decode cX8_drawn 119 = .ok (.iload 10, 2) := by decide +kernel
theorem dX8_drawn_121 : decode cX8_drawn 121 = .ok (.ifCond .eq 8, 3) := by decide +kernel
theorem dX8_drawn_124 : decode cX8_drawn 124 = .ok (.iload 5, 2) := by decide +kernel
theorem dX8_drawn_126 : decode cX8_drawn 126 = .ok (.goto 15, 3) := by decide +kernel
theorem dX8_drawn_129 : decode cX8_drawn 129 = .ok (.iload 5, 2) := by decide +kernel
theorem dX8_drawn_131 : decode cX8_drawn 131 = .ok (.aload_n 0, 1) := by decide +kernel
theorem dX8_drawn_132 : decode cX8_drawn 132 = .ok (.getfield 11, 3) := by decide +kernel
theorem dX8_drawn_135 : decode cX8_drawn 135 = .ok (.bipush 10, 2) := by decide +kernel
theorem dX8_drawn_137 : decode cX8_drawn 137 = .ok (.aaload, 1) := by decide +kernel
theorem dX8_drawn_138 : decode cX8_drawn 138 = .ok (.iconst 0, 1) := by decide +kernel
theorem dX8_drawn_139 : decode cX8_drawn 139 = .ok (.iaload, 1) := by decide +kernel
theorem dX8_drawn_140 : decode cX8_drawn 140 = .ok (.iadd, 1) := by decide +kernel
theorem dX8_drawn_141 : decode cX8_drawn 141 = .ok (.iadd, 1) := by decide +kernel
theorem dX8_drawn_142 : decode cX8_drawn 142 = .ok (.istore 7, 2) := by decide +kernel
theorem dX8_drawn_144 : decode cX8_drawn 144 = .ok (.iinc 11 1, 3) := by decide +kernel
theorem dX8_drawn_147 : decode cX8_drawn 147 = .ok (.goto (-80), 3) := by decide +kernel
theorem dX8_drawn_150 : decode cX8_drawn 150 = .ok (.iload 10, 2) := by decide +kernel
theorem dX8_drawn_152 : decode cX8_drawn 152 = .ok (.ifCond .ne 6, 3) := by decide +kernel
theorem dX8_drawn_155 : decode cX8_drawn 155 = .ok (.iinc 8 1, 3) := by decide +kernel
theorem dX8_drawn_158 : decode cX8_drawn 158 = .ok (.iinc 9 1, 3) := by decide +kernel
theorem dX8_drawn_161 : decode cX8_drawn 161 = .ok (.goto (-106), 3) := by decide +kernel
theorem dX8_drawn_164 : decode cX8_drawn 164 = .ok (.iload 4, 2) := by decide +kernel
theorem dX8_drawn_166 : decode cX8_drawn 166 = .ok (.ifCond .ne 8, 3) := by decide +kernel
theorem dX8_drawn_169 : decode cX8_drawn 169 = .ok (.iload 7, 2) := by decide +kernel
theorem dX8_drawn_171 : decode cX8_drawn 171 = .ok (.goto 5, 3) := by decide +kernel
theorem dX8_drawn_174 : decode cX8_drawn 174 = .ok (.iload 8, 2) := by decide +kernel
theorem dX8_drawn_176 : decode cX8_drawn 176 = .ok (.ireturn, 1) := by decide +kernel
theorem dX8_puts_0 : decode cX8_puts 0 = .ok (.aload_n 0, 1) := by decide +kernel
theorem dX8_puts_1 : decode cX8_puts 1 = .ok (.iload_n 1, 1) := by decide +kernel
theorem dX8_puts_2 : decode cX8_puts 2 = .ok (.invokevirtual 132, 3) := by decide +kernel
theorem dX8_puts_5 : decode cX8_puts 5 = .ok (.ifCond .ne 5, 3) := by decide +kernel
theorem dX8_puts_8 : decode cX8_puts 8 = .ok (.iconst (-1), 1) := by decide +kernel
theorem dX8_puts_9 : decode cX8_puts 9 = .ok (.ireturn, 1) := by decide +kernel
theorem dX8_puts_10 : decode cX8_puts 10 = .ok (.iload_n 1, 1) := by decide +kernel
theorem dX8_puts_11 : decode cX8_puts 11 = .ok (.bipush 10, 2) := by decide +kernel
theorem dX8_puts_13 : decode cX8_puts 13 = .ok (.idiv, 1) := by decide +kernel
theorem dX8_puts_14 : decode cX8_puts 14 = .ok (.istore_n 2, 1) := by decide +kernel
theorem dX8_puts_15 : decode cX8_puts 15 = .ok (.iload_n 1, 1) := by decide +kernel
theorem dX8_puts_16 : decode cX8_puts 16 = .ok (.bipush 10, 2) := by decide +kernel
theorem dX8_puts_18 : decode cX8_puts 18 = .ok (.irem, 1) := by decide +kernel
theorem dX8_puts_19 : decode cX8_puts 19 = .ok (.istore_n 3, 1) := by decide +kernel
theorem dX8_puts_20 : decode cX8_puts 20 = .ok (.aload_n 0, 1) := by decide +kernel
theorem dX8_puts_21 : decode cX8_puts 21 = .ok (.getfield 24, 3) := by decide +kernel
theorem dX8_puts_24 : decode cX8_puts 24 = .ok (.getfield 119, 3) := by decide +kernel
theorem dX8_puts_27 : decode cX8_puts 27 = .ok (.iload_n 3, 1) := by decide +kernel
theorem dX8_puts_28 : decode cX8_puts 28 = .ok (.iaload, 1) := by decide +kernel
theorem dX8_puts_29 : decode cX8_puts 29 = .ok (.bipush (-2), 2) := by decide +kernel
theorem dX8_puts_31 : decode cX8_puts 31 = .ok (.if_icmp .ne 14, 3) := by decide +kernel
theorem dX8_puts_34 : decode cX8_puts 34 = .ok (.aload_n 0, 1) := by decide +kernel
theorem dX8_puts_35 : decode cX8_puts 35 = .ok (.getfield 24, 3) := by decide +kernel
theorem dX8_puts_38 : decode cX8_puts 38 = .ok (.iload_n 2, 1) := by decide +kernel
theorem dX8_puts_39 : decode cX8_puts 39 = .ok (.invokevirtual 239, 3) := by decide +kernel
theorem dX8_puts_42 : decode cX8_puts 42 = .ok (.ifCond .eq 6, 3) := by decide +kernel
theorem dX8_puts_45 : decode cX8_puts 45 = .ok (.bipush (-5), 2) := by decide +kernel
theorem dX8_puts_47 : decode cX8_puts 47 = .ok (.ireturn, 1) := by decide +kernel
theorem dX8_puts_48 : decode cX8_puts 48 = .ok (.aload_n 0, 1) := by decide +kernel
theorem dX8_puts_49 : decode cX8_puts 49 = .ok (.iload_n 2, 1) := by decide +kernel
theorem dX8_puts_50 : decode cX8_puts 50 = .ok (.iload_n 3, 1) := by decide +kernel
theorem dX8_puts_51 : decode cX8_puts 51 = .ok (.invokevirtual 135, 3) := by decide +kernel
theorem dX8_puts_54 : decode cX8_puts 54 = .ok (.istore 4, 2) := by decide +kernel
theorem dX8_puts_56 : decode cX8_puts 56 = .ok (.aload_n 0, 1) := by decide +kernel
theorem dX8_puts_57 : decode cX8_puts 57 = .ok (.getfield 11, 3) := by decide +kernel
theorem dX8_puts_60 : decode cX8_puts 60 = .ok (.iconst 4, 1) := by decide +kernel
theorem dX8_puts_61 : decode cX8_puts 61 = .ok (.aaload, 1) := by decide +kernel
theorem dX8_puts_62 : decode cX8_puts 62 = .ok (.iload_n 3, 1) := by decide +kernel
theorem dX8_puts_63 : decode cX8_puts 63 = .ok (.iaload, 1) := by decide +kernel
theorem dX8_puts_64 : decode cX8_puts 64 = .ok (.istore 5, 2) := by decide +kernel
theorem dX8_puts_66 : decode cX8_puts 66 = .ok (.aload_n 0, 1) := by decide +kernel
theorem dX8_puts_67 : decode cX8_puts 67 = .ok (.getfield 24, 3) := by decide +kernel
theorem dX8_puts_70 : decode cX8_puts 70 = .ok (.getfield 119, 3) := by decide +kernel
theorem dX8_puts_73 : decode cX8_puts 73 = .ok (.iload_n 3, 1) := by decide +kernel
theorem dX8_puts_74 : decode cX8_puts 74 = .ok (.iload_n 2, 1) := by decide +kernel
theorem dX8_puts_75 : decode cX8_puts 75 = .ok (.iastore, 1) := by decide +kernel
theorem dX8_puts_76 : decode cX8_puts 76 = .ok (.aload_n 0, 1) := by decide +kernel
theorem dX8_puts_77 : decode cX8_puts 77 = .ok (.getfield 24, 3) := by decide +kernel
theorem dX8_puts_80 : decode cX8_puts 80 = .ok (.getfield 242, 3) := by decide +kernel
theorem dX8_puts_83 : decode cX8_puts 83 = .ok (.iconst 0, 1) := by decide +kernel
theorem dX8_puts_84 : decode cX8_puts 84 = .ok (.dup2, 1) := by decide +kernel
theorem dX8_puts_85 : decode cX8_puts 85 = .ok (.iaload, 1) := by decide +kernel
theorem dX8_puts_86 : decode cX8_puts 86 = .ok (.iload 4, 2) := by decide +kernel
theorem dX8_puts_88 : decode cX8_puts 88 = .ok (.iadd, 1) := by decide +kernel
theorem dX8_puts_89 : decode cX8_puts 89 = .ok (.iastore, 1) := by decide +kernel
theorem dX8_puts_90 : decode cX8_puts 90 = .ok (.aload_n 0, 1) := by decide +kernel
theorem dX8_puts_91 : decode cX8_puts 91 = .ok (.getfield 24, 3) := by decide +kernel
theorem dX8_puts_94 : decode cX8_puts 94 = .ok (.getfield 242, 3) := by decide +kernel
theorem dX8_puts_97 : decode cX8_puts 97 = .ok (.iconst 1, 1) := by decide +kernel
theorem dX8_puts_98 : decode cX8_puts 98 = .ok (.dup2, 1) := by decide +kernel
theorem dX8_puts_99 : decode cX8_puts 99 = .ok (.iaload, 1) := by decide +kernel
theorem dX8_puts_100 : decode cX8_puts 100 = .ok (.iconst 1, 1) := by decide +kernel
theorem dX8_puts_101 : decode cX8_puts 101 = .ok (.iadd, 1) := by decide +kernel
theorem dX8_puts_102 : decode cX8_puts 102 = .ok (.iastore, 1) := by decide +kernel
theorem dX8_puts_103 : decode cX8_puts 103 = .ok (.aload_n 0, 1) := by decide +kernel
theorem dX8_puts_104 : decode cX8_puts 104 = .ok (.getfield 11, 3) := by decide +kernel
theorem dX8_puts_107 : decode cX8_puts 107 = .ok (.bipush 8, 2) := by decide +kernel
theorem dX8_puts_109 : decode cX8_puts 109 = .ok (.aaload, 1) := by decide +kernel
theorem dX8_puts_110 : decode cX8_puts 110 = .ok (.iload 5, 2) := by decide +kernel
theorem dX8_puts_112 : decode cX8_puts 112 = .ok (.bipush 99, 2) := by decide +kernel
theorem dX8_puts_114 : decode cX8_puts 114 = .ok (.aload_n 0, 1) := by decide +kernel
theorem dX8_puts_115 : decode cX8_puts 115 = .ok (.getfield 11, 3) := by decide +kernel
theorem dX8_puts_118 : decode cX8_puts 118 = .ok (.bipush 8, 2) := by decide +kernel
theorem dX8_puts_120 : decode cX8_puts 120 = .ok (.aaload, 1) := by decide +kernel
theorem dX8_puts_121 : decode cX8_puts 121 = .ok (.iload 5, 2) := by decide +kernel
theorem dX8_puts_123 : decode cX8_puts 123 = .ok (.iaload, 1) := by decide +kernel
theorem dX8_puts_124 : decode cX8_puts 124 = .ok (.iconst 1, 1) := by decide +kernel
theorem dX8_puts_125 : decode cX8_puts 125 = .ok (.iadd, 1) := by decide +kernel
theorem dX8_puts_126 : decode cX8_puts 126 = .ok (.invokestatic 245, 3) := by decide +kernel
theorem dX8_puts_129 : decode cX8_puts 129 = .ok (.iastore, 1) := by decide +kernel
theorem dX8_puts_130 : decode cX8_puts 130 = .ok (.iload 4, 2) := by decide +kernel
theorem dX8_puts_132 : decode cX8_puts 132 = .ok (.ireturn, 1) := by decide +kernel
theorem dX8_out_0 : decode cX8_out 0 = .ok (.aload_n 0, 1) := by decide +kernel
theorem dX8_out_1 : decode cX8_out 1 = .ok (.iload_n 1, 1) := by decide +kernel
theorem dX8_out_2 : decode cX8_out 2 = .ok (.invokevirtual 116, 3) := by decide +kernel
theorem dX8_out_5 : decode cX8_out 5 = .ok (.ifCond .ne 5, 3) := by decide +kernel
theorem dX8_out_8 : decode cX8_out 8 = .ok (.iconst (-1), 1) := by decide +kernel
theorem dX8_out_9 : decode cX8_out 9 = .ok (.ireturn, 1) := by decide +kernel
theorem dX8_out_10 : decode cX8_out 10 = .ok (.aload_n 0, 1) := by decide +kernel
theorem dX8_out_11 : decode cX8_out 11 = .ok (.getfield 24, 3) := by decide +kernel
theorem dX8_out_14 : decode cX8_out 14 = .ok (.getfield 119, 3) := by decide +kernel
theorem dX8_out_17 : decode cX8_out 17 = .ok (.iload_n 1, 1) := by decide +kernel
theorem dX8_out_18 : decode cX8_out 18 = .ok (.iaload, 1) := by decide +kernel
theorem dX8_out_19 : decode cX8_out 19 = .ok (.istore_n 2, 1) := by decide +kernel
theorem dX8_out_20 : decode cX8_out 20 = .ok (.iload_n 2, 1) := by decide +kernel
theorem dX8_out_21 : decode cX8_out 21 = .ok (.bipush (-2), 2) := by decide +kernel
theorem dX8_out_23 : decode cX8_out 23 = .ok (.if_icmp .ne 6, 3) := by decide +kernel
theorem dX8_out_26 : decode cX8_out 26 = .ok (.bipush (-5), 2) := by decide +kernel
theorem dX8_out_28 : decode cX8_out 28 = .ok (.ireturn, 1) := by decide +kernel
theorem dX8_out_29 : decode cX8_out 29 = .ok (.aload_n 0, 1) := by decide +kernel
theorem dX8_out_30 : decode cX8_out 30 = .ok (.getfield 24, 3) := by decide +kernel
theorem dX8_out_33 : decode cX8_out 33 = .ok (.getfield 119, 3) := by decide +kernel
theorem dX8_out_36 : decode cX8_out 36 = .ok (.iload_n 1, 1) := by decide +kernel
theorem dX8_out_37 : decode cX8_out 37 = .ok (.bipush (-2), 2) := by decide +kernel
theorem dX8_out_39 : decode cX8_out 39 = .ok (.iastore, 1) := by decide +kernel
theorem dX8_out_40 : decode cX8_out 40 = .ok (.aload_n 0, 1) := by decide +kernel
theorem dX8_out_41 : decode cX8_out 41 = .ok (.getfield 24, 3) := by decide +kernel
theorem dX8_out_44 : decode cX8_out 44 = .ok (.getfield 242, 3) := by decide +kernel
theorem dX8_out_47 : decode cX8_out 47 = .ok (.iconst 2, 1) := by decide +kernel
theorem dX8_out_48 : decode cX8_out 48 = .ok (.dup2, 1) := by decide +kernel
theorem dX8_out_49 : decode cX8_out 49 = .ok (.iaload, 1) := by decide +kernel
theorem dX8_out_50 : decode cX8_out 50 = .ok (.iconst 1, 1) := by decide +kernel
theorem dX8_out_51 : decode cX8_out 51 = .ok (.iadd, 1) := by decide +kernel
theorem dX8_out_52 : decode cX8_out 52 = .ok (.iastore, 1) := by decide +kernel
theorem dX8_out_53 : decode cX8_out 53 = .ok (.iload_n 2, 1) := by decide +kernel
theorem dX8_out_54 : decode cX8_out 54 = .ok (.ireturn, 1) := by decide +kernel
theorem dX8_night_0 : decode cX8_night 0 = .ok (.aload_n 0, 1) := by decide +kernel
theorem dX8_night_1 : decode cX8_night 1 = .ok (.getfield 24, 3) := by decide +kernel
theorem dX8_night_4 : decode cX8_night 4 = .ok (.getfield 242, 3) := by decide +kernel
theorem dX8_night_7 : decode cX8_night 7 = .ok (.iconst 3, 1) := by decide +kernel
theorem dX8_night_8 : decode cX8_night 8 = .ok (.dup2, 1) := by decide +kernel
theorem dX8_night_9 : decode cX8_night 9 = .ok (.iaload, 1) := by decide +kernel
theorem dX8_night_10 : decode cX8_night 10 = .ok (.iconst 1, 1) := by decide +kernel
theorem dX8_night_11 : decode cX8_night 11 = .ok (.iadd, 1) := by decide +kernel
theorem dX8_night_12 : decode cX8_night 12 = .ok (.iastore, 1) := by decide +kernel
theorem dX8_night_13 : decode cX8_night 13 = .ok (.aload_n 0, 1) := by decide +kernel
theorem dX8_night_14 : decode cX8_night 14 = .ok (.getfield 24, 3) := by decide +kernel
theorem dX8_night_17 : decode cX8_night 17 = .ok (.invokevirtual 248, 3) := by decide +kernel
theorem dX8_night_20 : decode cX8_night 20 = .ok (.ireturn, 1) := by decide +kernel
theorem dX8_led_0 : decode cX8_led 0 = .ok (.iload_n 1, 1) := by decide +kernel
theorem dX8_led_1 : decode cX8_led 1 = .ok (.ifCond .lt 8, 3) := by decide +kernel
theorem dX8_led_4 : decode cX8_led 4 = .ok (.iload_n 1, 1) := by decide +kernel
theorem dX8_led_5 : decode cX8_led 5 = .ok (.iconst 3, 1) := by decide +kernel
theorem dX8_led_6 : decode cX8_led 6 = .ok (.if_icmp .le 7, 3) := by decide +kernel
theorem dX8_led_9 : decode cX8_led 9 = .ok (.iconst (-1), 1) := by decide +kernel
theorem dX8_led_10 : decode cX8_led 10 = .ok (.goto 12, 3) := by decide +kernel
theorem dX8_led_13 : decode cX8_led 13 = .ok (.aload_n 0, 1) := by decide +kernel
theorem dX8_led_14 : decode cX8_led 14 = .ok (.getfield 24, 3) := by decide +kernel
theorem dX8_led_17 : decode cX8_led 17 = .ok (.getfield 242, 3) := by decide +kernel
theorem dX8_led_20 : decode cX8_led 20 = .ok (.iload_n 1, 1) := by decide +kernel
theorem dX8_led_21 : decode cX8_led 21 = .ok (.iaload, 1) := by decide +kernel
theorem dX8_led_22 : decode cX8_led 22 = .ok (.ireturn, 1) := by decide +kernel
theorem dX8_image_0 : decode cX8_image 0 = .ok (.aload_n 0, 1) := by decide +kernel
theorem dX8_image_1 : decode cX8_image 1 = .ok (.getfield 28, 3) := by decide +kernel
theorem dX8_image_4 : decode cX8_image 4 = .ok (.aload_n 0, 1) := by decide +kernel
theorem dX8_image_5 : decode cX8_image 5 = .ok (.getfield 24, 3) := by decide +kernel
theorem dX8_image_8 : decode cX8_image 8 = .ok (.invokevirtual 251, 3) := by decide +kernel
theorem dX8_image_11 : decode cX8_image 11 = .ok (.aload_n 0, 1) := by decide +kernel
theorem dX8_image_12 : decode cX8_image 12 = .ok (.getfield 11, 3) := by decide +kernel
theorem dX8_image_15 : decode cX8_image 15 = .ok (.bipush 8, 2) := by decide +kernel
theorem dX8_image_17 : decode cX8_image 17 = .ok (.aaload, 1) := by decide +kernel
theorem dX8_image_18 : decode cX8_image 18 = .ok (.iconst 0, 1) := by decide +kernel
theorem dX8_image_19 : decode cX8_image 19 = .ok (.aload_n 0, 1) := by decide +kernel
theorem dX8_image_20 : decode cX8_image 20 = .ok (.getfield 31, 3) := by decide +kernel
theorem dX8_image_23 : decode cX8_image 23 = .ok (.iconst 0, 1) := by decide +kernel
theorem dX8_image_24 : decode cX8_image 24 = .ok (.iconst 2, 1) := by decide +kernel
theorem dX8_image_25 : decode cX8_image 25 = .ok (.invokestatic 255, 3) := by decide +kernel
theorem dX8_image_28 : decode cX8_image 28 = .ok (.aload_n 0, 1) := by decide +kernel
theorem dX8_image_29 : decode cX8_image 29 = .ok (.iconst 1, 1) := by decide +kernel
theorem dX8_image_30 : decode cX8_image 30 = .ok (.putfield 261, 3) := by decide +kernel
theorem dX8_image_33 : decode cX8_image 33 = .ok (.aload_n 0, 1) := by decide +kernel
theorem dX8_image_34 : decode cX8_image 34 = .ok (.getfield 24, 3) := by decide +kernel
theorem dX8_image_37 : decode cX8_image 37 = .ok (.getfield 242, 3) := by decide +kernel
theorem dX8_image_40 : decode cX8_image 40 = .ok (.iconst 0, 1) := by decide +kernel
theorem dX8_image_41 : decode cX8_image 41 = .ok (.iaload, 1) := by decide +kernel
theorem dX8_image_42 : decode cX8_image 42 = .ok (.ireturn, 1) := by decide +kernel
theorem dX8_back_0 : decode cX8_back 0 = .ok (.aload_n 0, 1) := by decide +kernel
theorem dX8_back_1 : decode cX8_back 1 = .ok (.getfield 261, 3) := by decide +kernel
theorem dX8_back_4 : decode cX8_back 4 = .ok (.ifCond .ne 6, 3) := by decide +kernel
theorem dX8_back_7 : decode cX8_back 7 = .ok (.bipush (-5), 2) := by decide +kernel
theorem dX8_back_9 : decode cX8_back 9 = .ok (.ireturn, 1) := by decide +kernel
theorem dX8_back_10 : decode cX8_back 10 = .ok (.aload_n 0, 1) := by decide +kernel
theorem dX8_back_11 : decode cX8_back 11 = .ok (.getfield 24, 3) := by decide +kernel
theorem dX8_back_14 : decode cX8_back 14 = .ok (.aload_n 0, 1) := by decide +kernel
theorem dX8_back_15 : decode cX8_back 15 = .ok (.getfield 28, 3) := by decide +kernel
theorem dX8_back_18 : decode cX8_back 18 = .ok (.invokevirtual 251, 3) := by decide +kernel
theorem dX8_back_21 : decode cX8_back 21 = .ok (.aload_n 0, 1) := by decide +kernel
theorem dX8_back_22 : decode cX8_back 22 = .ok (.getfield 31, 3) := by decide +kernel
theorem dX8_back_25 : decode cX8_back 25 = .ok (.iconst 0, 1) := by decide +kernel
theorem dX8_back_26 : decode cX8_back 26 = .ok (.aload_n 0, 1) := by decide +kernel
theorem dX8_back_27 : decode cX8_back 27 = .ok (.getfield 11, 3) := by decide +kernel
theorem dX8_back_30 : decode cX8_back 30 = .ok (.bipush 8, 2) := by decide +kernel
theorem dX8_back_32 : decode cX8_back 32 = .ok (.aaload, 1) := by decide +kernel
theorem dX8_back_33 : decode cX8_back 33 = .ok (.iconst 0, 1) := by decide +kernel
theorem dX8_back_34 : decode cX8_back 34 = .ok (.iconst 2, 1) := by decide +kernel
theorem dX8_back_35 : decode cX8_back 35 = .ok (.invokestatic 255, 3) := by decide +kernel
theorem dX8_back_38 : decode cX8_back 38 = .ok (.aload_n 0, 1) := by decide +kernel
theorem dX8_back_39 : decode cX8_back 39 = .ok (.getfield 24, 3) := by decide +kernel
theorem dX8_back_42 : decode cX8_back 42 = .ok (.getfield 242, 3) := by decide +kernel
theorem dX8_back_45 : decode cX8_back 45 = .ok (.iconst 0, 1) := by decide +kernel
theorem dX8_back_46 : decode cX8_back 46 = .ok (.iaload, 1) := by decide +kernel
theorem dX8_back_47 : decode cX8_back 47 = .ok (.ireturn, 1) := by decide +kernel
theorem dX8_undo_0 : decode cX8_undo 0 = .ok (.aload_n 0, 1) := by decide +kernel
theorem dX8_undo_1 : decode cX8_undo 1 = .ok (.getfield 17, 3) := by decide +kernel
theorem dX8_undo_4 : decode cX8_undo 4 = .ok (.getfield 265, 3) := by decide +kernel
theorem dX8_undo_7 : decode cX8_undo 7 = .ok (.ifCond .ne 6, 3) := by decide +kernel
theorem dX8_undo_10 : decode cX8_undo 10 = .ok (.bipush (-5), 2) := by decide +kernel
theorem dX8_undo_12 : decode cX8_undo 12 = .ok (.ireturn, 1) := by decide +kernel
theorem dX8_undo_13 : decode cX8_undo 13 = .ok (.aload_n 0, 1) := by decide +kernel
theorem dX8_undo_14 : decode cX8_undo 14 = .ok (.getfield 17, 3) := by decide +kernel
theorem dX8_undo_17 : decode cX8_undo 17 = .ok (.dup, 1) := by decide +kernel
theorem dX8_undo_18 : decode cX8_undo 18 = .ok (.getfield 265, 3) := by decide +kernel
theorem dX8_undo_21 : decode cX8_undo 21 = .ok (.iconst 1, 1) := by decide +kernel
theorem dX8_undo_22 : decode cX8_undo 22 = .ok (.isub, 1) := by decide +kernel
theorem dX8_undo_23 : decode cX8_undo 23 = .ok (.putfield 265, 3) := by decide +kernel
theorem dX8_undo_26 : decode cX8_undo 26 = .ok (.aload_n 0, 1) := by decide +kernel
theorem dX8_undo_27 : decode cX8_undo 27 = .ok (.getfield 17, 3) := by decide +kernel
theorem dX8_undo_30 : decode cX8_undo 30 = .ok (.dup, 1) := by decide +kernel
theorem dX8_undo_31 : decode cX8_undo 31 = .ok (.getfield 268, 3) := by decide +kernel
theorem dX8_undo_34 : decode cX8_undo 34 = .ok (.iconst 1, 1) := by decide +kernel
theorem dX8_undo_35 : decode cX8_undo 35 = .ok (.iadd, 1) := by decide +kernel
theorem dX8_undo_36 : decode cX8_undo 36 = .ok (.putfield 268, 3) := by decide +kernel
theorem dX8_undo_39 : decode cX8_undo 39 = .ok (.aload_n 0, 1) := by decide +kernel
theorem dX8_undo_40 : decode cX8_undo 40 = .ok (.getfield 17, 3) := by decide +kernel
theorem dX8_undo_43 : decode cX8_undo 43 = .ok (.getfield 265, 3) := by decide +kernel
theorem dX8_undo_46 : decode cX8_undo 46 = .ok (.istore_n 1, 1) := by decide +kernel
theorem dX8_undo_47 : decode cX8_undo 47 = .ok (.aload_n 0, 1) := by decide +kernel
theorem dX8_undo_48 : decode cX8_undo 48 = .ok (.getfield 11, 3) := by decide +kernel
theorem dX8_undo_51 : decode cX8_undo 51 = .ok (.aload_n 0, 1) := by decide +kernel
theorem dX8_undo_52 : decode cX8_undo 52 = .ok (.getfield 17, 3) := by decide +kernel
theorem dX8_undo_55 : decode cX8_undo 55 = .ok (.getfield 271, 3) := by decide +kernel
theorem dX8_undo_58 : decode cX8_undo 58 = .ok (.iload_n 1, 1) := by decide +kernel
theorem dX8_undo_59 : decode cX8_undo 59 = .ok (.iaload, 1) := by decide +kernel
theorem dX8_undo_60 : decode cX8_undo 60 = .ok (.aaload, 1) := by decide +kernel
theorem dX8_undo_61 : decode cX8_undo 61 = .ok (.aload_n 0, 1) := by decide +kernel
theorem dX8_undo_62 : decode cX8_undo 62 = .ok (.getfield 17, 3) := by decide +kernel
theorem dX8_undo_65 : decode cX8_undo 65 = .ok (.getfield 274, 3) := by decide +kernel
theorem dX8_undo_68 : decode cX8_undo 68 = .ok (.iload_n 1, 1) := by decide +kernel
theorem dX8_undo_69 : decode cX8_undo 69 = .ok (.iaload, 1) := by decide +kernel
theorem dX8_undo_70 : decode cX8_undo 70 = .ok (.aload_n 0, 1) := by decide +kernel
theorem dX8_undo_71 : decode cX8_undo 71 = .ok (.getfield 17, 3) := by decide +kernel
theorem dX8_undo_74 : decode cX8_undo 74 = .ok (.getfield 277, 3) := by decide +kernel
theorem dX8_undo_77 : decode cX8_undo 77 = .ok (.iload_n 1, 1) := by decide +kernel
theorem dX8_undo_78 : decode cX8_undo 78 = .ok (.iaload, 1) := by decide +kernel
theorem dX8_undo_79 : decode cX8_undo 79 = .ok (.iastore, 1) := by decide +kernel
theorem dX8_undo_80 : decode cX8_undo 80 = .ok (.aload_n 0, 1) := by decide +kernel
theorem dX8_undo_81 : decode cX8_undo 81 = .ok (.getfield 17, 3) := by decide +kernel
theorem dX8_undo_84 : decode cX8_undo 84 = .ok (.getfield 265, 3) := by decide +kernel
theorem dX8_undo_87 : decode cX8_undo 87 = .ok (.ireturn, 1) := by decide +kernel
theorem dX8_redo_0 : decode cX8_redo 0 = .ok (.aload_n 0, 1) := by decide +kernel
theorem dX8_redo_1 : decode cX8_redo 1 = .ok (.getfield 17, 3) := by decide +kernel
theorem dX8_redo_4 : decode cX8_redo 4 = .ok (.getfield 268, 3) := by decide +kernel
theorem dX8_redo_7 : decode cX8_redo 7 = .ok (.ifCond .ne 6, 3) := by decide +kernel
theorem dX8_redo_10 : decode cX8_redo 10 = .ok (.bipush (-5), 2) := by decide +kernel
theorem dX8_redo_12 : decode cX8_redo 12 = .ok (.ireturn, 1) := by decide +kernel
theorem dX8_redo_13 : decode cX8_redo 13 = .ok (.aload_n 0, 1) := by decide +kernel
theorem dX8_redo_14 : decode cX8_redo 14 = .ok (.getfield 17, 3) := by decide +kernel
theorem dX8_redo_17 : decode cX8_redo 17 = .ok (.getfield 265, 3) := by decide +kernel
theorem dX8_redo_20 : decode cX8_redo 20 = .ok (.istore_n 1, 1) := by decide +kernel
theorem dX8_redo_21 : decode cX8_redo 21 = .ok (.aload_n 0, 1) := by decide +kernel
theorem dX8_redo_22 : decode cX8_redo 22 = .ok (.getfield 11, 3) := by decide +kernel
theorem dX8_redo_25 : decode cX8_redo 25 = .ok (.aload_n 0, 1) := by decide +kernel
theorem dX8_redo_26 : decode cX8_redo 26 = .ok (.getfield 17, 3) := by decide +kernel
theorem dX8_redo_29 : decode cX8_redo 29 = .ok (.getfield 271, 3) := by decide +kernel
theorem dX8_redo_32 : decode cX8_redo 32 = .ok (.iload_n 1, 1) := by decide +kernel
theorem dX8_redo_33 : decode cX8_redo 33 = .ok (.iaload, 1) := by decide +kernel
theorem dX8_redo_34 : decode cX8_redo 34 = .ok (.aaload, 1) := by decide +kernel
theorem dX8_redo_35 : decode cX8_redo 35 = .ok (.aload_n 0, 1) := by decide +kernel
theorem dX8_redo_36 : decode cX8_redo 36 = .ok (.getfield 17, 3) := by decide +kernel
theorem dX8_redo_39 : decode cX8_redo 39 = .ok (.getfield 274, 3) := by decide +kernel
theorem dX8_redo_42 : decode cX8_redo 42 = .ok (.iload_n 1, 1) := by decide +kernel
theorem dX8_redo_43 : decode cX8_redo 43 = .ok (.iaload, 1) := by decide +kernel
theorem dX8_redo_44 : decode cX8_redo 44 = .ok (.aload_n 0, 1) := by decide +kernel
theorem dX8_redo_45 : decode cX8_redo 45 = .ok (.getfield 17, 3) := by decide +kernel
theorem dX8_redo_48 : decode cX8_redo 48 = .ok (.getfield 280, 3) := by decide +kernel
theorem dX8_redo_51 : decode cX8_redo 51 = .ok (.iload_n 1, 1) := by decide +kernel
theorem dX8_redo_52 : decode cX8_redo 52 = .ok (.iaload, 1) := by decide +kernel
theorem dX8_redo_53 : decode cX8_redo 53 = .ok (.iastore, 1) := by decide +kernel
theorem dX8_redo_54 : decode cX8_redo 54 = .ok (.aload_n 0, 1) := by decide +kernel
theorem dX8_redo_55 : decode cX8_redo 55 = .ok (.getfield 17, 3) := by decide +kernel
theorem dX8_redo_58 : decode cX8_redo 58 = .ok (.dup, 1) := by decide +kernel
theorem dX8_redo_59 : decode cX8_redo 59 = .ok (.getfield 265, 3) := by decide +kernel
theorem dX8_redo_62 : decode cX8_redo 62 = .ok (.iconst 1, 1) := by decide +kernel
theorem dX8_redo_63 : decode cX8_redo 63 = .ok (.iadd, 1) := by decide +kernel
theorem dX8_redo_64 : decode cX8_redo 64 = .ok (.putfield 265, 3) := by decide +kernel
theorem dX8_redo_67 : decode cX8_redo 67 = .ok (.aload_n 0, 1) := by decide +kernel
theorem dX8_redo_68 : decode cX8_redo 68 = .ok (.getfield 17, 3) := by decide +kernel
theorem dX8_redo_71 : decode cX8_redo 71 = .ok (.dup, 1) := by decide +kernel
theorem dX8_redo_72 : decode cX8_redo 72 = .ok (.getfield 268, 3) := by decide +kernel
theorem dX8_redo_75 : decode cX8_redo 75 = .ok (.iconst 1, 1) := by decide +kernel
theorem dX8_redo_76 : decode cX8_redo 76 = .ok (.isub, 1) := by decide +kernel
theorem dX8_redo_77 : decode cX8_redo 77 = .ok (.putfield 268, 3) := by decide +kernel
theorem dX8_redo_80 : decode cX8_redo 80 = .ok (.aload_n 0, 1) := by decide +kernel
theorem dX8_redo_81 : decode cX8_redo 81 = .ok (.getfield 17, 3) := by decide +kernel
theorem dX8_redo_84 : decode cX8_redo 84 = .ok (.getfield 268, 3) := by decide +kernel
theorem dX8_redo_87 : decode cX8_redo 87 = .ok (.ireturn, 1) := by decide +kernel
theorem dX8_body_0 : decode cX8_body 0 = .ok (.iload_n 1, 1) := by decide +kernel
theorem dX8_body_1 : decode cX8_body 1 = .ok (.invokestatic 283, 3) := by decide +kernel
theorem dX8_body_4 : decode cX8_body 4 = .ok (.ifCond .ne 5, 3) := by decide +kernel
theorem dX8_body_7 : decode cX8_body 7 = .ok (.iconst (-1), 1) := by decide +kernel
theorem dX8_body_8 : decode cX8_body 8 = .ok (.ireturn, 1) := by decide +kernel
theorem dX8_body_9 : decode cX8_body 9 = .ok (.aload_n 0, 1) := by decide +kernel
theorem dX8_body_10 : decode cX8_body 10 = .ok (.getfield 52, 3) := by decide +kernel
theorem dX8_body_13 : decode cX8_body 13 = .ok (.getfield 286, 3) := by decide +kernel
theorem dX8_body_16 : decode cX8_body 16 = .ok (.bipush 50, 2) := by decide +kernel
theorem dX8_body_18 : decode cX8_body 18 = .ok (.if_icmp .lt 6, 3) := by decide +kernel
theorem dX8_body_21 : decode cX8_body 21 = .ok (.bipush (-3), 2) := by decide +kernel
theorem dX8_body_23 : decode cX8_body 23 = .ok (.ireturn, 1) := by decide +kernel
theorem dX8_body_24 : decode cX8_body 24 = .ok (.aload_n 0, 1) := by decide +kernel
theorem dX8_body_25 : decode cX8_body 25 = .ok (.getfield 52, 3) := by decide +kernel
theorem dX8_body_28 : decode cX8_body 28 = .ok (.getfield 289, 3) := by decide +kernel
theorem dX8_body_31 : decode cX8_body 31 = .ok (.aload_n 0, 1) := by decide +kernel
theorem dX8_body_32 : decode cX8_body 32 = .ok (.getfield 52, 3) := by decide +kernel
theorem dX8_body_35 : decode cX8_body 35 = .ok (.getfield 286, 3) := by decide +kernel
theorem dX8_body_38 : decode cX8_body 38 = .ok (.iload_n 1, 1) := by decide +kernel
theorem dX8_body_39 : decode cX8_body 39 = .ok (.iastore, 1) := by decide +kernel
theorem dX8_body_40 : decode cX8_body 40 = .ok (.aload_n 0, 1) := by decide +kernel
theorem dX8_body_41 : decode cX8_body 41 = .ok (.getfield 52, 3) := by decide +kernel
theorem dX8_body_44 : decode cX8_body 44 = .ok (.dup, 1) := by decide +kernel
theorem dX8_body_45 : decode cX8_body 45 = .ok (.getfield 286, 3) := by decide +kernel
theorem dX8_body_48 : decode cX8_body 48 = .ok (.dup_x1, 1) := by decide +kernel
theorem dX8_body_49 : decode cX8_body 49 = .ok (.iconst 1, 1) := by decide +kernel
theorem dX8_body_50 : decode cX8_body 50 = .ok (.iadd, 1) := by decide +kernel
theorem dX8_body_51 : decode cX8_body 51 = .ok (.putfield 286, 3) := by decide +kernel
theorem dX8_body_54 : decode cX8_body 54 = .ok (.ireturn, 1) := by decide +kernel
theorem dX8_act_0 : decode cX8_act 0 = .ok (.aload_n 0, 1) := by decide +kernel
theorem dX8_act_1 : decode cX8_act 1 = .ok (.getfield 52, 3) := by decide +kernel
theorem dX8_act_4 : decode cX8_act 4 = .ok (.iload_n 1, 1) := by decide +kernel
theorem dX8_act_5 : decode cX8_act 5 = .ok (.iload_n 2, 1) := by decide +kernel
theorem dX8_act_6 : decode cX8_act 6 = .ok (.iload_n 3, 1) := by decide +kernel
theorem dX8_act_7 : decode cX8_act 7 = .ok (.invokevirtual 292, 3) := by decide +kernel
theorem dX8_act_10 : decode cX8_act 10 = .ok (.ireturn, 1) := by decide +kernel
theorem dX8_trace_0 : decode cX8_trace 0 = .ok (.iload_n 1, 1) := by decide +kernel
theorem dX8_trace_1 : decode cX8_trace 1 = .ok (.ifCond .lt 20, 3) := by decide +kernel
theorem dX8_trace_4 : decode cX8_trace 4 = .ok (.iload_n 1, 1) := by decide +kernel
theorem dX8_trace_5 : decode cX8_trace 5 = .ok (.aload_n 0, 1) := by decide +kernel
theorem dX8_trace_6 : decode cX8_trace 6 = .ok (.getfield 52, 3) := by decide +kernel
theorem dX8_trace_9 : decode cX8_trace 9 = .ok (.getfield 295, 3) := by decide +kernel
theorem dX8_trace_12 : decode cX8_trace 12 = .ok (.if_icmp .ge 9, 3) := by decide +kernel
theorem dX8_trace_15 : decode cX8_trace 15 = .ok (.iload_n 1, 1) := by decide +kernel
theorem dX8_trace_16 : decode cX8_trace 16 = .ok (.bipush 24, 2) := by decide +kernel
theorem dX8_trace_18 : decode cX8_trace 18 = .ok (.if_icmp .lt 7, 3) := by decide +kernel
theorem dX8_trace_21 : decode cX8_trace 21 = .ok (.iconst (-1), 1) := by decide +kernel
theorem dX8_trace_22 : decode cX8_trace 22 = .ok (.goto 12, 3) := by decide +kernel
theorem dX8_trace_25 : decode cX8_trace 25 = .ok (.aload_n 0, 1) := by decide +kernel
theorem dX8_trace_26 : decode cX8_trace 26 = .ok (.getfield 52, 3) := by decide +kernel
theorem dX8_trace_29 : decode cX8_trace 29 = .ok (.getfield 298, 3) := by decide +kernel
theorem dX8_trace_32 : decode cX8_trace 32 = .ok (.iload_n 1, 1) := by decide +kernel
theorem dX8_trace_33 : decode cX8_trace 33 = .ok (.iaload, 1) := by decide +kernel
theorem dX8_trace_34 : decode cX8_trace 34 = .ok (.ireturn, 1) := by decide +kernel
theorem dX8_keep_0 : decode cX8_keep 0 = .ok (.iload_n 1, 1) := by decide +kernel
theorem dX8_keep_1 : decode cX8_keep 1 = .ok (.invokestatic 91, 3) := by decide +kernel
theorem dX8_keep_4 : decode cX8_keep 4 = .ok (.ifCond .eq 19, 3) := by decide +kernel
theorem dX8_keep_7 : decode cX8_keep 7 = .ok (.iload_n 2, 1) := by decide +kernel
theorem dX8_keep_8 : decode cX8_keep 8 = .ok (.iconst (-1), 1) := by decide +kernel
theorem dX8_keep_9 : decode cX8_keep 9 = .ok (.if_icmp .lt 14, 3) := by decide +kernel
theorem dX8_keep_12 : decode cX8_keep 12 = .ok (.iload_n 2, 1) := by decide +kernel
theorem dX8_keep_13 : decode cX8_keep 13 = .ok (.aload_n 0, 1) := by decide +kernel
theorem dX8_keep_14 : decode cX8_keep 14 = .ok (.getfield 52, 3) := by decide +kernel
theorem dX8_keep_17 : decode cX8_keep 17 = .ok (.getfield 286, 3) := by decide +kernel
theorem dX8_keep_20 : decode cX8_keep 20 = .ok (.if_icmp .lt 5, 3) := by decide +kernel
theorem dX8_keep_23 : decode cX8_keep 23 = .ok (.iconst (-1), 1) := by decide +kernel
theorem dX8_keep_24 : decode cX8_keep 24 = .ok (.ireturn, 1) := by decide +kernel
theorem dX8_keep_25 : decode cX8_keep 25 = .ok (.iload_n 2, 1) := by decide +kernel
theorem dX8_keep_26 : decode cX8_keep 26 = .ok (.ifCond .ge 15, 3) := by decide +kernel
theorem dX8_keep_29 : decode cX8_keep 29 = .ok (.aload_n 0, 1) := by decide +kernel
theorem dX8_keep_30 : decode cX8_keep 30 = .ok (.getfield 58, 3) := by decide +kernel
theorem dX8_keep_33 : decode cX8_keep 33 = .ok (.iload_n 1, 1) := by decide +kernel
theorem dX8_keep_34 : decode cX8_keep 34 = .ok (.aaload, 1) := by decide +kernel
theorem dX8_keep_35 : decode cX8_keep 35 = .ok (.invokevirtual 301, 3) := by decide +kernel
theorem dX8_keep_38 : decode cX8_keep 38 = .ok (.goto 13, 3) := by decide +kernel
theorem dX8_keep_41 : decode cX8_keep 41 = .ok (.aload_n 0, 1) := by decide +kernel
theorem dX8_keep_42 : decode cX8_keep 42 = .ok (.getfield 58, 3) := by decide +kernel
theorem dX8_keep_45 : decode cX8_keep 45 = .ok (.iload_n 1, 1) := by decide +kernel
theorem dX8_keep_46 : decode cX8_keep 46 = .ok (.aaload, 1) := by decide +kernel
theorem dX8_keep_47 : decode cX8_keep 47 = .ok (.iload_n 2, 1) := by decide +kernel
theorem dX8_keep_48 : decode cX8_keep 48 = .ok (.invokevirtual 304, 3) := by decide +kernel
theorem dX8_keep_51 : decode cX8_keep 51 = .ok (.iconst 1, 1) := by decide +kernel
theorem dX8_keep_52 : decode cX8_keep 52 = .ok (.ireturn, 1) := by decide +kernel
theorem dX8_row_0 : decode cX8_row 0 = .ok (.iload_n 1, 1) := by decide +kernel
theorem dX8_row_1 : decode cX8_row 1 = .ok (.invokestatic 91, 3) := by decide +kernel
theorem dX8_row_4 : decode cX8_row 4 = .ok (.ifCond .eq 16, 3) := by decide +kernel
theorem dX8_row_7 : decode cX8_row 7 = .ok (.iload_n 2, 1) := by decide +kernel
theorem dX8_row_8 : decode cX8_row 8 = .ok (.invokestatic 308, 3) := by decide +kernel
theorem dX8_row_11 : decode cX8_row 11 = .ok (.ifCond .eq 9, 3) := by decide +kernel
theorem dX8_row_14 : decode cX8_row 14 = .ok (.iload_n 3, 1) := by decide +kernel
theorem dX8_row_15 : decode cX8_row 15 = .ok (.bipush 60, 2) := by decide +kernel
theorem dX8_row_17 : decode cX8_row 17 = .ok (.if_icmp .le 5, 3) := by decide +kernel
theorem dX8_row_20 : decode cX8_row 20 = .ok (.iconst (-1), 1) := by decide +kernel
theorem dX8_row_21 : decode cX8_row 21 = .ok (.ireturn, 1) := by decide +kernel
theorem dX8_row_22 : decode cX8_row 22 = .ok (.iload_n 3, 1) := by decide +kernel
theorem dX8_row_23 : decode cX8_row 23 = .ok (.ifCond .ge 6, 3) := by decide +kernel
theorem dX8_row_26 : decode cX8_row 26 = .ok (.bipush (-14), 2) := by decide +kernel
theorem dX8_row_28 : decode cX8_row 28 = .ok (.ireturn, 1) := by decide +kernel
theorem dX8_row_29 : decode cX8_row 29 = .ok (.aload_n 0, 1) := by decide +kernel
theorem dX8_row_30 : decode cX8_row 30 = .ok (.getfield 58, 3) := by decide +kernel
theorem dX8_row_33 : decode cX8_row 33 = .ok (.iload_n 1, 1) := by decide +kernel
theorem dX8_row_34 : decode cX8_row 34 = .ok (.aaload, 1) := by decide +kernel
theorem dX8_row_35 : decode cX8_row 35 = .ok (.iload_n 2, 1) := by decide +kernel
theorem dX8_row_36 : decode cX8_row 36 = .ok (.iload_n 3, 1) := by decide +kernel
theorem dX8_row_37 : decode cX8_row 37 = .ok (.invokevirtual 311, 3) := by decide +kernel
theorem dX8_row_40 : decode cX8_row 40 = .ok (.iconst 1, 1) := by decide +kernel
theorem dX8_row_41 : decode cX8_row 41 = .ok (.ireturn, 1) := by decide +kernel
theorem dX8_put_0 : decode cX8_put 0 = .ok (.iload_n 1, 1) := by decide +kernel
theorem dX8_put_1 : decode cX8_put 1 = .ok (.invokestatic 91, 3) := by decide +kernel
theorem dX8_put_4 : decode cX8_put 4 = .ok (.ifCond .ne 5, 3) := by decide +kernel
theorem dX8_put_7 : decode cX8_put 7 = .ok (.iconst (-1), 1) := by decide +kernel
theorem dX8_put_8 : decode cX8_put 8 = .ok (.ireturn, 1) := by decide +kernel
theorem dX8_put_9 : decode cX8_put 9 = .ok (.aload_n 0, 1) := by decide +kernel
theorem dX8_put_10 : decode cX8_put 10 = .ok (.getfield 58, 3) := by decide +kernel
theorem dX8_put_13 : decode cX8_put 13 = .ok (.iload_n 1, 1) := by decide +kernel
theorem dX8_put_14 : decode cX8_put 14 = .ok (.aaload, 1) := by decide +kernel
theorem dX8_put_15 : decode cX8_put 15 = .ok (.astore 5, 2) := by decide +kernel
theorem dX8_put_17 : decode cX8_put 17 = .ok (.aload 5, 2) := by decide +kernel
theorem dX8_put_19 : decode cX8_put 19 = .ok (.invokevirtual 314, 3) := by decide +kernel
theorem dX8_put_22 : decode cX8_put 22 = .ok (.ifCond .eq 9, 3) := by decide +kernel
theorem dX8_put_25 : decode cX8_put 25 = .ok (.aload 5, 2) := by decide +kernel
theorem dX8_put_27 : decode cX8_put 27 = .ok (.invokevirtual 314, 3) := by decide +kernel
theorem dX8_put_30 : decode cX8_put 30 = .ok (.ireturn, 1) := by decide +kernel
theorem dX8_put_31 : decode cX8_put 31 = .ok (.aload 5, 2) := by decide +kernel
theorem dX8_put_33 : decode cX8_put 33 = .ok (.iload_n 2, 1) := by decide +kernel
theorem dX8_put_34 : decode cX8_put 34 = .ok (.iconst 1, 1) := by decide +kernel
theorem dX8_put_35 : decode cX8_put 35 = .ok (.invokevirtual 317, 3) := by decide +kernel
theorem dX8_put_38 : decode cX8_put 38 = .ok (.ifCond .ne 6, 3) := by decide +kernel
theorem dX8_put_41 : decode cX8_put 41 = .ok (.bipush (-13), 2) := by decide +kernel
theorem dX8_put_43 : decode cX8_put 43 = .ok (.ireturn, 1) := by decide +kernel
theorem dX8_put_44 : decode cX8_put 44 = .ok (.aload 5, 2) := by decide +kernel
theorem dX8_put_46 : decode cX8_put 46 = .ok (.getfield 320, 3) := by decide +kernel
theorem dX8_put_49 : decode cX8_put 49 = .ok (.iload_n 2, 1) := by decide +kernel
theorem dX8_put_50 : decode cX8_put 50 = .ok (.aload 5, 2) := by decide +kernel
theorem dX8_put_52 : decode cX8_put 52 = .ok (.lload_n 3, 1) := by decide +kernel
theorem dX8_put_53 : decode cX8_put 53 = .ok (.invokevirtual 324, 3) := by decide +kernel
theorem dX8_put_56 : decode cX8_put 56 = .ok (.lastore, 1) := by decide +kernel
theorem dX8_put_57 : decode cX8_put 57 = .ok (.iconst 1, 1) := by decide +kernel
theorem dX8_put_58 : decode cX8_put 58 = .ok (.ireturn, 1) := by decide +kernel
theorem dX8_element_0 : decode cX8_element 0 = .ok (.iload_n 1, 1) := by decide +kernel
theorem dX8_element_1 : decode cX8_element 1 = .ok (.invokestatic 91, 3) := by decide +kernel
theorem dX8_element_4 : decode cX8_element 4 = .ok (.ifCond .ne 7, 3) := by decide +kernel
theorem dX8_element_7 : decode cX8_element 7 = .ok (.ldc2_w 182, 3) := by decide +kernel
theorem dX8_element_10 : decode cX8_element 10 = .ok (.lreturn, 1) := by decide +kernel
theorem dX8_element_11 : decode cX8_element 11 = .ok (.aload_n 0, 1) := by decide +kernel
theorem dX8_element_12 : decode cX8_element 12 = .ok (.getfield 58, 3) := by decide +kernel
theorem dX8_element_15 : decode cX8_element 15 = .ok (.iload_n 1, 1) := by decide +kernel
theorem dX8_element_16 : decode cX8_element 16 = .ok (.aaload, 1) := by decide +kernel
theorem dX8_element_17 : decode cX8_element 17 = .ok (.astore_n 3, 1) := by decide +kernel
theorem dX8_element_18 : decode cX8_element 18 = .ok (.aload_n 3, 1) := by decide +kernel
theorem dX8_element_19 : decode cX8_element 19 = .ok (.invokevirtual 314, 3) := by decide +kernel
theorem dX8_element_22 : decode cX8_element 22 = .ok (.ifCond .ne 12, 3) := by decide +kernel
theorem dX8_element_25 : decode cX8_element 25 = .ok (.aload_n 3, 1) := by decide +kernel
theorem dX8_element_26 : decode cX8_element 26 = .ok (.iload_n 2, 1) := by decide +kernel
theorem dX8_element_27 : decode cX8_element 27 = .ok (.iconst 1, 1) := by decide +kernel
theorem dX8_element_28 : decode cX8_element 28 = .ok (.invokevirtual 317, 3) := by decide +kernel
theorem dX8_element_31 : decode cX8_element 31 = .ok (.ifCond .ne 7, 3) := by decide +kernel
theorem dX8_element_34 : decode cX8_element 34 = .ok (.ldc2_w 182, 3) := by decide +kernel
theorem dX8_element_37 : decode cX8_element 37 = .ok (.lreturn, 1) := by decide +kernel
theorem dX8_element_38 : decode cX8_element 38 = .ok (.aload_n 3, 1) := by decide +kernel
theorem dX8_element_39 : decode cX8_element 39 = .ok (.getfield 320, 3) := by decide +kernel
theorem dX8_element_42 : decode cX8_element 42 = .ok (.iload_n 2, 1) := by decide +kernel
theorem dX8_element_43 : decode cX8_element 43 = .ok (.laload, 1) := by decide +kernel
theorem dX8_element_44 : decode cX8_element 44 = .ok (.lreturn, 1) := by decide +kernel
theorem dX8_shift_0 : decode cX8_shift 0 = .ok (.iload_n 1, 1) := by decide +kernel
theorem dX8_shift_1 : decode cX8_shift 1 = .ok (.invokestatic 91, 3) := by decide +kernel
theorem dX8_shift_4 : decode cX8_shift 4 = .ok (.ifCond .eq 10, 3) := by decide +kernel
theorem dX8_shift_7 : decode cX8_shift 7 = .ok (.iload_n 3, 1) := by decide +kernel
theorem dX8_shift_8 : decode cX8_shift 8 = .ok (.invokestatic 91, 3) := by decide +kernel
theorem dX8_shift_11 : decode cX8_shift 11 = .ok (.ifCond .ne 5, 3) := by decide +kernel
theorem dX8_shift_14 : decode cX8_shift 14 = .ok (.iconst (-1), 1) := by decide +kernel
theorem dX8_shift_15 : decode cX8_shift 15 = .ok (.ireturn, 1) := by decide +kernel
theorem dX8_shift_16 : decode cX8_shift 16 = .ok (.aload_n 0, 1) := by decide +kernel
theorem dX8_shift_17 : decode cX8_shift 17 = .ok (.getfield 58, 3) := by decide +kernel
theorem dX8_shift_20 : decode cX8_shift 20 = .ok (.iload_n 1, 1) := by decide +kernel
theorem dX8_shift_21 : decode cX8_shift 21 = .ok (.aaload, 1) := by decide +kernel
theorem dX8_shift_22 : decode cX8_shift 22 = .ok (.astore 6, 2) := by decide +kernel
theorem dX8_shift_24 : decode cX8_shift 24 = .ok (.aload_n 0, 1) := by decide +kernel
theorem dX8_shift_25 : decode cX8_shift 25 = .ok (.getfield 58, 3) := by decide +kernel
theorem dX8_shift_28 : decode cX8_shift 28 = .ok (.iload_n 3, 1) := by decide +kernel
theorem dX8_shift_29 : decode cX8_shift 29 = .ok (.aaload, 1) := by decide +kernel
theorem dX8_shift_30 : decode cX8_shift 30 = .ok (.astore 7, 2) := by decide +kernel
theorem dX8_shift_32 : decode cX8_shift 32 = .ok (.aload 6, 2) := by decide +kernel
theorem dX8_shift_34 : decode cX8_shift 34 = .ok (.invokevirtual 95, 3) := by decide +kernel
theorem dX8_shift_37 : decode cX8_shift 37 = .ok (.ifCond .ne 11, 3) := by decide +kernel
theorem dX8_shift_40 : decode cX8_shift 40 = .ok (.aload 7, 2) := by decide +kernel
theorem dX8_shift_42 : decode cX8_shift 42 = .ok (.invokevirtual 95, 3) := by decide +kernel
theorem dX8_shift_45 : decode cX8_shift 45 = .ok (.ifCond .eq 6, 3) := by decide +kernel
theorem dX8_shift_48 : decode cX8_shift 48 = .ok (.bipush (-11), 2) := by decide +kernel
theorem dX8_shift_50 : decode cX8_shift 50 = .ok (.ireturn, 1) := by decide +kernel
theorem dX8_shift_51 : decode cX8_shift 51 = .ok (.aload 6, 2) := by decide +kernel
theorem dX8_shift_53 : decode cX8_shift 53 = .ok (.invokevirtual 328, 3) := by decide +kernel
theorem dX8_shift_56 : decode cX8_shift 56 = .ok (.ifCond .eq 16, 3) := by decide +kernel
theorem dX8_shift_59 : decode cX8_shift 59 = .ok (.aload 7, 2) := by decide +kernel
theorem dX8_shift_61 : decode cX8_shift 61 = .ok (.aload 6, 2) := by decide +kernel
theorem dX8_shift_63 : decode cX8_shift 63 = .ok (.getfield 331, 3) := by decide +kernel
theorem dX8_shift_66 : decode cX8_shift 66 = .ok (.invokevirtual 99, 3) := by decide +kernel
theorem dX8_shift_69 : decode cX8_shift 69 = .ok (.ifCond .ne 6, 3) := by decide +kernel
theorem dX8_shift_72 : decode cX8_shift 72 = .ok (.bipush (-12), 2) := by decide +kernel
theorem dX8_shift_74 : decode cX8_shift 74 = .ok (.ireturn, 1) := by decide +kernel
theorem dX8_shift_75 : decode cX8_shift 75 = .ok (.aload 6, 2) := by decide +kernel
theorem dX8_shift_77 : decode cX8_shift 77 = .ok (.iload_n 2, 1) := by decide +kernel
theorem dX8_shift_78 : decode cX8_shift 78 = .ok (.iload 5, 2) := by decide +kernel
theorem dX8_shift_80 : decode cX8_shift 80 = .ok (.invokevirtual 317, 3) := by decide +kernel
theorem dX8_shift_83 : decode cX8_shift 83 = .ok (.ifCond .eq 15, 3) := by decide +kernel
theorem dX8_shift_86 : decode cX8_shift 86 = .ok (.aload 7, 2) := by decide +kernel
theorem dX8_shift_88 : decode cX8_shift 88 = .ok (.iload 4, 2) := by decide +kernel
theorem dX8_shift_90 : decode cX8_shift 90 = .ok (.iload 5, 2) := by decide +kernel
theorem dX8_shift_92 : decode cX8_shift 92 = .ok (.invokevirtual 317, 3) := by decide +kernel
theorem dX8_shift_95 : decode cX8_shift 95 = .ok (.ifCond .ne 6, 3) := by decide +kernel
theorem dX8_shift_98 : decode cX8_shift 98 = .ok (.bipush (-13), 2) := by decide +kernel
theorem dX8_shift_100 : decode cX8_shift 100 = .ok (.ireturn, 1) := by decide +kernel
theorem dX8_shift_101 : decode cX8_shift 101 = .ok (.aload 6, 2) := by decide +kernel
theorem dX8_shift_103 : decode cX8_shift 103 = .ok (.getfield 320, 3) := by decide +kernel
theorem dX8_shift_106 : decode cX8_shift 106 = .ok (.iload_n 2, 1) := by decide +kernel
theorem dX8_shift_107 : decode cX8_shift 107 = .ok (.aload 7, 2) := by decide +kernel
theorem dX8_shift_109 : decode cX8_shift 109 = .ok (.getfield 320, 3) := by decide +kernel
theorem dX8_shift_112 : decode cX8_shift 112 = .ok (.iload 4, 2) := by decide +kernel
theorem dX8_shift_114 : decode cX8_shift 114 = .ok (.iload 5, 2) := by decide +kernel
theorem dX8_shift_116 : decode cX8_shift 116 = .ok (.invokestatic 255, 3) := by decide +kernel
theorem dX8_shift_119 : decode cX8_shift 119 = .ok (.iload 5, 2) := by decide +kernel
theorem dX8_shift_121 : decode cX8_shift 121 = .ok (.ireturn, 1) := by decide +kernel
theorem dX8_taken_0 : decode cX8_taken 0 = .ok (.iload_n 1, 1) := by decide +kernel
theorem dX8_taken_1 : decode cX8_taken 1 = .ok (.invokestatic 91, 3) := by decide +kernel
theorem dX8_taken_4 : decode cX8_taken 4 = .ok (.ifCond .eq 10, 3) := by decide +kernel
theorem dX8_taken_7 : decode cX8_taken 7 = .ok (.iload_n 2, 1) := by decide +kernel
theorem dX8_taken_8 : decode cX8_taken 8 = .ok (.invokestatic 283, 3) := by decide +kernel
theorem dX8_taken_11 : decode cX8_taken 11 = .ok (.ifCond .ne 5, 3) := by decide +kernel
theorem dX8_taken_14 : decode cX8_taken 14 = .ok (.iconst (-1), 1) := by decide +kernel
theorem dX8_taken_15 : decode cX8_taken 15 = .ok (.ireturn, 1) := by decide +kernel
theorem dX8_taken_16 : decode cX8_taken 16 = .ok (.aload_n 0, 1) := by decide +kernel
theorem dX8_taken_17 : decode cX8_taken 17 = .ok (.getfield 58, 3) := by decide +kernel
theorem dX8_taken_20 : decode cX8_taken 20 = .ok (.iload_n 1, 1) := by decide +kernel
theorem dX8_taken_21 : decode cX8_taken 21 = .ok (.aaload, 1) := by decide +kernel
theorem dX8_taken_22 : decode cX8_taken 22 = .ok (.astore_n 3, 1) := by decide +kernel
theorem dX8_taken_23 : decode cX8_taken 23 = .ok (.aload_n 3, 1) := by decide +kernel
theorem dX8_taken_24 : decode cX8_taken 24 = .ok (.invokevirtual 95, 3) := by decide +kernel
theorem dX8_taken_27 : decode cX8_taken 27 = .ok (.ifCond .eq 6, 3) := by decide +kernel
theorem dX8_taken_30 : decode cX8_taken 30 = .ok (.bipush (-11), 2) := by decide +kernel
theorem dX8_taken_32 : decode cX8_taken 32 = .ok (.ireturn, 1) := by decide +kernel
theorem dX8_taken_33 : decode cX8_taken 33 = .ok (.aload_n 3, 1) := by decide +kernel
theorem dX8_taken_34 : decode cX8_taken 34 = .ok (.invokevirtual 328, 3) := by decide +kernel
theorem dX8_taken_37 : decode cX8_taken 37 = .ok (.ifCond .ne 18, 3) := by decide +kernel
theorem dX8_taken_40 : decode cX8_taken 40 = .ok (.aload_n 0, 1) := by decide +kernel
theorem dX8_taken_41 : decode cX8_taken 41 = .ok (.getfield 52, 3) := by decide +kernel
theorem dX8_taken_44 : decode cX8_taken 44 = .ok (.aload_n 3, 1) := by decide +kernel
theorem dX8_taken_45 : decode cX8_taken 45 = .ok (.getfield 334, 3) := by decide +kernel
theorem dX8_taken_48 : decode cX8_taken 48 = .ok (.iload_n 2, 1) := by decide +kernel
theorem dX8_taken_49 : decode cX8_taken 49 = .ok (.invokevirtual 337, 3) := by decide +kernel
theorem dX8_taken_52 : decode cX8_taken 52 = .ok (.ifCond .ne 6, 3) := by decide +kernel
theorem dX8_taken_55 : decode cX8_taken 55 = .ok (.bipush (-12), 2) := by decide +kernel
theorem dX8_taken_57 : decode cX8_taken 57 = .ok (.ireturn, 1) := by decide +kernel
theorem dX8_taken_58 : decode cX8_taken 58 = .ok (.aload_n 0, 1) := by decide +kernel
theorem dX8_taken_59 : decode cX8_taken 59 = .ok (.getfield 52, 3) := by decide +kernel
theorem dX8_taken_62 : decode cX8_taken 62 = .ok (.getfield 289, 3) := by decide +kernel
theorem dX8_taken_65 : decode cX8_taken 65 = .ok (.aload_n 3, 1) := by decide +kernel
theorem dX8_taken_66 : decode cX8_taken 66 = .ok (.getfield 334, 3) := by decide +kernel
theorem dX8_taken_69 : decode cX8_taken 69 = .ok (.iaload, 1) := by decide +kernel
theorem dX8_taken_70 : decode cX8_taken 70 = .ok (.ireturn, 1) := by decide +kernel
theorem dX8_count_0 : decode cX8_count 0 = .ok (.iload_n 1, 1) := by decide +kernel
theorem dX8_count_1 : decode cX8_count 1 = .ok (.tableswitch 90 0 6 #[43, 48, 53, 58, 66, 74, 82], 43) := by decide +kernel
theorem dX8_count_44 : decode cX8_count 44 = .ok (.aload_n 0, 1) := by decide +kernel
theorem dX8_count_45 : decode cX8_count 45 = .ok (.getfield 80, 3) := by decide +kernel
theorem dX8_count_48 : decode cX8_count 48 = .ok (.ireturn, 1) := by decide +kernel
theorem dX8_count_49 : decode cX8_count 49 = .ok (.aload_n 0, 1) := by decide +kernel
theorem dX8_count_50 : decode cX8_count 50 = .ok (.getfield 84, 3) := by decide +kernel
theorem dX8_count_53 : decode cX8_count 53 = .ok (.ireturn, 1) := by decide +kernel
theorem dX8_count_54 : decode cX8_count 54 = .ok (.aload_n 0, 1) := by decide +kernel
theorem dX8_count_55 : decode cX8_count 55 = .ok (.getfield 106, 3) := by decide +kernel
theorem dX8_count_58 : decode cX8_count 58 = .ok (.ireturn, 1) := by decide +kernel
theorem dX8_count_59 : decode cX8_count 59 = .ok (.aload_n 0, 1) := by decide +kernel
theorem dX8_count_60 : decode cX8_count 60 = .ok (.getfield 72, 3) := by decide +kernel
theorem dX8_count_63 : decode cX8_count 63 = .ok (.getfield 122, 3) := by decide +kernel
theorem dX8_count_66 : decode cX8_count 66 = .ok (.ireturn, 1) := by decide +kernel
theorem dX8_count_67 : decode cX8_count 67 = .ok (.aload_n 0, 1) := by decide +kernel
theorem dX8_count_68 : decode cX8_count 68 = .ok (.getfield 17, 3) := by decide +kernel
theorem dX8_count_71 : decode cX8_count 71 = .ok (.getfield 265, 3) := by decide +kernel
theorem dX8_count_74 : decode cX8_count 74 = .ok (.ireturn, 1) := by decide +kernel
theorem dX8_count_75 : decode cX8_count 75 = .ok (.aload_n 0, 1) := by decide +kernel
theorem dX8_count_76 : decode cX8_count 76 = .ok (.getfield 52, 3) := by decide +kernel
theorem dX8_count_79 : decode cX8_count 79 = .ok (.getfield 286, 3) := by decide +kernel
theorem dX8_count_82 : decode cX8_count 82 = .ok (.ireturn, 1) := by decide +kernel
theorem dX8_count_83 : decode cX8_count 83 = .ok (.aload_n 0, 1) := by decide +kernel
theorem dX8_count_84 : decode cX8_count 84 = .ok (.getfield 52, 3) := by decide +kernel
theorem dX8_count_87 : decode cX8_count 87 = .ok (.getfield 295, 3) := by decide +kernel
theorem dX8_count_90 : decode cX8_count 90 = .ok (.ireturn, 1) := by decide +kernel
theorem dX8_count_91 : decode cX8_count 91 = .ok (.iconst (-1), 1) := by decide +kernel
theorem dX8_count_92 : decode cX8_count 92 = .ok (.ireturn, 1) := by decide +kernel
theorem dX8_canBe_0 : decode cX8_canBe 0 = .ok (.iload_n 1, 1) := by decide +kernel
theorem dX8_canBe_1 : decode cX8_canBe 1 = .ok (.getstatic 340, 3) := by decide +kernel
theorem dX8_canBe_4 : decode cX8_canBe 4 = .ok (.iload_n 0, 1) := by decide +kernel
theorem dX8_canBe_5 : decode cX8_canBe 5 = .ok (.iaload, 1) := by decide +kernel
theorem dX8_canBe_6 : decode cX8_canBe 6 = .ok (.if_icmp .lt 16, 3) := by decide +kernel
theorem dX8_canBe_9 : decode cX8_canBe 9 = .ok (.iload_n 1, 1) := by decide +kernel
theorem dX8_canBe_10 : decode cX8_canBe 10 = .ok (.getstatic 343, 3) := by decide +kernel
theorem dX8_canBe_13 : decode cX8_canBe 13 = .ok (.iload_n 0, 1) := by decide +kernel
theorem dX8_canBe_14 : decode cX8_canBe 14 = .ok (.iaload, 1) := by decide +kernel
theorem dX8_canBe_15 : decode cX8_canBe 15 = .ok (.if_icmp .gt 7, 3) := by decide +kernel
theorem dX8_canBe_18 : decode cX8_canBe 18 = .ok (.iconst 1, 1) := by decide +kernel
theorem dX8_canBe_19 : decode cX8_canBe 19 = .ok (.goto 4, 3) := by decide +kernel
theorem dX8_canBe_22 : decode cX8_canBe 22 = .ok (.iconst 0, 1) := by decide +kernel
theorem dX8_canBe_23 : decode cX8_canBe 23 = .ok (.ireturn, 1) := by decide +kernel
theorem dX8_holdersOf_0 : decode cX8_holdersOf 0 = .ok (.iload_n 1, 1) := by decide +kernel
theorem dX8_holdersOf_1 : decode cX8_holdersOf 1 = .ok (.ifCond .lt 9, 3) := by decide +kernel
theorem dX8_holdersOf_4 : decode cX8_holdersOf 4 = .ok (.iload_n 1, 1) := by decide +kernel
theorem dX8_holdersOf_5 : decode cX8_holdersOf 5 = .ok (.bipush 12, 2) := by decide +kernel
theorem dX8_holdersOf_7 : decode cX8_holdersOf 7 = .ok (.if_icmp .le 5, 3) := by decide +kernel
theorem dX8_holdersOf_10 : decode cX8_holdersOf 10 = .ok (.iconst 0, 1) := by decide +kernel
theorem dX8_holdersOf_11 : decode cX8_holdersOf 11 = .ok (.ireturn, 1) := by decide +kernel
theorem dX8_holdersOf_12 : decode cX8_holdersOf 12 = .ok (.iload_n 1, 1) := by decide +kernel
theorem dX8_holdersOf_13 : decode cX8_holdersOf 13 = .ok (.iconst 1, 1) := by decide +kernel
theorem dX8_holdersOf_14 : decode cX8_holdersOf 14 = .ok (.if_icmp .gt 8, 3) := by decide +kernel
theorem dX8_holdersOf_17 : decode cX8_holdersOf 17 = .ok (.aload_n 0, 1) := by decide +kernel
theorem dX8_holdersOf_18 : decode cX8_holdersOf 18 = .ok (.getfield 80, 3) := by decide +kernel
theorem dX8_holdersOf_21 : decode cX8_holdersOf 21 = .ok (.ireturn, 1) := by decide +kernel
theorem dX8_holdersOf_22 : decode cX8_holdersOf 22 = .ok (.iload_n 1, 1) := by decide +kernel
theorem dX8_holdersOf_23 : decode cX8_holdersOf 23 = .ok (.iconst 5, 1) := by decide +kernel
theorem dX8_holdersOf_24 : decode cX8_holdersOf 24 = .ok (.if_icmp .gt 8, 3) := by decide +kernel
theorem dX8_holdersOf_27 : decode cX8_holdersOf 27 = .ok (.aload_n 0, 1) := by decide +kernel
theorem dX8_holdersOf_28 : decode cX8_holdersOf 28 = .ok (.getfield 84, 3) := by decide +kernel
theorem dX8_holdersOf_31 : decode cX8_holdersOf 31 = .ok (.ireturn, 1) := by decide +kernel
theorem dX8_holdersOf_32 : decode cX8_holdersOf 32 = .ok (.iload_n 1, 1) := by decide +kernel
theorem dX8_holdersOf_33 : decode cX8_holdersOf 33 = .ok (.bipush 8, 2) := by decide +kernel
theorem dX8_holdersOf_35 : decode cX8_holdersOf 35 = .ok (.if_icmp .gt 5, 3) := by decide +kernel
theorem dX8_holdersOf_38 : decode cX8_holdersOf 38 = .ok (.iconst 2, 1) := by decide +kernel
theorem dX8_holdersOf_39 : decode cX8_holdersOf 39 = .ok (.ireturn, 1) := by decide +kernel
theorem dX8_holdersOf_40 : decode cX8_holdersOf 40 = .ok (.iload_n 1, 1) := by decide +kernel
theorem dX8_holdersOf_41 : decode cX8_holdersOf 41 = .ok (.bipush 10, 2) := by decide +kernel
theorem dX8_holdersOf_43 : decode cX8_holdersOf 43 = .ok (.if_icmp .gt 7, 3) := by decide +kernel
theorem dX8_holdersOf_46 : decode cX8_holdersOf 46 = .ok (.iconst 1, 1) := by decide +kernel
theorem dX8_holdersOf_47 : decode cX8_holdersOf 47 = .ok (.goto 7, 3) := by decide +kernel
theorem dX8_holdersOf_50 : decode cX8_holdersOf 50 = .ok (.aload_n 0, 1) := by decide +kernel
theorem dX8_holdersOf_51 : decode cX8_holdersOf 51 = .ok (.getfield 106, 3) := by decide +kernel
theorem dX8_holdersOf_54 : decode cX8_holdersOf 54 = .ok (.ireturn, 1) := by decide +kernel
theorem dX8_isThere_0 : decode cX8_isThere 0 = .ok (.iload_n 1, 1) := by decide +kernel
theorem dX8_isThere_1 : decode cX8_isThere 1 = .ok (.ifCond .lt 16, 3) := by decide +kernel
theorem dX8_isThere_4 : decode cX8_isThere 4 = .ok (.iload_n 1, 1) := by decide +kernel
theorem dX8_isThere_5 : decode cX8_isThere 5 = .ok (.aload_n 0, 1) := by decide +kernel
theorem dX8_isThere_6 : decode cX8_isThere 6 = .ok (.iload_n 2, 1) := by decide +kernel
theorem dX8_isThere_7 : decode cX8_isThere 7 = .ok (.invokevirtual 346, 3) := by decide +kernel
theorem dX8_isThere_10 : decode cX8_isThere 10 = .ok (.if_icmp .ge 7, 3) := by decide +kernel
theorem dX8_isThere_13 : decode cX8_isThere 13 = .ok (.iconst 1, 1) := by decide +kernel
theorem dX8_isThere_14 : decode cX8_isThere 14 = .ok (.goto 4, 3) := by decide +kernel
theorem dX8_isThere_17 : decode cX8_isThere 17 = .ok (.iconst 0, 1) := by decide +kernel
theorem dX8_isThere_18 : decode cX8_isThere 18 = .ok (.ireturn, 1) := by decide +kernel
theorem dX8_isCuff_0 : decode cX8_isCuff 0 = .ok (.iload_n 1, 1) := by decide +kernel
theorem dX8_isCuff_1 : decode cX8_isCuff 1 = .ok (.ifCond .lt 15, 3) := by decide +kernel
theorem dX8_isCuff_4 : decode cX8_isCuff 4 = .ok (.iload_n 1, 1) := by decide +kernel
theorem dX8_isCuff_5 : decode cX8_isCuff 5 = .ok (.aload_n 0, 1) := by decide +kernel
theorem dX8_isCuff_6 : decode cX8_isCuff 6 = .ok (.getfield 84, 3) := by decide +kernel
theorem dX8_isCuff_9 : decode cX8_isCuff 9 = .ok (.if_icmp .ge 7, 3) := by decide +kernel
theorem dX8_isCuff_12 : decode cX8_isCuff 12 = .ok (.iconst 1, 1) := by decide +kernel
theorem dX8_isCuff_13 : decode cX8_isCuff 13 = .ok (.goto 4, 3) := by decide +kernel
theorem dX8_isCuff_16 : decode cX8_isCuff 16 = .ok (.iconst 0, 1) := by decide +kernel
theorem dX8_isCuff_17 : decode cX8_isCuff 17 = .ok (.ireturn, 1) := by decide +kernel
theorem dX8_isLinkAndCuff_0 : decode cX8_isLinkAndCuff 0 = .ok (.iload_n 1, 1) := by decide +kernel
theorem dX8_isLinkAndCuff_1 : decode cX8_isLinkAndCuff 1 = .ok (.ifCond .lt 29, 3) := by decide +kernel
theorem dX8_isLinkAndCuff_4 : decode cX8_isLinkAndCuff 4 = .ok (.iload_n 1, 1) := by decide +kernel
theorem dX8_isLinkAndCuff_5 : decode cX8_isLinkAndCuff 5 = .ok (.bipush 10, 2) := by decide +kernel
theorem dX8_isLinkAndCuff_7 : decode cX8_isLinkAndCuff 7 = .ok (.idiv, 1) := by decide +kernel
theorem dX8_isLinkAndCuff_8 : decode cX8_isLinkAndCuff 8 = .ok (.aload_n 0, 1) := by decide +kernel
theorem dX8_isLinkAndCuff_9 : decode cX8_isLinkAndCuff 9 = .ok (.getfield 80, 3) := by decide +kernel
theorem dX8_isLinkAndCuff_12 : decode cX8_isLinkAndCuff 12 = .ok (.if_icmp .ge 18, 3) := by decide +kernel
theorem dX8_isLinkAndCuff_15 : decode cX8_isLinkAndCuff 15 = .ok (.aload_n 0, 1) := by decide +kernel
theorem dX8_isLinkAndCuff_16 : decode cX8_isLinkAndCuff 16 = .ok (.iload_n 1, 1) := by decide +kernel
theorem dX8_isLinkAndCuff_17 : decode cX8_isLinkAndCuff 17 = .ok (.bipush 10, 2) := by decide +kernel
theorem dX8_isLinkAndCuff_19 : decode cX8_isLinkAndCuff 19 = .ok (.irem, 1) := by decide +kernel
theorem dX8_isLinkAndCuff_20 : decode cX8_isLinkAndCuff 20 = .ok (.invokevirtual 116, 3) := by decide +kernel
theorem dX8_isLinkAndCuff_23 : decode cX8_isLinkAndCuff 23 = .ok (.ifCond .eq 7, 3) := by decide +kernel
theorem dX8_isLinkAndCuff_26 : decode cX8_isLinkAndCuff 26 = .ok (.iconst 1, 1) := by decide +kernel
theorem dX8_isLinkAndCuff_27 : decode cX8_isLinkAndCuff 27 = .ok (.goto 4, 3) := by decide +kernel
theorem dX8_isLinkAndCuff_30 : decode cX8_isLinkAndCuff 30 = .ok (.iconst 0, 1) := by decide +kernel
theorem dX8_isLinkAndCuff_31 : decode cX8_isLinkAndCuff 31 = .ok (.ireturn, 1) := by decide +kernel
theorem dX8_isShelf_0 : decode cX8_isShelf 0 = .ok (.iload_n 0, 1) := by decide +kernel
theorem dX8_isShelf_1 : decode cX8_isShelf 1 = .ok (.ifCond .lt 13, 3) := by decide +kernel
theorem dX8_isShelf_4 : decode cX8_isShelf 4 = .ok (.iload_n 0, 1) := by decide +kernel
theorem dX8_isShelf_5 : decode cX8_isShelf 5 = .ok (.bipush 6, 2) := by decide +kernel
theorem dX8_isShelf_7 : decode cX8_isShelf 7 = .ok (.if_icmp .ge 7, 3) := by decide +kernel
theorem dX8_isShelf_10 : decode cX8_isShelf 10 = .ok (.iconst 1, 1) := by decide +kernel
theorem dX8_isShelf_11 : decode cX8_isShelf 11 = .ok (.goto 4, 3) := by decide +kernel
theorem dX8_isShelf_14 : decode cX8_isShelf 14 = .ok (.iconst 0, 1) := by decide +kernel
theorem dX8_isShelf_15 : decode cX8_isShelf 15 = .ok (.ireturn, 1) := by decide +kernel
theorem dX8_isPart_0 : decode cX8_isPart 0 = .ok (.iload_n 0, 1) := by decide +kernel
theorem dX8_isPart_1 : decode cX8_isPart 1 = .ok (.ifCond .eq 8, 3) := by decide +kernel
theorem dX8_isPart_4 : decode cX8_isPart 4 = .ok (.iload_n 0, 1) := by decide +kernel
theorem dX8_isPart_5 : decode cX8_isPart 5 = .ok (.iconst 1, 1) := by decide +kernel
theorem dX8_isPart_6 : decode cX8_isPart 6 = .ok (.if_icmp .ne 7, 3) := by decide +kernel
theorem dX8_isPart_9 : decode cX8_isPart 9 = .ok (.iconst 1, 1) := by decide +kernel
theorem dX8_isPart_10 : decode cX8_isPart 10 = .ok (.goto 4, 3) := by decide +kernel
theorem dX8_isPart_13 : decode cX8_isPart 13 = .ok (.iconst 0, 1) := by decide +kernel
theorem dX8_isPart_14 : decode cX8_isPart 14 = .ok (.ireturn, 1) := by decide +kernel
theorem dX8_bothCount_0 : decode cX8_bothCount 0 = .ok (.aload_n 0, 1) := by decide +kernel
theorem dX8_bothCount_1 : decode cX8_bothCount 1 = .ok (.getfield 80, 3) := by decide +kernel
theorem dX8_bothCount_4 : decode cX8_bothCount 4 = .ok (.aload_n 0, 1) := by decide +kernel
theorem dX8_bothCount_5 : decode cX8_bothCount 5 = .ok (.getfield 84, 3) := by decide +kernel
theorem dX8_bothCount_8 : decode cX8_bothCount 8 = .ok (.invokestatic 245, 3) := by decide +kernel
theorem dX8_bothCount_11 : decode cX8_bothCount 11 = .ok (.ireturn, 1) := by decide +kernel
theorem dX8_addCuff_0 : decode cX8_addCuff 0 = .ok (.aload_n 0, 1) := by decide +kernel
theorem dX8_addCuff_1 : decode cX8_addCuff 1 = .ok (.getfield 11, 3) := by decide +kernel
theorem dX8_addCuff_4 : decode cX8_addCuff 4 = .ok (.iconst 2, 1) := by decide +kernel
theorem dX8_addCuff_5 : decode cX8_addCuff 5 = .ok (.aaload, 1) := by decide +kernel
theorem dX8_addCuff_6 : decode cX8_addCuff 6 = .ok (.aload_n 0, 1) := by decide +kernel
theorem dX8_addCuff_7 : decode cX8_addCuff 7 = .ok (.getfield 84, 3) := by decide +kernel
theorem dX8_addCuff_10 : decode cX8_addCuff 10 = .ok (.iload_n 1, 1) := by decide +kernel
theorem dX8_addCuff_11 : decode cX8_addCuff 11 = .ok (.iastore, 1) := by decide +kernel
theorem dX8_addCuff_12 : decode cX8_addCuff 12 = .ok (.aload_n 0, 1) := by decide +kernel
theorem dX8_addCuff_13 : decode cX8_addCuff 13 = .ok (.getfield 11, 3) := by decide +kernel
theorem dX8_addCuff_16 : decode cX8_addCuff 16 = .ok (.iconst 3, 1) := by decide +kernel
theorem dX8_addCuff_17 : decode cX8_addCuff 17 = .ok (.aaload, 1) := by decide +kernel
theorem dX8_addCuff_18 : decode cX8_addCuff 18 = .ok (.aload_n 0, 1) := by decide +kernel
theorem dX8_addCuff_19 : decode cX8_addCuff 19 = .ok (.getfield 84, 3) := by decide +kernel
theorem dX8_addCuff_22 : decode cX8_addCuff 22 = .ok (.iload_n 2, 1) := by decide +kernel
theorem dX8_addCuff_23 : decode cX8_addCuff 23 = .ok (.iastore, 1) := by decide +kernel
theorem dX8_addCuff_24 : decode cX8_addCuff 24 = .ok (.aload_n 0, 1) := by decide +kernel
theorem dX8_addCuff_25 : decode cX8_addCuff 25 = .ok (.getfield 11, 3) := by decide +kernel
theorem dX8_addCuff_28 : decode cX8_addCuff 28 = .ok (.iconst 4, 1) := by decide +kernel
theorem dX8_addCuff_29 : decode cX8_addCuff 29 = .ok (.aaload, 1) := by decide +kernel
theorem dX8_addCuff_30 : decode cX8_addCuff 30 = .ok (.aload_n 0, 1) := by decide +kernel
theorem dX8_addCuff_31 : decode cX8_addCuff 31 = .ok (.getfield 84, 3) := by decide +kernel
theorem dX8_addCuff_34 : decode cX8_addCuff 34 = .ok (.iload_n 3, 1) := by decide +kernel
theorem dX8_addCuff_35 : decode cX8_addCuff 35 = .ok (.iastore, 1) := by decide +kernel
theorem dX8_addCuff_36 : decode cX8_addCuff 36 = .ok (.aload_n 0, 1) := by decide +kernel
theorem dX8_addCuff_37 : decode cX8_addCuff 37 = .ok (.getfield 11, 3) := by decide +kernel
theorem dX8_addCuff_40 : decode cX8_addCuff 40 = .ok (.iconst 5, 1) := by decide +kernel
theorem dX8_addCuff_41 : decode cX8_addCuff 41 = .ok (.aaload, 1) := by decide +kernel
theorem dX8_addCuff_42 : decode cX8_addCuff 42 = .ok (.aload_n 0, 1) := by decide +kernel
theorem dX8_addCuff_43 : decode cX8_addCuff 43 = .ok (.getfield 84, 3) := by decide +kernel
theorem dX8_addCuff_46 : decode cX8_addCuff 46 = .ok (.bipush 20, 2) := by decide +kernel
theorem dX8_addCuff_48 : decode cX8_addCuff 48 = .ok (.iastore, 1) := by decide +kernel
theorem dX8_addCuff_49 : decode cX8_addCuff 49 = .ok (.aload_n 0, 1) := by decide +kernel
theorem dX8_addCuff_50 : decode cX8_addCuff 50 = .ok (.dup, 1) := by decide +kernel
theorem dX8_addCuff_51 : decode cX8_addCuff 51 = .ok (.getfield 84, 3) := by decide +kernel
theorem dX8_addCuff_54 : decode cX8_addCuff 54 = .ok (.dup_x1, 1) := by decide +kernel
theorem dX8_addCuff_55 : decode cX8_addCuff 55 = .ok (.iconst 1, 1) := by decide +kernel
theorem dX8_addCuff_56 : decode cX8_addCuff 56 = .ok (.iadd, 1) := by decide +kernel
theorem dX8_addCuff_57 : decode cX8_addCuff 57 = .ok (.putfield 84, 3) := by decide +kernel
theorem dX8_addCuff_60 : decode cX8_addCuff 60 = .ok (.ireturn, 1) := by decide +kernel
theorem dX8_cameFrom_0 : decode cX8_cameFrom 0 = .ok (.aload_n 0, 1) := by decide +kernel
theorem dX8_cameFrom_1 : decode cX8_cameFrom 1 = .ok (.getfield 84, 3) := by decide +kernel
theorem dX8_cameFrom_4 : decode cX8_cameFrom 4 = .ok (.bipush 6, 2) := by decide +kernel
theorem dX8_cameFrom_6 : decode cX8_cameFrom 6 = .ok (.if_icmp .ge 12, 3) := by decide +kernel
theorem dX8_cameFrom_9 : decode cX8_cameFrom 9 = .ok (.aload_n 1, 1) := by decide +kernel
theorem dX8_cameFrom_10 : decode cX8_cameFrom 10 = .ok (.iload_n 2, 1) := by decide +kernel
theorem dX8_cameFrom_11 : decode cX8_cameFrom 11 = .ok (.iconst 3, 1) := by decide +kernel
theorem dX8_cameFrom_12 : decode cX8_cameFrom 12 = .ok (.invokevirtual 317, 3) := by decide +kernel
theorem dX8_cameFrom_15 : decode cX8_cameFrom 15 = .ok (.ifCond .ne 5, 3) := by decide +kernel
theorem dX8_cameFrom_18 : decode cX8_cameFrom 18 = .ok (.iconst 0, 1) := by decide +kernel
theorem dX8_cameFrom_19 : decode cX8_cameFrom 19 = .ok (.ireturn, 1) := by decide +kernel
theorem dX8_cameFrom_20 : decode cX8_cameFrom 20 = .ok (.aload_n 1, 1) := by decide +kernel
theorem dX8_cameFrom_21 : decode cX8_cameFrom 21 = .ok (.getfield 320, 3) := by decide +kernel
theorem dX8_cameFrom_24 : decode cX8_cameFrom 24 = .ok (.iload_n 2, 1) := by decide +kernel
theorem dX8_cameFrom_25 : decode cX8_cameFrom 25 = .ok (.laload, 1) := by decide +kernel
theorem dX8_cameFrom_26 : decode cX8_cameFrom 26 = .ok (.l2i, 1) := by decide +kernel
theorem dX8_cameFrom_27 : decode cX8_cameFrom 27 = .ok (.istore_n 3, 1) := by decide +kernel
theorem dX8_cameFrom_28 : decode cX8_cameFrom 28 = .ok (.aload_n 1, 1) := by decide +kernel
theorem dX8_cameFrom_29 : decode cX8_cameFrom 29 = .ok (.getfield 320, 3) := by decide +kernel
theorem dX8_cameFrom_32 : decode cX8_cameFrom 32 = .ok (.iload_n 2, 1) := by decide +kernel
theorem dX8_cameFrom_33 : decode cX8_cameFrom 33 = .ok (.iconst 1, 1) := by decide +kernel
theorem dX8_cameFrom_34 : decode cX8_cameFrom 34 = .ok (.iadd, 1) := by decide +kernel
theorem dX8_cameFrom_35 : decode cX8_cameFrom 35 = .ok (.laload, 1) := by decide +kernel
theorem dX8_cameFrom_36 : decode cX8_cameFrom 36 = .ok (.l2i, 1) := by decide +kernel
theorem dX8_cameFrom_37 : decode cX8_cameFrom 37 = .ok (.istore 4, 2) := by decide +kernel
theorem dX8_cameFrom_39 : decode cX8_cameFrom 39 = .ok (.aload_n 1, 1) := by decide +kernel
theorem dX8_cameFrom_40 : decode cX8_cameFrom 40 = .ok (.getfield 320, 3) := by decide +kernel
theorem dX8_cameFrom_43 : decode cX8_cameFrom 43 = .ok (.iload_n 2, 1) := by decide +kernel
theorem dX8_cameFrom_44 : decode cX8_cameFrom 44 = .ok (.iconst 2, 1) := by decide +kernel
theorem dX8_cameFrom_45 : decode cX8_cameFrom 45 = .ok (.iadd, 1) := by decide +kernel
theorem dX8_cameFrom_46 : decode cX8_cameFrom 46 = .ok (.laload, 1) := by decide +kernel
theorem dX8_cameFrom_47 : decode cX8_cameFrom 47 = .ok (.l2i, 1) := by decide +kernel
theorem dX8_cameFrom_48 : decode cX8_cameFrom 48 = .ok (.istore 5, 2) := by decide +kernel
theorem dX8_cameFrom_50 : decode cX8_cameFrom 50 = .ok (.iconst 2, 1) := by decide +kernel
theorem dX8_cameFrom_51 : decode cX8_cameFrom 51 = .ok (.iload_n 3, 1) := by decide +kernel
theorem dX8_cameFrom_52 : decode cX8_cameFrom 52 = .ok (.invokestatic 76, 3) := by decide +kernel
theorem dX8_cameFrom_55 : decode cX8_cameFrom 55 = .ok (.ifCond .eq 21, 3) := by decide +kernel
theorem dX8_cameFrom_58 : decode cX8_cameFrom 58 = .ok (.iconst 3, 1) := by decide +kernel
theorem dX8_cameFrom_59 : decode cX8_cameFrom 59 = .ok (.iload 4, 2) := by decide +kernel
theorem dX8_cameFrom_61 : decode cX8_cameFrom 61 = .ok (.invokestatic 76, 3) := by decide +kernel
theorem dX8_cameFrom_64 : decode cX8_cameFrom 64 = .ok (.ifCond .eq 12, 3) := by decide +kernel
theorem dX8_cameFrom_67 : decode cX8_cameFrom 67 = .ok (.iconst 4, 1) := by decide +kernel
theorem dX8_cameFrom_68 : decode cX8_cameFrom 68 = .ok (.iload 5, 2) := by decide +kernel
theorem dX8_cameFrom_70 : decode cX8_cameFrom 70 = .ok (.invokestatic 76, 3) := by decide +kernel
theorem dX8_cameFrom_73 : decode cX8_cameFrom 73 = .ok (.ifCond .ne 5, 3) := by decide +kernel
theorem dX8_cameFrom_76 : decode cX8_cameFrom 76 = .ok (.iconst 0, 1) := by decide +kernel
theorem dX8_cameFrom_77 : decode cX8_cameFrom 77 = .ok (.ireturn, 1) := by decide +kernel
theorem dX8_cameFrom_78 : decode cX8_cameFrom 78 = .ok (.aload_n 0, 1) := by decide +kernel
theorem dX8_cameFrom_79 : decode cX8_cameFrom 79 = .ok (.iload_n 3, 1) := by decide +kernel
theorem dX8_cameFrom_80 : decode cX8_cameFrom 80 = .ok (.iload 4, 2) := by decide +kernel
theorem dX8_cameFrom_82 : decode cX8_cameFrom 82 = .ok (.iload 5, 2) := by decide +kernel
theorem dX8_cameFrom_84 : decode cX8_cameFrom 84 = .ok (.invokevirtual 87, 3) := by decide +kernel
theorem dX8_cameFrom_87 : decode cX8_cameFrom 87 = .ok (.pop, 1) := by decide +kernel
theorem dX8_cameFrom_88 : decode cX8_cameFrom 88 = .ok (.iconst 1, 1) := by decide +kernel
theorem dX8_cameFrom_89 : decode cX8_cameFrom 89 = .ok (.ireturn, 1) := by decide +kernel
theorem dX8_takesWith_0 : decode cX8_takesWith 0 = .ok (.iconst 0, 1) := by decide +kernel
theorem dX8_takesWith_1 : decode cX8_takesWith 1 = .ok (.aload_n 0, 1) := by decide +kernel
theorem dX8_takesWith_2 : decode cX8_takesWith 2 = .ok (.getfield 11, 3) := by decide +kernel
theorem dX8_takesWith_5 : decode cX8_takesWith 5 = .ok (.iconst 0, 1) := by decide +kernel
theorem dX8_takesWith_6 : decode cX8_takesWith 6 = .ok (.aaload, 1) := by decide +kernel
theorem dX8_takesWith_7 : decode cX8_takesWith 7 = .ok (.iload_n 1, 1) := by decide +kernel
theorem dX8_takesWith_8 : decode cX8_takesWith 8 = .ok (.iaload, 1) := by decide +kernel
theorem dX8_takesWith_9 : decode cX8_takesWith 9 = .ok (.aload_n 0, 1) := by decide +kernel
theorem dX8_takesWith_10 : decode cX8_takesWith 10 = .ok (.getfield 11, 3) := by decide +kernel
theorem dX8_takesWith_13 : decode cX8_takesWith 13 = .ok (.iconst 1, 1) := by decide +kernel
theorem dX8_takesWith_14 : decode cX8_takesWith 14 = .ok (.aaload, 1) := by decide +kernel
theorem dX8_takesWith_15 : decode cX8_takesWith 15 = .ok (.iload_n 1, 1) := by decide +kernel
theorem dX8_takesWith_16 : decode cX8_takesWith 16 = .ok (.iaload, 1) := by decide +kernel
theorem dX8_takesWith_17 : decode cX8_takesWith 17 = .ok (.isub, 1) := by decide +kernel
theorem dX8_takesWith_18 : decode cX8_takesWith 18 = .ok (.invokestatic 216, 3) := by decide +kernel
theorem dX8_takesWith_21 : decode cX8_takesWith 21 = .ok (.istore 6, 2) := by decide +kernel
theorem dX8_takesWith_23 : decode cX8_takesWith 23 = .ok (.aload_n 0, 1) := by decide +kernel
theorem dX8_takesWith_24 : decode cX8_takesWith 24 = .ok (.getfield 11, 3) := by decide +kernel
theorem dX8_takesWith_27 : decode cX8_takesWith 27 = .ok (.iconst 3, 1) := by decide +kernel
theorem dX8_takesWith_28 : decode cX8_takesWith 28 = .ok (.aaload, 1) := by decide +kernel
theorem dX8_takesWith_29 : decode cX8_takesWith 29 = .ok (.iload_n 2, 1) := by decide +kernel
theorem dX8_takesWith_30 : decode cX8_takesWith 30 = .ok (.iaload, 1) := by decide +kernel
theorem dX8_takesWith_31 : decode cX8_takesWith 31 = .ok (.istore 7, 2) := by decide +kernel
theorem dX8_takesWith_33 : decode cX8_takesWith 33 = .ok (.aload_n 0, 1) := by decide +kernel
theorem dX8_takesWith_34 : decode cX8_takesWith 34 = .ok (.getfield 68, 3) := by decide +kernel
theorem dX8_takesWith_37 : decode cX8_takesWith 37 = .ok (.invokevirtual 349, 3) := by decide +kernel
theorem dX8_takesWith_40 : decode cX8_takesWith 40 = .ok (.ifCond .ne 26, 3) := by decide +kernel
theorem dX8_takesWith_43 : decode cX8_takesWith 43 = .ok (.iconst 1, 1) := by decide +kernel
theorem dX8_takesWith_44 : decode cX8_takesWith 44 = .ok (.bipush 10, 2) := by decide +kernel
theorem dX8_takesWith_46 : decode cX8_takesWith 46 = .ok (.iload 4, 2) := by decide +kernel
theorem dX8_takesWith_48 : decode cX8_takesWith 48 = .ok (.isub, 1) := by decide +kernel
theorem dX8_takesWith_49 : decode cX8_takesWith 49 = .ok (.iload 6, 2) := by decide +kernel
theorem dX8_takesWith_51 : decode cX8_takesWith 51 = .ok (.imul, 1) := by decide +kernel
theorem dX8_takesWith_52 : decode cX8_takesWith 52 = .ok (.iload_n 3, 1) := by decide +kernel
theorem dX8_takesWith_53 : decode cX8_takesWith 53 = .ok (.iadd, 1) := by decide +kernel
theorem dX8_takesWith_54 : decode cX8_takesWith 54 = .ok (.iconst 2, 1) := by decide +kernel
theorem dX8_takesWith_55 : decode cX8_takesWith 55 = .ok (.iload 7, 2) := by decide +kernel
theorem dX8_takesWith_57 : decode cX8_takesWith 57 = .ok (.imul, 1) := by decide +kernel
theorem dX8_takesWith_58 : decode cX8_takesWith 58 = .ok (.iadd, 1) := by decide +kernel
theorem dX8_takesWith_59 : decode cX8_takesWith 59 = .ok (.iload 5, 2) := by decide +kernel
theorem dX8_takesWith_61 : decode cX8_takesWith 61 = .ok (.isub, 1) := by decide +kernel
theorem dX8_takesWith_62 : decode cX8_takesWith 62 = .ok (.invokestatic 216, 3) := by decide +kernel
theorem dX8_takesWith_65 : decode cX8_takesWith 65 = .ok (.ireturn, 1) := by decide +kernel
theorem dX8_takesWith_66 : decode cX8_takesWith 66 = .ok (.aload_n 0, 1) := by decide +kernel
theorem dX8_takesWith_67 : decode cX8_takesWith 67 = .ok (.getfield 68, 3) := by decide +kernel
theorem dX8_takesWith_70 : decode cX8_takesWith 70 = .ok (.iload 4, 2) := by decide +kernel
theorem dX8_takesWith_72 : decode cX8_takesWith 72 = .ok (.iload 6, 2) := by decide +kernel
theorem dX8_takesWith_74 : decode cX8_takesWith 74 = .ok (.iload 7, 2) := by decide +kernel
theorem dX8_takesWith_76 : decode cX8_takesWith 76 = .ok (.iload_n 3, 1) := by decide +kernel
theorem dX8_takesWith_77 : decode cX8_takesWith 77 = .ok (.iload 5, 2) := by decide +kernel
theorem dX8_takesWith_79 : decode cX8_takesWith 79 = .ok (.iload_n 2, 1) := by decide +kernel
theorem dX8_takesWith_80 : decode cX8_takesWith 80 = .ok (.invokevirtual 352, 3) := by decide +kernel
theorem dX8_takesWith_83 : decode cX8_takesWith 83 = .ok (.iconst 1, 1) := by decide +kernel
theorem dX8_takesWith_84 : decode cX8_takesWith 84 = .ok (.sipush 999, 3) := by decide +kernel
theorem dX8_takesWith_87 : decode cX8_takesWith 87 = .ok (.aload_n 0, 1) := by decide +kernel
theorem dX8_takesWith_88 : decode cX8_takesWith 88 = .ok (.getfield 68, 3) := by decide +kernel
theorem dX8_takesWith_91 : decode cX8_takesWith 91 = .ok (.invokevirtual 356, 3) := by decide +kernel
theorem dX8_takesWith_94 : decode cX8_takesWith 94 = .ok (.invokestatic 245, 3) := by decide +kernel
theorem dX8_takesWith_97 : decode cX8_takesWith 97 = .ok (.invokestatic 216, 3) := by decide +kernel
theorem dX8_takesWith_100 : decode cX8_takesWith 100 = .ok (.ireturn, 1) := by decide +kernel
theorem dX8_takesBySkill_0 : decode cX8_takesBySkill 0 = .ok (.aload_n 0, 1) := by decide +kernel
theorem dX8_takesBySkill_1 : decode cX8_takesBySkill 1 = .ok (.iload_n 1, 1) := by decide +kernel
theorem dX8_takesBySkill_2 : decode cX8_takesBySkill 2 = .ok (.iload_n 2, 1) := by decide +kernel
theorem dX8_takesBySkill_3 : decode cX8_takesBySkill 3 = .ok (.aload_n 0, 1) := by decide +kernel
theorem dX8_takesBySkill_4 : decode cX8_takesBySkill 4 = .ok (.getfield 11, 3) := by decide +kernel
theorem dX8_takesBySkill_7 : decode cX8_takesBySkill 7 = .ok (.iconst 2, 1) := by decide +kernel
theorem dX8_takesBySkill_8 : decode cX8_takesBySkill 8 = .ok (.aaload, 1) := by decide +kernel
theorem dX8_takesBySkill_9 : decode cX8_takesBySkill 9 = .ok (.iload_n 2, 1) := by decide +kernel
theorem dX8_takesBySkill_10 : decode cX8_takesBySkill 10 = .ok (.iaload, 1) := by decide +kernel
theorem dX8_takesBySkill_11 : decode cX8_takesBySkill 11 = .ok (.iload_n 3, 1) := by decide +kernel
theorem dX8_takesBySkill_12 : decode cX8_takesBySkill 12 = .ok (.iload 4, 2) := by decide +kernel
theorem dX8_takesBySkill_14 : decode cX8_takesBySkill 14 = .ok (.invokevirtual 359, 3) := by decide +kernel
theorem dX8_takesBySkill_17 : decode cX8_takesBySkill 17 = .ok (.ireturn, 1) := by decide +kernel
theorem dX8_takesByHand_0 : decode cX8_takesByHand 0 = .ok (.aload_n 0, 1) := by decide +kernel
theorem dX8_takesByHand_1 : decode cX8_takesByHand 1 = .ok (.iload_n 1, 1) := by decide +kernel
theorem dX8_takesByHand_2 : decode cX8_takesByHand 2 = .ok (.iload_n 2, 1) := by decide +kernel
theorem dX8_takesByHand_3 : decode cX8_takesByHand 3 = .ok (.aload_n 0, 1) := by decide +kernel
theorem dX8_takesByHand_4 : decode cX8_takesByHand 4 = .ok (.getfield 11, 3) := by decide +kernel
theorem dX8_takesByHand_7 : decode cX8_takesByHand 7 = .ok (.iconst 2, 1) := by decide +kernel
theorem dX8_takesByHand_8 : decode cX8_takesByHand 8 = .ok (.aaload, 1) := by decide +kernel
theorem dX8_takesByHand_9 : decode cX8_takesByHand 9 = .ok (.iload_n 2, 1) := by decide +kernel
theorem dX8_takesByHand_10 : decode cX8_takesByHand 10 = .ok (.iaload, 1) := by decide +kernel
theorem dX8_takesByHand_11 : decode cX8_takesByHand 11 = .ok (.aload_n 0, 1) := by decide +kernel
theorem dX8_takesByHand_12 : decode cX8_takesByHand 12 = .ok (.getfield 11, 3) := by decide +kernel
theorem dX8_takesByHand_15 : decode cX8_takesByHand 15 = .ok (.bipush 6, 2) := by decide +kernel
theorem dX8_takesByHand_17 : decode cX8_takesByHand 17 = .ok (.aaload, 1) := by decide +kernel
theorem dX8_takesByHand_18 : decode cX8_takesByHand 18 = .ok (.iload_n 3, 1) := by decide +kernel
theorem dX8_takesByHand_19 : decode cX8_takesByHand 19 = .ok (.iaload, 1) := by decide +kernel
theorem dX8_takesByHand_20 : decode cX8_takesByHand 20 = .ok (.aload_n 0, 1) := by decide +kernel
theorem dX8_takesByHand_21 : decode cX8_takesByHand 21 = .ok (.getfield 11, 3) := by decide +kernel
theorem dX8_takesByHand_24 : decode cX8_takesByHand 24 = .ok (.bipush 8, 2) := by decide +kernel
theorem dX8_takesByHand_26 : decode cX8_takesByHand 26 = .ok (.aaload, 1) := by decide +kernel
theorem dX8_takesByHand_27 : decode cX8_takesByHand 27 = .ok (.iload_n 3, 1) := by decide +kernel
theorem dX8_takesByHand_28 : decode cX8_takesByHand 28 = .ok (.iaload, 1) := by decide +kernel
theorem dX8_takesByHand_29 : decode cX8_takesByHand 29 = .ok (.iload 4, 2) := by decide +kernel
theorem dX8_takesByHand_31 : decode cX8_takesByHand 31 = .ok (.iadd, 1) := by decide +kernel
theorem dX8_takesByHand_32 : decode cX8_takesByHand 32 = .ok (.invokevirtual 359, 3) := by decide +kernel
theorem dX8_takesByHand_35 : decode cX8_takesByHand 35 = .ok (.ireturn, 1) := by decide +kernel
theorem dX8_takesNow_0 : decode cX8_takesNow 0 = .ok (.aload_n 0, 1) := by decide +kernel
theorem dX8_takesNow_1 : decode cX8_takesNow 1 = .ok (.iload_n 1, 1) := by decide +kernel
theorem dX8_takesNow_2 : decode cX8_takesNow 2 = .ok (.iload_n 2, 1) := by decide +kernel
theorem dX8_takesNow_3 : decode cX8_takesNow 3 = .ok (.aload_n 0, 1) := by decide +kernel
theorem dX8_takesNow_4 : decode cX8_takesNow 4 = .ok (.getfield 11, 3) := by decide +kernel
theorem dX8_takesNow_7 : decode cX8_takesNow 7 = .ok (.iconst 4, 1) := by decide +kernel
theorem dX8_takesNow_8 : decode cX8_takesNow 8 = .ok (.aaload, 1) := by decide +kernel
theorem dX8_takesNow_9 : decode cX8_takesNow 9 = .ok (.iload_n 2, 1) := by decide +kernel
theorem dX8_takesNow_10 : decode cX8_takesNow 10 = .ok (.iaload, 1) := by decide +kernel
theorem dX8_takesNow_11 : decode cX8_takesNow 11 = .ok (.iconst 0, 1) := by decide +kernel
theorem dX8_takesNow_12 : decode cX8_takesNow 12 = .ok (.invokevirtual 169, 3) := by decide +kernel
theorem dX8_takesNow_15 : decode cX8_takesNow 15 = .ok (.ireturn, 1) := by decide +kernel
theorem dX8_takesBefore_0 : decode cX8_takesBefore 0 = .ok (.aload_n 0, 1) := by decide +kernel
theorem dX8_takesBefore_1 : decode cX8_takesBefore 1 = .ok (.getfield 11, 3) := by decide +kernel
theorem dX8_takesBefore_4 : decode cX8_takesBefore 4 = .ok (.bipush 6, 2) := by decide +kernel
theorem dX8_takesBefore_6 : decode cX8_takesBefore 6 = .ok (.aaload, 1) := by decide +kernel
theorem dX8_takesBefore_7 : decode cX8_takesBefore 7 = .ok (.iconst 1, 1) := by decide +kernel
theorem dX8_takesBefore_8 : decode cX8_takesBefore 8 = .ok (.iaload, 1) := by decide +kernel
theorem dX8_takesBefore_9 : decode cX8_takesBefore 9 = .ok (.aload_n 0, 1) := by decide +kernel
theorem dX8_takesBefore_10 : decode cX8_takesBefore 10 = .ok (.getfield 11, 3) := by decide +kernel
theorem dX8_takesBefore_13 : decode cX8_takesBefore 13 = .ok (.bipush 6, 2) := by decide +kernel
theorem dX8_takesBefore_15 : decode cX8_takesBefore 15 = .ok (.aaload, 1) := by decide +kernel
theorem dX8_takesBefore_16 : decode cX8_takesBefore 16 = .ok (.iconst 0, 1) := by decide +kernel
theorem dX8_takesBefore_17 : decode cX8_takesBefore 17 = .ok (.iaload, 1) := by decide +kernel
theorem dX8_takesBefore_18 : decode cX8_takesBefore 18 = .ok (.if_icmp .le 7, 3) := by decide +kernel
theorem dX8_takesBefore_21 : decode cX8_takesBefore 21 = .ok (.iconst 1, 1) := by decide +kernel
theorem dX8_takesBefore_22 : decode cX8_takesBefore 22 = .ok (.goto 4, 3) := by decide +kernel
theorem dX8_takesBefore_25 : decode cX8_takesBefore 25 = .ok (.iconst 0, 1) := by decide +kernel
theorem dX8_takesBefore_26 : decode cX8_takesBefore 26 = .ok (.istore_n 3, 1) := by decide +kernel
theorem dX8_takesBefore_27 : decode cX8_takesBefore 27 = .ok (.iconst 1, 1) := by decide +kernel
theorem dX8_takesBefore_28 : decode cX8_takesBefore 28 = .ok (.aload_n 0, 1) := by decide +kernel
theorem dX8_takesBefore_29 : decode cX8_takesBefore 29 = .ok (.iload_n 1, 1) := by decide +kernel
theorem dX8_takesBefore_30 : decode cX8_takesBefore 30 = .ok (.iload_n 2, 1) := by decide +kernel
theorem dX8_takesBefore_31 : decode cX8_takesBefore 31 = .ok (.iload_n 3, 1) := by decide +kernel
theorem dX8_takesBefore_32 : decode cX8_takesBefore 32 = .ok (.iconst 0, 1) := by decide +kernel
theorem dX8_takesBefore_33 : decode cX8_takesBefore 33 = .ok (.invokevirtual 169, 3) := by decide +kernel
theorem dX8_takesBefore_36 : decode cX8_takesBefore 36 = .ok (.iconst 2, 1) := by decide +kernel
theorem dX8_takesBefore_37 : decode cX8_takesBefore 37 = .ok (.idiv, 1) := by decide +kernel
theorem dX8_takesBefore_38 : decode cX8_takesBefore 38 = .ok (.invokestatic 216, 3) := by decide +kernel
theorem dX8_takesBefore_41 : decode cX8_takesBefore 41 = .ok (.ireturn, 1) := by decide +kernel
theorem dX8_goesThrough_0 : decode cX8_goesThrough 0 = .ok (.iconst 1, 1) := by decide +kernel
theorem dX8_goesThrough_1 : decode cX8_goesThrough 1 = .ok (.aload_n 0, 1) := by decide +kernel
theorem dX8_goesThrough_2 : decode cX8_goesThrough 2 = .ok (.getfield 11, 3) := by decide +kernel
theorem dX8_goesThrough_5 : decode cX8_goesThrough 5 = .ok (.iconst 4, 1) := by decide +kernel
theorem dX8_goesThrough_6 : decode cX8_goesThrough 6 = .ok (.aaload, 1) := by decide +kernel
theorem dX8_goesThrough_7 : decode cX8_goesThrough 7 = .ok (.iload_n 2, 1) := by decide +kernel
theorem dX8_goesThrough_8 : decode cX8_goesThrough 8 = .ok (.iaload, 1) := by decide +kernel
theorem dX8_goesThrough_9 : decode cX8_goesThrough 9 = .ok (.isub, 1) := by decide +kernel
theorem dX8_goesThrough_10 : decode cX8_goesThrough 10 = .ok (.istore_n 3, 1) := by decide +kernel
theorem dX8_goesThrough_11 : decode cX8_goesThrough 11 = .ok (.aload_n 0, 1) := by decide +kernel
theorem dX8_goesThrough_12 : decode cX8_goesThrough 12 = .ok (.getfield 11, 3) := by decide +kernel
theorem dX8_goesThrough_15 : decode cX8_goesThrough 15 = .ok (.bipush 7, 2) := by decide +kernel
theorem dX8_goesThrough_17 : decode cX8_goesThrough 17 = .ok (.aaload, 1) := by decide +kernel
theorem dX8_goesThrough_18 : decode cX8_goesThrough 18 = .ok (.iload_n 3, 1) := by decide +kernel
theorem dX8_goesThrough_19 : decode cX8_goesThrough 19 = .ok (.iaload, 1) := by decide +kernel
theorem dX8_goesThrough_20 : decode cX8_goesThrough 20 = .ok (.aload_n 0, 1) := by decide +kernel
theorem dX8_goesThrough_21 : decode cX8_goesThrough 21 = .ok (.getfield 11, 3) := by decide +kernel
theorem dX8_goesThrough_24 : decode cX8_goesThrough 24 = .ok (.iconst 5, 1) := by decide +kernel
theorem dX8_goesThrough_25 : decode cX8_goesThrough 25 = .ok (.aaload, 1) := by decide +kernel
theorem dX8_goesThrough_26 : decode cX8_goesThrough 26 = .ok (.iload_n 2, 1) := by decide +kernel
theorem dX8_goesThrough_27 : decode cX8_goesThrough 27 = .ok (.iaload, 1) := by decide +kernel
theorem dX8_goesThrough_28 : decode cX8_goesThrough 28 = .ok (.iconst 2, 1) := by decide +kernel
theorem dX8_goesThrough_29 : decode cX8_goesThrough 29 = .ok (.aload_n 0, 1) := by decide +kernel
theorem dX8_goesThrough_30 : decode cX8_goesThrough 30 = .ok (.getfield 11, 3) := by decide +kernel
theorem dX8_goesThrough_33 : decode cX8_goesThrough 33 = .ok (.iconst 1, 1) := by decide +kernel
theorem dX8_goesThrough_34 : decode cX8_goesThrough 34 = .ok (.aaload, 1) := by decide +kernel
theorem dX8_goesThrough_35 : decode cX8_goesThrough 35 = .ok (.iload_n 1, 1) := by decide +kernel
theorem dX8_goesThrough_36 : decode cX8_goesThrough 36 = .ok (.iaload, 1) := by decide +kernel
theorem dX8_goesThrough_37 : decode cX8_goesThrough 37 = .ok (.imul, 1) := by decide +kernel
theorem dX8_goesThrough_38 : decode cX8_goesThrough 38 = .ok (.iadd, 1) := by decide +kernel
theorem dX8_goesThrough_39 : decode cX8_goesThrough 39 = .ok (.if_icmp .gt 7, 3) := by decide +kernel
theorem dX8_goesThrough_42 : decode cX8_goesThrough 42 = .ok (.iconst 1, 1) := by decide +kernel
theorem dX8_goesThrough_43 : decode cX8_goesThrough 43 = .ok (.goto 4, 3) := by decide +kernel
theorem dX8_goesThrough_46 : decode cX8_goesThrough 46 = .ok (.iconst 0, 1) := by decide +kernel
theorem dX8_goesThrough_47 : decode cX8_goesThrough 47 = .ok (.ireturn, 1) := by decide +kernel
theorem dX8_takesAtBest_0 : decode cX8_takesAtBest 0 = .ok (.aload_n 0, 1) := by decide +kernel
theorem dX8_takesAtBest_1 : decode cX8_takesAtBest 1 = .ok (.iload_n 1, 1) := by decide +kernel
theorem dX8_takesAtBest_2 : decode cX8_takesAtBest 2 = .ok (.iload_n 2, 1) := by decide +kernel
theorem dX8_takesAtBest_3 : decode cX8_takesAtBest 3 = .ok (.invokevirtual 135, 3) := by decide +kernel
theorem dX8_takesAtBest_6 : decode cX8_takesAtBest 6 = .ok (.istore_n 3, 1) := by decide +kernel
theorem dX8_takesAtBest_7 : decode cX8_takesAtBest 7 = .ok (.aload_n 0, 1) := by decide +kernel
theorem dX8_takesAtBest_8 : decode cX8_takesAtBest 8 = .ok (.iload_n 1, 1) := by decide +kernel
theorem dX8_takesAtBest_9 : decode cX8_takesAtBest 9 = .ok (.iload_n 2, 1) := by decide +kernel
theorem dX8_takesAtBest_10 : decode cX8_takesAtBest 10 = .ok (.invokevirtual 142, 3) := by decide +kernel
theorem dX8_takesAtBest_13 : decode cX8_takesAtBest 13 = .ok (.ifCond .eq 16, 3) := by decide +kernel
theorem dX8_takesAtBest_16 : decode cX8_takesAtBest 16 = .ok (.iload_n 3, 1) := by decide +kernel
theorem dX8_takesAtBest_17 : decode cX8_takesAtBest 17 = .ok (.aload_n 0, 1) := by decide +kernel
theorem dX8_takesAtBest_18 : decode cX8_takesAtBest 18 = .ok (.iload_n 1, 1) := by decide +kernel
theorem dX8_takesAtBest_19 : decode cX8_takesAtBest 19 = .ok (.iload_n 2, 1) := by decide +kernel
theorem dX8_takesAtBest_20 : decode cX8_takesAtBest 20 = .ok (.invokevirtual 139, 3) := by decide +kernel
theorem dX8_takesAtBest_23 : decode cX8_takesAtBest 23 = .ok (.invokestatic 245, 3) := by decide +kernel
theorem dX8_takesAtBest_26 : decode cX8_takesAtBest 26 = .ok (.goto 4, 3) := by decide +kernel
theorem dX8_takesAtBest_29 : decode cX8_takesAtBest 29 = .ok (.iload_n 3, 1) := by decide +kernel
theorem dX8_takesAtBest_30 : decode cX8_takesAtBest 30 = .ok (.ireturn, 1) := by decide +kernel
theorem dX8_timesMore_0 : decode cX8_timesMore 0 = .ok (.iconst 0, 1) := by decide +kernel
theorem dX8_timesMore_1 : decode cX8_timesMore 1 = .ok (.istore 4, 2) := by decide +kernel
theorem dX8_timesMore_3 : decode cX8_timesMore 3 = .ok (.iload 4, 2) := by decide +kernel
theorem dX8_timesMore_5 : decode cX8_timesMore 5 = .ok (.bipush 99, 2) := by decide +kernel
theorem dX8_timesMore_7 : decode cX8_timesMore 7 = .ok (.if_icmp .gt 32, 3) := by decide +kernel
theorem dX8_timesMore_10 : decode cX8_timesMore 10 = .ok (.aload_n 0, 1) := by decide +kernel
theorem dX8_timesMore_11 : decode cX8_timesMore 11 = .ok (.iload_n 1, 1) := by decide +kernel
theorem dX8_timesMore_12 : decode cX8_timesMore 12 = .ok (.iload_n 2, 1) := by decide +kernel
theorem dX8_timesMore_13 : decode cX8_timesMore 13 = .ok (.aload_n 0, 1) := by decide +kernel
theorem dX8_timesMore_14 : decode cX8_timesMore 14 = .ok (.getfield 11, 3) := by decide +kernel
theorem dX8_timesMore_17 : decode cX8_timesMore 17 = .ok (.iconst 4, 1) := by decide +kernel
theorem dX8_timesMore_18 : decode cX8_timesMore 18 = .ok (.aaload, 1) := by decide +kernel
theorem dX8_timesMore_19 : decode cX8_timesMore 19 = .ok (.iload_n 2, 1) := by decide +kernel
theorem dX8_timesMore_20 : decode cX8_timesMore 20 = .ok (.iaload, 1) := by decide +kernel
theorem dX8_timesMore_21 : decode cX8_timesMore 21 = .ok (.iload 4, 2) := by decide +kernel
theorem dX8_timesMore_23 : decode cX8_timesMore 23 = .ok (.invokevirtual 169, 3) := by decide +kernel
theorem dX8_timesMore_26 : decode cX8_timesMore 26 = .ok (.iload_n 3, 1) := by decide +kernel
theorem dX8_timesMore_27 : decode cX8_timesMore 27 = .ok (.if_icmp .gt 6, 3) := by decide +kernel
theorem dX8_timesMore_30 : decode cX8_timesMore 30 = .ok (.iload 4, 2) := by decide +kernel
theorem dX8_timesMore_32 : decode cX8_timesMore 32 = .ok (.ireturn, 1) := by decide +kernel
theorem dX8_timesMore_33 : decode cX8_timesMore 33 = .ok (.iinc 4 1, 3) := by decide +kernel
theorem dX8_timesMore_36 : decode cX8_timesMore 36 = .ok (.goto (-33), 3) := by decide +kernel
theorem dX8_timesMore_39 : decode cX8_timesMore 39 = .ok (.bipush (-2), 2) := by decide +kernel
theorem dX8_timesMore_41 : decode cX8_timesMore 41 = .ok (.ireturn, 1) := by decide +kernel
theorem dX8_leastSkill_0 : decode cX8_leastSkill 0 = .ok (.aload_n 0, 1) := by decide +kernel
theorem dX8_leastSkill_1 : decode cX8_leastSkill 1 = .ok (.getfield 11, 3) := by decide +kernel
theorem dX8_leastSkill_4 : decode cX8_leastSkill 4 = .ok (.bipush 8, 2) := by decide +kernel
theorem dX8_leastSkill_6 : decode cX8_leastSkill 6 = .ok (.aaload, 1) := by decide +kernel
theorem dX8_leastSkill_7 : decode cX8_leastSkill 7 = .ok (.aload_n 0, 1) := by decide +kernel
theorem dX8_leastSkill_8 : decode cX8_leastSkill 8 = .ok (.getfield 11, 3) := by decide +kernel
theorem dX8_leastSkill_11 : decode cX8_leastSkill 11 = .ok (.iconst 4, 1) := by decide +kernel
theorem dX8_leastSkill_12 : decode cX8_leastSkill 12 = .ok (.aaload, 1) := by decide +kernel
theorem dX8_leastSkill_13 : decode cX8_leastSkill 13 = .ok (.iload_n 2, 1) := by decide +kernel
theorem dX8_leastSkill_14 : decode cX8_leastSkill 14 = .ok (.iaload, 1) := by decide +kernel
theorem dX8_leastSkill_15 : decode cX8_leastSkill 15 = .ok (.iaload, 1) := by decide +kernel
theorem dX8_leastSkill_16 : decode cX8_leastSkill 16 = .ok (.istore 4, 2) := by decide +kernel
theorem dX8_leastSkill_18 : decode cX8_leastSkill 18 = .ok (.getstatic 340, 3) := by decide +kernel
theorem dX8_leastSkill_21 : decode cX8_leastSkill 21 = .ok (.bipush 6, 2) := by decide +kernel
theorem dX8_leastSkill_23 : decode cX8_leastSkill 23 = .ok (.iaload, 1) := by decide +kernel
theorem dX8_leastSkill_24 : decode cX8_leastSkill 24 = .ok (.istore 5, 2) := by decide +kernel
theorem dX8_leastSkill_26 : decode cX8_leastSkill 26 = .ok (.iload 5, 2) := by decide +kernel
theorem dX8_leastSkill_28 : decode cX8_leastSkill 28 = .ok (.getstatic 343, 3) := by decide +kernel
theorem dX8_leastSkill_31 : decode cX8_leastSkill 31 = .ok (.bipush 6, 2) := by decide +kernel
theorem dX8_leastSkill_33 : decode cX8_leastSkill 33 = .ok (.iaload, 1) := by decide +kernel
theorem dX8_leastSkill_34 : decode cX8_leastSkill 34 = .ok (.if_icmp .gt 26, 3) := by decide +kernel
theorem dX8_leastSkill_37 : decode cX8_leastSkill 37 = .ok (.aload_n 0, 1) := by decide +kernel
theorem dX8_leastSkill_38 : decode cX8_leastSkill 38 = .ok (.iload_n 1, 1) := by decide +kernel
theorem dX8_leastSkill_39 : decode cX8_leastSkill 39 = .ok (.iload_n 2, 1) := by decide +kernel
theorem dX8_leastSkill_40 : decode cX8_leastSkill 40 = .ok (.iload 5, 2) := by decide +kernel
theorem dX8_leastSkill_42 : decode cX8_leastSkill 42 = .ok (.iload 4, 2) := by decide +kernel
theorem dX8_leastSkill_44 : decode cX8_leastSkill 44 = .ok (.invokevirtual 210, 3) := by decide +kernel
theorem dX8_leastSkill_47 : decode cX8_leastSkill 47 = .ok (.iload_n 3, 1) := by decide +kernel
theorem dX8_leastSkill_48 : decode cX8_leastSkill 48 = .ok (.if_icmp .gt 6, 3) := by decide +kernel
theorem dX8_leastSkill_51 : decode cX8_leastSkill 51 = .ok (.iload 5, 2) := by decide +kernel
theorem dX8_leastSkill_53 : decode cX8_leastSkill 53 = .ok (.ireturn, 1) := by decide +kernel
theorem dX8_leastSkill_54 : decode cX8_leastSkill 54 = .ok (.iinc 5 1, 3) := by decide +kernel
theorem dX8_leastSkill_57 : decode cX8_leastSkill 57 = .ok (.goto (-31), 3) := by decide +kernel
theorem dX8_leastSkill_60 : decode cX8_leastSkill 60 = .ok (.bipush (-2), 2) := by decide +kernel
theorem dX8_leastSkill_62 : decode cX8_leastSkill 62 = .ok (.ireturn, 1) := by decide +kernel
theorem dX8_takesAlone_0 : decode cX8_takesAlone 0 = .ok (.iconst 0, 1) := by decide +kernel
theorem dX8_takesAlone_1 : decode cX8_takesAlone 1 = .ok (.istore_n 2, 1) := by decide +kernel
theorem dX8_takesAlone_2 : decode cX8_takesAlone 2 = .ok (.iconst 0, 1) := by decide +kernel
theorem dX8_takesAlone_3 : decode cX8_takesAlone 3 = .ok (.istore_n 3, 1) := by decide +kernel
theorem dX8_takesAlone_4 : decode cX8_takesAlone 4 = .ok (.iload_n 3, 1) := by decide +kernel
theorem dX8_takesAlone_5 : decode cX8_takesAlone 5 = .ok (.iconst 2, 1) := by decide +kernel
theorem dX8_takesAlone_6 : decode cX8_takesAlone 6 = .ok (.if_icmp .ge 41, 3) := by decide +kernel
theorem dX8_takesAlone_9 : decode cX8_takesAlone 9 = .ok (.iload_n 2, 1) := by decide +kernel
theorem dX8_takesAlone_10 : decode cX8_takesAlone 10 = .ok (.aload_n 0, 1) := by decide +kernel
theorem dX8_takesAlone_11 : decode cX8_takesAlone 11 = .ok (.iload_n 3, 1) := by decide +kernel
theorem dX8_takesAlone_12 : decode cX8_takesAlone 12 = .ok (.iload_n 3, 1) := by decide +kernel
theorem dX8_takesAlone_13 : decode cX8_takesAlone 13 = .ok (.aload_n 0, 1) := by decide +kernel
theorem dX8_takesAlone_14 : decode cX8_takesAlone 14 = .ok (.getfield 11, 3) := by decide +kernel
theorem dX8_takesAlone_17 : decode cX8_takesAlone 17 = .ok (.iconst 4, 1) := by decide +kernel
theorem dX8_takesAlone_18 : decode cX8_takesAlone 18 = .ok (.aaload, 1) := by decide +kernel
theorem dX8_takesAlone_19 : decode cX8_takesAlone 19 = .ok (.iload_n 3, 1) := by decide +kernel
theorem dX8_takesAlone_20 : decode cX8_takesAlone 20 = .ok (.iaload, 1) := by decide +kernel
theorem dX8_takesAlone_21 : decode cX8_takesAlone 21 = .ok (.ifCond .ne 10, 3) := by decide +kernel
theorem dX8_takesAlone_24 : decode cX8_takesAlone 24 = .ok (.iload_n 1, 1) := by decide +kernel
theorem dX8_takesAlone_25 : decode cX8_takesAlone 25 = .ok (.bipush 10, 2) := by decide +kernel
theorem dX8_takesAlone_27 : decode cX8_takesAlone 27 = .ok (.idiv, 1) := by decide +kernel
theorem dX8_takesAlone_28 : decode cX8_takesAlone 28 = .ok (.goto 7, 3) := by decide +kernel
theorem dX8_takesAlone_31 : decode cX8_takesAlone 31 = .ok (.iload_n 1, 1) := by decide +kernel
theorem dX8_takesAlone_32 : decode cX8_takesAlone 32 = .ok (.bipush 10, 2) := by decide +kernel
theorem dX8_takesAlone_34 : decode cX8_takesAlone 34 = .ok (.irem, 1) := by decide +kernel
theorem dX8_takesAlone_35 : decode cX8_takesAlone 35 = .ok (.iconst 0, 1) := by decide +kernel
theorem dX8_takesAlone_36 : decode cX8_takesAlone 36 = .ok (.invokevirtual 210, 3) := by decide +kernel
theorem dX8_takesAlone_39 : decode cX8_takesAlone 39 = .ok (.iadd, 1) := by decide +kernel
theorem dX8_takesAlone_40 : decode cX8_takesAlone 40 = .ok (.istore_n 2, 1) := by decide +kernel
theorem dX8_takesAlone_41 : decode cX8_takesAlone 41 = .ok (.iinc 3 1, 3) := by decide +kernel
theorem dX8_takesAlone_44 : decode cX8_takesAlone 44 = .ok (.goto (-40), 3) := by decide +kernel
theorem dX8_takesAlone_47 : decode cX8_takesAlone 47 = .ok (.iload_n 2, 1) := by decide +kernel
theorem dX8_takesAlone_48 : decode cX8_takesAlone 48 = .ok (.ireturn, 1) := by decide +kernel
theorem dX8_takesHelping_0 : decode cX8_takesHelping 0 = .ok (.iload_n 1, 1) := by decide +kernel
theorem dX8_takesHelping_1 : decode cX8_takesHelping 1 = .ok (.bipush 10, 2) := by decide +kernel
theorem dX8_takesHelping_3 : decode cX8_takesHelping 3 = .ok (.idiv, 1) := by decide +kernel
theorem dX8_takesHelping_4 : decode cX8_takesHelping 4 = .ok (.iload_n 1, 1) := by decide +kernel
theorem dX8_takesHelping_5 : decode cX8_takesHelping 5 = .ok (.bipush 10, 2) := by decide +kernel
theorem dX8_takesHelping_7 : decode cX8_takesHelping 7 = .ok (.irem, 1) := by decide +kernel
theorem dX8_takesHelping_8 : decode cX8_takesHelping 8 = .ok (.invokestatic 216, 3) := by decide +kernel
theorem dX8_takesHelping_11 : decode cX8_takesHelping 11 = .ok (.istore_n 2, 1) := by decide +kernel
theorem dX8_takesHelping_12 : decode cX8_takesHelping 12 = .ok (.aload_n 0, 1) := by decide +kernel
theorem dX8_takesHelping_13 : decode cX8_takesHelping 13 = .ok (.iconst 0, 1) := by decide +kernel
theorem dX8_takesHelping_14 : decode cX8_takesHelping 14 = .ok (.iconst 0, 1) := by decide +kernel
theorem dX8_takesHelping_15 : decode cX8_takesHelping 15 = .ok (.iload_n 2, 1) := by decide +kernel
theorem dX8_takesHelping_16 : decode cX8_takesHelping 16 = .ok (.iconst 0, 1) := by decide +kernel
theorem dX8_takesHelping_17 : decode cX8_takesHelping 17 = .ok (.invokevirtual 210, 3) := by decide +kernel
theorem dX8_takesHelping_20 : decode cX8_takesHelping 20 = .ok (.aload_n 0, 1) := by decide +kernel
theorem dX8_takesHelping_21 : decode cX8_takesHelping 21 = .ok (.iconst 1, 1) := by decide +kernel
theorem dX8_takesHelping_22 : decode cX8_takesHelping 22 = .ok (.iconst 1, 1) := by decide +kernel
theorem dX8_takesHelping_23 : decode cX8_takesHelping 23 = .ok (.iload_n 2, 1) := by decide +kernel
theorem dX8_takesHelping_24 : decode cX8_takesHelping 24 = .ok (.iconst 0, 1) := by decide +kernel
theorem dX8_takesHelping_25 : decode cX8_takesHelping 25 = .ok (.invokevirtual 210, 3) := by decide +kernel
theorem dX8_takesHelping_28 : decode cX8_takesHelping 28 = .ok (.iadd, 1) := by decide +kernel
theorem dX8_takesHelping_29 : decode cX8_takesHelping 29 = .ok (.ireturn, 1) := by decide +kernel
theorem dX8_firstNotSo_0 : decode cX8_firstNotSo 0 = .ok (.aload_n 0, 1) := by decide +kernel
theorem dX8_firstNotSo_1 : decode cX8_firstNotSo 1 = .ok (.getfield 11, 3) := by decide +kernel
theorem dX8_firstNotSo_4 : decode cX8_firstNotSo 4 = .ok (.bipush 6, 2) := by decide +kernel
theorem dX8_firstNotSo_6 : decode cX8_firstNotSo 6 = .ok (.aaload, 1) := by decide +kernel
theorem dX8_firstNotSo_7 : decode cX8_firstNotSo 7 = .ok (.iload 5, 2) := by decide +kernel
theorem dX8_firstNotSo_9 : decode cX8_firstNotSo 9 = .ok (.iaload, 1) := by decide +kernel
theorem dX8_firstNotSo_10 : decode cX8_firstNotSo 10 = .ok (.istore 6, 2) := by decide +kernel
theorem dX8_firstNotSo_12 : decode cX8_firstNotSo 12 = .ok (.aload_n 0, 1) := by decide +kernel
theorem dX8_firstNotSo_13 : decode cX8_firstNotSo 13 = .ok (.getfield 11, 3) := by decide +kernel
theorem dX8_firstNotSo_16 : decode cX8_firstNotSo 16 = .ok (.bipush 8, 2) := by decide +kernel
theorem dX8_firstNotSo_18 : decode cX8_firstNotSo 18 = .ok (.aaload, 1) := by decide +kernel
theorem dX8_firstNotSo_19 : decode cX8_firstNotSo 19 = .ok (.iload 5, 2) := by decide +kernel
theorem dX8_firstNotSo_21 : decode cX8_firstNotSo 21 = .ok (.iaload, 1) := by decide +kernel
theorem dX8_firstNotSo_22 : decode cX8_firstNotSo 22 = .ok (.istore 7, 2) := by decide +kernel
theorem dX8_firstNotSo_24 : decode cX8_firstNotSo 24 = .ok (.iconst 0, 1) := by decide +kernel
theorem dX8_firstNotSo_25 : decode cX8_firstNotSo 25 = .ok (.istore 8, 2) := by decide +kernel
theorem dX8_firstNotSo_27 : decode cX8_firstNotSo 27 = .ok (.iload 8, 2) := by decide +kernel
theorem dX8_firstNotSo_29 : decode cX8_firstNotSo 29 = .ok (.aload_n 1, 1) := by decide +kernel
theorem dX8_firstNotSo_30 : decode cX8_firstNotSo 30 = .ok (.getfield 363, 3) := by decide +kernel
theorem dX8_firstNotSo_33 : decode cX8_firstNotSo 33 = .ok (.if_icmp .ge 39, 3) := by decide +kernel
theorem dX8_firstNotSo_36 : decode cX8_firstNotSo 36 = .ok (.aload_n 1, 1) := by decide +kernel
theorem dX8_firstNotSo_37 : decode cX8_firstNotSo 37 = .ok (.getfield 320, 3) := by decide +kernel
theorem dX8_firstNotSo_40 : decode cX8_firstNotSo 40 = .ok (.iload 8, 2) := by decide +kernel
theorem dX8_firstNotSo_42 : decode cX8_firstNotSo 42 = .ok (.laload, 1) := by decide +kernel
theorem dX8_firstNotSo_43 : decode cX8_firstNotSo 43 = .ok (.aload_n 0, 1) := by decide +kernel
theorem dX8_firstNotSo_44 : decode cX8_firstNotSo 44 = .ok (.iload_n 2, 1) := by decide +kernel
theorem dX8_firstNotSo_45 : decode cX8_firstNotSo 45 = .ok (.iload_n 3, 1) := by decide +kernel
theorem dX8_firstNotSo_46 : decode cX8_firstNotSo 46 = .ok (.iload 4, 2) := by decide +kernel
theorem dX8_firstNotSo_48 : decode cX8_firstNotSo 48 = .ok (.iload 6, 2) := by decide +kernel
theorem dX8_firstNotSo_50 : decode cX8_firstNotSo 50 = .ok (.iload 7, 2) := by decide +kernel
theorem dX8_firstNotSo_52 : decode cX8_firstNotSo 52 = .ok (.iload 8, 2) := by decide +kernel
theorem dX8_firstNotSo_54 : decode cX8_firstNotSo 54 = .ok (.iadd, 1) := by decide +kernel
theorem dX8_firstNotSo_55 : decode cX8_firstNotSo 55 = .ok (.invokevirtual 359, 3) := by decide +kernel
theorem dX8_firstNotSo_58 : decode cX8_firstNotSo 58 = .ok (.i2l, 1) := by decide +kernel
theorem dX8_firstNotSo_59 : decode cX8_firstNotSo 59 = .ok (.lcmp, 1) := by decide +kernel
theorem dX8_firstNotSo_60 : decode cX8_firstNotSo 60 = .ok (.ifCond .eq 6, 3) := by decide +kernel
theorem dX8_firstNotSo_63 : decode cX8_firstNotSo 63 = .ok (.iload 8, 2) := by decide +kernel
theorem dX8_firstNotSo_65 : decode cX8_firstNotSo 65 = .ok (.ireturn, 1) := by decide +kernel
theorem dX8_firstNotSo_66 : decode cX8_firstNotSo 66 = .ok (.iinc 8 1, 3) := by decide +kernel
theorem dX8_firstNotSo_69 : decode cX8_firstNotSo 69 = .ok (.goto (-42), 3) := by decide +kernel
theorem dX8_firstNotSo_72 : decode cX8_firstNotSo 72 = .ok (.bipush (-2), 2) := by decide +kernel
theorem dX8_firstNotSo_74 : decode cX8_firstNotSo 74 = .ok (.ireturn, 1) := by decide +kernel
theorem dX8_leastStarch_0 : decode cX8_leastStarch 0 = .ok (.getstatic 340, 3) := by decide +kernel
theorem dX8_leastStarch_3 : decode cX8_leastStarch 3 = .ok (.iconst 2, 1) := by decide +kernel
theorem dX8_leastStarch_4 : decode cX8_leastStarch 4 = .ok (.iaload, 1) := by decide +kernel
theorem dX8_leastStarch_5 : decode cX8_leastStarch 5 = .ok (.istore 4, 2) := by decide +kernel
theorem dX8_leastStarch_7 : decode cX8_leastStarch 7 = .ok (.iload 4, 2) := by decide +kernel
theorem dX8_leastStarch_9 : decode cX8_leastStarch 9 = .ok (.getstatic 343, 3) := by decide +kernel
theorem dX8_leastStarch_12 : decode cX8_leastStarch 12 = .ok (.iconst 2, 1) := by decide +kernel
theorem dX8_leastStarch_13 : decode cX8_leastStarch 13 = .ok (.iaload, 1) := by decide +kernel
theorem dX8_leastStarch_14 : decode cX8_leastStarch 14 = .ok (.if_icmp .gt 34, 3) := by decide +kernel
theorem dX8_leastStarch_17 : decode cX8_leastStarch 17 = .ok (.aload_n 0, 1) := by decide +kernel
theorem dX8_leastStarch_18 : decode cX8_leastStarch 18 = .ok (.aload_n 1, 1) := by decide +kernel
theorem dX8_leastStarch_19 : decode cX8_leastStarch 19 = .ok (.iload_n 2, 1) := by decide +kernel
theorem dX8_leastStarch_20 : decode cX8_leastStarch 20 = .ok (.iload_n 3, 1) := by decide +kernel
theorem dX8_leastStarch_21 : decode cX8_leastStarch 21 = .ok (.iload 4, 2) := by decide +kernel
theorem dX8_leastStarch_23 : decode cX8_leastStarch 23 = .ok (.aload_n 0, 1) := by decide +kernel
theorem dX8_leastStarch_24 : decode cX8_leastStarch 24 = .ok (.getfield 11, 3) := by decide +kernel
theorem dX8_leastStarch_27 : decode cX8_leastStarch 27 = .ok (.iconst 4, 1) := by decide +kernel
theorem dX8_leastStarch_28 : decode cX8_leastStarch 28 = .ok (.aaload, 1) := by decide +kernel
theorem dX8_leastStarch_29 : decode cX8_leastStarch 29 = .ok (.iload_n 3, 1) := by decide +kernel
theorem dX8_leastStarch_30 : decode cX8_leastStarch 30 = .ok (.iaload, 1) := by decide +kernel
theorem dX8_leastStarch_31 : decode cX8_leastStarch 31 = .ok (.invokevirtual 227, 3) := by decide +kernel
theorem dX8_leastStarch_34 : decode cX8_leastStarch 34 = .ok (.bipush (-2), 2) := by decide +kernel
theorem dX8_leastStarch_36 : decode cX8_leastStarch 36 = .ok (.if_icmp .ne 6, 3) := by decide +kernel
theorem dX8_leastStarch_39 : decode cX8_leastStarch 39 = .ok (.iload 4, 2) := by decide +kernel
theorem dX8_leastStarch_41 : decode cX8_leastStarch 41 = .ok (.ireturn, 1) := by decide +kernel
theorem dX8_leastStarch_42 : decode cX8_leastStarch 42 = .ok (.iinc 4 1, 3) := by decide +kernel
theorem dX8_leastStarch_45 : decode cX8_leastStarch 45 = .ok (.goto (-38), 3) := by decide +kernel
theorem dX8_leastStarch_48 : decode cX8_leastStarch 48 = .ok (.bipush (-2), 2) := by decide +kernel
theorem dX8_leastStarch_50 : decode cX8_leastStarch 50 = .ok (.ireturn, 1) := by decide +kernel
theorem dX8_handsOf_0 : decode cX8_handsOf 0 = .ok (.iconst 0, 1) := by decide +kernel
theorem dX8_handsOf_1 : decode cX8_handsOf 1 = .ok (.istore 4, 2) := by decide +kernel
theorem dX8_handsOf_3 : decode cX8_handsOf 3 = .ok (.iconst 0, 1) := by decide +kernel
theorem dX8_handsOf_4 : decode cX8_handsOf 4 = .ok (.istore 5, 2) := by decide +kernel
theorem dX8_handsOf_6 : decode cX8_handsOf 6 = .ok (.iload 5, 2) := by decide +kernel
theorem dX8_handsOf_8 : decode cX8_handsOf 8 = .ok (.iconst 2, 1) := by decide +kernel
theorem dX8_handsOf_9 : decode cX8_handsOf 9 = .ok (.if_icmp .ge 40, 3) := by decide +kernel
theorem dX8_handsOf_12 : decode cX8_handsOf 12 = .ok (.aload_n 0, 1) := by decide +kernel
theorem dX8_handsOf_13 : decode cX8_handsOf 13 = .ok (.aload_n 1, 1) := by decide +kernel
theorem dX8_handsOf_14 : decode cX8_handsOf 14 = .ok (.iload_n 2, 1) := by decide +kernel
theorem dX8_handsOf_15 : decode cX8_handsOf 15 = .ok (.iload_n 3, 1) := by decide +kernel
theorem dX8_handsOf_16 : decode cX8_handsOf 16 = .ok (.aload_n 0, 1) := by decide +kernel
theorem dX8_handsOf_17 : decode cX8_handsOf 17 = .ok (.getfield 11, 3) := by decide +kernel
theorem dX8_handsOf_20 : decode cX8_handsOf 20 = .ok (.iconst 2, 1) := by decide +kernel
theorem dX8_handsOf_21 : decode cX8_handsOf 21 = .ok (.aaload, 1) := by decide +kernel
theorem dX8_handsOf_22 : decode cX8_handsOf 22 = .ok (.iload_n 3, 1) := by decide +kernel
theorem dX8_handsOf_23 : decode cX8_handsOf 23 = .ok (.iaload, 1) := by decide +kernel
theorem dX8_handsOf_24 : decode cX8_handsOf 24 = .ok (.iload 5, 2) := by decide +kernel
theorem dX8_handsOf_26 : decode cX8_handsOf 26 = .ok (.invokevirtual 227, 3) := by decide +kernel
theorem dX8_handsOf_29 : decode cX8_handsOf 29 = .ok (.bipush (-2), 2) := by decide +kernel
theorem dX8_handsOf_31 : decode cX8_handsOf 31 = .ok (.if_icmp .ne 12, 3) := by decide +kernel
theorem dX8_handsOf_34 : decode cX8_handsOf 34 = .ok (.iload 4, 2) := by decide +kernel
theorem dX8_handsOf_36 : decode cX8_handsOf 36 = .ok (.iconst 1, 1) := by decide +kernel
theorem dX8_handsOf_37 : decode cX8_handsOf 37 = .ok (.iload 5, 2) := by decide +kernel
theorem dX8_handsOf_39 : decode cX8_handsOf 39 = .ok (.ishl, 1) := by decide +kernel
theorem dX8_handsOf_40 : decode cX8_handsOf 40 = .ok (.ior, 1) := by decide +kernel
theorem dX8_handsOf_41 : decode cX8_handsOf 41 = .ok (.istore 4, 2) := by decide +kernel
theorem dX8_handsOf_43 : decode cX8_handsOf 43 = .ok (.iinc 5 1, 3) := by decide +kernel
theorem dX8_handsOf_46 : decode cX8_handsOf 46 = .ok (.goto (-40), 3) := by decide +kernel
theorem dX8_handsOf_49 : decode cX8_handsOf 49 = .ok (.iload 4, 2) := by decide +kernel
theorem dX8_handsOf_51 : decode cX8_handsOf 51 = .ok (.ireturn, 1) := by decide +kernel
theorem dX8_isSooner_0 : decode cX8_isSooner 0 = .ok (.aload_n 0, 1) := by decide +kernel
theorem dX8_isSooner_1 : decode cX8_isSooner 1 = .ok (.getfield 11, 3) := by decide +kernel
theorem dX8_isSooner_4 : decode cX8_isSooner 4 = .ok (.bipush 12, 2) := by decide +kernel
theorem dX8_isSooner_6 : decode cX8_isSooner 6 = .ok (.aaload, 1) := by decide +kernel
theorem dX8_isSooner_7 : decode cX8_isSooner 7 = .ok (.iload_n 1, 1) := by decide +kernel
theorem dX8_isSooner_8 : decode cX8_isSooner 8 = .ok (.iaload, 1) := by decide +kernel
theorem dX8_isSooner_9 : decode cX8_isSooner 9 = .ok (.aload_n 0, 1) := by decide +kernel
theorem dX8_isSooner_10 : decode cX8_isSooner 10 = .ok (.getfield 11, 3) := by decide +kernel
theorem dX8_isSooner_13 : decode cX8_isSooner 13 = .ok (.bipush 11, 2) := by decide +kernel
theorem dX8_isSooner_15 : decode cX8_isSooner 15 = .ok (.aaload, 1) := by decide +kernel
theorem dX8_isSooner_16 : decode cX8_isSooner 16 = .ok (.iload_n 2, 1) := by decide +kernel
theorem dX8_isSooner_17 : decode cX8_isSooner 17 = .ok (.iaload, 1) := by decide +kernel
theorem dX8_isSooner_18 : decode cX8_isSooner 18 = .ok (.imul, 1) := by decide +kernel
theorem dX8_isSooner_19 : decode cX8_isSooner 19 = .ok (.aload_n 0, 1) := by decide +kernel
theorem dX8_isSooner_20 : decode cX8_isSooner 20 = .ok (.getfield 11, 3) := by decide +kernel
theorem dX8_isSooner_23 : decode cX8_isSooner 23 = .ok (.bipush 12, 2) := by decide +kernel
theorem dX8_isSooner_25 : decode cX8_isSooner 25 = .ok (.aaload, 1) := by decide +kernel
theorem dX8_isSooner_26 : decode cX8_isSooner 26 = .ok (.iload_n 2, 1) := by decide +kernel
theorem dX8_isSooner_27 : decode cX8_isSooner 27 = .ok (.iaload, 1) := by decide +kernel
theorem dX8_isSooner_28 : decode cX8_isSooner 28 = .ok (.aload_n 0, 1) := by decide +kernel
theorem dX8_isSooner_29 : decode cX8_isSooner 29 = .ok (.getfield 11, 3) := by decide +kernel
theorem dX8_isSooner_32 : decode cX8_isSooner 32 = .ok (.bipush 11, 2) := by decide +kernel
theorem dX8_isSooner_34 : decode cX8_isSooner 34 = .ok (.aaload, 1) := by decide +kernel
theorem dX8_isSooner_35 : decode cX8_isSooner 35 = .ok (.iload_n 1, 1) := by decide +kernel
theorem dX8_isSooner_36 : decode cX8_isSooner 36 = .ok (.iaload, 1) := by decide +kernel
theorem dX8_isSooner_37 : decode cX8_isSooner 37 = .ok (.imul, 1) := by decide +kernel
theorem dX8_isSooner_38 : decode cX8_isSooner 38 = .ok (.if_icmp .ge 7, 3) := by decide +kernel
theorem dX8_isSooner_41 : decode cX8_isSooner 41 = .ok (.iconst 1, 1) := by decide +kernel
theorem dX8_isSooner_42 : decode cX8_isSooner 42 = .ok (.goto 4, 3) := by decide +kernel
theorem dX8_isSooner_45 : decode cX8_isSooner 45 = .ok (.iconst 0, 1) := by decide +kernel
theorem dX8_isSooner_46 : decode cX8_isSooner 46 = .ok (.ireturn, 1) := by decide +kernel
theorem dX8_sortSpots_0 : decode cX8_sortSpots 0 = .ok (.iconst 0, 1) := by decide +kernel
theorem dX8_sortSpots_1 : decode cX8_sortSpots 1 = .ok (.istore_n 1, 1) := by decide +kernel
theorem dX8_sortSpots_2 : decode cX8_sortSpots 2 = .ok (.iload_n 1, 1) := by decide +kernel
theorem dX8_sortSpots_3 : decode cX8_sortSpots 3 = .ok (.aload_n 0, 1) := by decide +kernel
theorem dX8_sortSpots_4 : decode cX8_sortSpots 4 = .ok (.getfield 106, 3) := by decide +kernel
theorem dX8_sortSpots_7 : decode cX8_sortSpots 7 = .ok (.if_icmp .ge 58, 3) := by decide +kernel
theorem dX8_sortSpots_10 : decode cX8_sortSpots 10 = .ok (.iload_n 1, 1) := by decide +kernel
theorem dX8_sortSpots_11 : decode cX8_sortSpots 11 = .ok (.istore_n 2, 1) := by decide +kernel
theorem dX8_sortSpots_12 : decode cX8_sortSpots 12 = .ok (.iload_n 2, 1) := by decide +kernel
theorem dX8_sortSpots_13 : decode cX8_sortSpots 13 = .ok (.ifCond .le 39, 3) := by decide +kernel
theorem dX8_sortSpots_16 : decode cX8_sortSpots 16 = .ok (.aload_n 0, 1) := by decide +kernel
theorem dX8_sortSpots_17 : decode cX8_sortSpots 17 = .ok (.iload_n 1, 1) := by decide +kernel
theorem dX8_sortSpots_18 : decode cX8_sortSpots 18 = .ok (.aload_n 0, 1) := by decide +kernel
theorem dX8_sortSpots_19 : decode cX8_sortSpots 19 = .ok (.getfield 62, 3) := by decide +kernel
theorem dX8_sortSpots_22 : decode cX8_sortSpots 22 = .ok (.iload_n 2, 1) := by decide +kernel
theorem dX8_sortSpots_23 : decode cX8_sortSpots 23 = .ok (.iconst 1, 1) := by decide +kernel
theorem dX8_sortSpots_24 : decode cX8_sortSpots 24 = .ok (.isub, 1) := by decide +kernel
theorem dX8_sortSpots_25 : decode cX8_sortSpots 25 = .ok (.iaload, 1) := by decide +kernel
theorem dX8_sortSpots_26 : decode cX8_sortSpots 26 = .ok (.invokevirtual 366, 3) := by decide +kernel
theorem dX8_sortSpots_29 : decode cX8_sortSpots 29 = .ok (.ifCond .eq 23, 3) := by decide +kernel
theorem dX8_sortSpots_32 : decode cX8_sortSpots 32 = .ok (.aload_n 0, 1) := by decide +kernel
theorem dX8_sortSpots_33 : decode cX8_sortSpots 33 = .ok (.getfield 62, 3) := by decide +kernel
theorem dX8_sortSpots_36 : decode cX8_sortSpots 36 = .ok (.iload_n 2, 1) := by decide +kernel
theorem dX8_sortSpots_37 : decode cX8_sortSpots 37 = .ok (.aload_n 0, 1) := by decide +kernel
theorem dX8_sortSpots_38 : decode cX8_sortSpots 38 = .ok (.getfield 62, 3) := by decide +kernel
theorem dX8_sortSpots_41 : decode cX8_sortSpots 41 = .ok (.iload_n 2, 1) := by decide +kernel
theorem dX8_sortSpots_42 : decode cX8_sortSpots 42 = .ok (.iconst 1, 1) := by decide +kernel
theorem dX8_sortSpots_43 : decode cX8_sortSpots 43 = .ok (.isub, 1) := by decide +kernel
theorem dX8_sortSpots_44 : decode cX8_sortSpots 44 = .ok (.iaload, 1) := by decide +kernel
theorem dX8_sortSpots_45 : decode cX8_sortSpots 45 = .ok (.iastore, 1) := by decide +kernel
theorem dX8_sortSpots_46 : decode cX8_sortSpots 46 = .ok (.iinc 2 (-1), 3) := by decide +kernel
theorem dX8_sortSpots_49 : decode cX8_sortSpots 49 = .ok (.goto (-37), 3) := by decide +kernel
theorem dX8_sortSpots_52 : decode cX8_sortSpots 52 = .ok (.aload_n 0, 1) := by decide +kernel
theorem dX8_sortSpots_53 : decode cX8_sortSpots 53 = .ok (.getfield 62, 3) := by decide +kernel
theorem dX8_sortSpots_56 : decode cX8_sortSpots 56 = .ok (.iload_n 2, 1) := by decide +kernel
theorem dX8_sortSpots_57 : decode cX8_sortSpots 57 = .ok (.iload_n 1, 1) := by decide +kernel
theorem dX8_sortSpots_58 : decode cX8_sortSpots 58 = .ok (.iastore, 1) := by decide +kernel
theorem dX8_sortSpots_59 : decode cX8_sortSpots 59 = .ok (.iinc 1 1, 3) := by decide +kernel
theorem dX8_sortSpots_62 : decode cX8_sortSpots 62 = .ok (.goto (-60), 3) := by decide +kernel
theorem dX8_sortSpots_65 : decode cX8_sortSpots 65 = .ok (.return_, 1) := by decide +kernel
theorem dX8_spotsFrom_0 : decode cX8_spotsFrom 0 = .ok (.iconst 0, 1) := by decide +kernel
theorem dX8_spotsFrom_1 : decode cX8_spotsFrom 1 = .ok (.istore_n 2, 1) := by decide +kernel
theorem dX8_spotsFrom_2 : decode cX8_spotsFrom 2 = .ok (.iconst 0, 1) := by decide +kernel
theorem dX8_spotsFrom_3 : decode cX8_spotsFrom 3 = .ok (.istore_n 3, 1) := by decide +kernel
theorem dX8_spotsFrom_4 : decode cX8_spotsFrom 4 = .ok (.iconst 0, 1) := by decide +kernel
theorem dX8_spotsFrom_5 : decode cX8_spotsFrom 5 = .ok (.istore 4, 2) := by decide +kernel
theorem dX8_spotsFrom_7 : decode cX8_spotsFrom 7 = .ok (.iload 4, 2) := by decide +kernel
theorem dX8_spotsFrom_9 : decode cX8_spotsFrom 9 = .ok (.aload_n 1, 1) := by decide +kernel
theorem dX8_spotsFrom_10 : decode cX8_spotsFrom 10 = .ok (.getfield 363, 3) := by decide +kernel
theorem dX8_spotsFrom_13 : decode cX8_spotsFrom 13 = .ok (.if_icmp .ge 68, 3) := by decide +kernel
theorem dX8_spotsFrom_16 : decode cX8_spotsFrom 16 = .ok (.iload_n 2, 1) := by decide +kernel
theorem dX8_spotsFrom_17 : decode cX8_spotsFrom 17 = .ok (.bipush 8, 2) := by decide +kernel
theorem dX8_spotsFrom_19 : decode cX8_spotsFrom 19 = .ok (.if_icmp .ge 62, 3) := by decide +kernel
theorem dX8_spotsFrom_22 : decode cX8_spotsFrom 22 = .ok (.aload_n 1, 1) := by decide +kernel
theorem dX8_spotsFrom_23 : decode cX8_spotsFrom 23 = .ok (.getfield 320, 3) := by decide +kernel
theorem dX8_spotsFrom_26 : decode cX8_spotsFrom 26 = .ok (.iload 4, 2) := by decide +kernel
theorem dX8_spotsFrom_28 : decode cX8_spotsFrom 28 = .ok (.laload, 1) := by decide +kernel
theorem dX8_spotsFrom_29 : decode cX8_spotsFrom 29 = .ok (.l2i, 1) := by decide +kernel
theorem dX8_spotsFrom_30 : decode cX8_spotsFrom 30 = .ok (.istore 5, 2) := by decide +kernel
theorem dX8_spotsFrom_32 : decode cX8_spotsFrom 32 = .ok (.iload 5, 2) := by decide +kernel
theorem dX8_spotsFrom_34 : decode cX8_spotsFrom 34 = .ok (.ifCond .lt 21, 3) := by decide +kernel
theorem dX8_spotsFrom_37 : decode cX8_spotsFrom 37 = .ok (.iload 5, 2) := by decide +kernel
theorem dX8_spotsFrom_39 : decode cX8_spotsFrom 39 = .ok (.aload_n 0, 1) := by decide +kernel
theorem dX8_spotsFrom_40 : decode cX8_spotsFrom 40 = .ok (.getfield 106, 3) := by decide +kernel
theorem dX8_spotsFrom_43 : decode cX8_spotsFrom 43 = .ok (.if_icmp .ge 12, 3) := by decide +kernel
theorem dX8_spotsFrom_46 : decode cX8_spotsFrom 46 = .ok (.iload_n 3, 1) := by decide +kernel
theorem dX8_spotsFrom_47 : decode cX8_spotsFrom 47 = .ok (.iload 5, 2) := by decide +kernel
theorem dX8_spotsFrom_49 : decode cX8_spotsFrom 49 = .ok (.ishr, 1) := by decide +kernel
theorem dX8_spotsFrom_50 : decode cX8_spotsFrom 50 = .ok (.iconst 1, 1) := by decide +kernel
theorem dX8_spotsFrom_51 : decode cX8_spotsFrom 51 = .ok (.iand, 1) := by decide +kernel
theorem dX8_spotsFrom_52 : decode cX8_spotsFrom 52 = .ok (.ifCond .eq 5, 3) := by decide +kernel
theorem dX8_spotsFrom_55 : decode cX8_spotsFrom 55 = .ok (.iload_n 2, 1) := by decide +kernel
theorem dX8_spotsFrom_56 : decode cX8_spotsFrom 56 = .ok (.ireturn, 1) := by decide +kernel
theorem dX8_spotsFrom_57 : decode cX8_spotsFrom 57 = .ok (.iload_n 3, 1) := by decide +kernel
theorem dX8_spotsFrom_58 : decode cX8_spotsFrom 58 = .ok (.iconst 1, 1) := by decide +kernel
theorem dX8_spotsFrom_59 : decode cX8_spotsFrom 59 = .ok (.iload 5, 2) := by decide +kernel
theorem dX8_spotsFrom_61 : decode cX8_spotsFrom 61 = .ok (.ishl, 1) := by decide +kernel
theorem dX8_spotsFrom_62 : decode cX8_spotsFrom 62 = .ok (.ior, 1) := by decide +kernel
theorem dX8_spotsFrom_63 : decode cX8_spotsFrom 63 = .ok (.istore_n 3, 1) := by decide +kernel
theorem dX8_spotsFrom_64 : decode cX8_spotsFrom 64 = .ok (.aload_n 0, 1) := by decide +kernel
theorem dX8_spotsFrom_65 : decode cX8_spotsFrom 65 = .ok (.getfield 62, 3) := by decide +kernel
theorem dX8_spotsFrom_68 : decode cX8_spotsFrom 68 = .ok (.iload_n 2, 1) := by decide +kernel
theorem dX8_spotsFrom_69 : decode cX8_spotsFrom 69 = .ok (.iload 5, 2) := by decide +kernel
theorem dX8_spotsFrom_71 : decode cX8_spotsFrom 71 = .ok (.iastore, 1) := by decide +kernel
theorem dX8_spotsFrom_72 : decode cX8_spotsFrom 72 = .ok (.iinc 2 1, 3) := by decide +kernel
theorem dX8_spotsFrom_75 : decode cX8_spotsFrom 75 = .ok (.iinc 4 1, 3) := by decide +kernel
theorem dX8_spotsFrom_78 : decode cX8_spotsFrom 78 = .ok (.goto (-71), 3) := by decide +kernel
theorem dX8_spotsFrom_81 : decode cX8_spotsFrom 81 = .ok (.iload_n 2, 1) := by decide +kernel
theorem dX8_spotsFrom_82 : decode cX8_spotsFrom 82 = .ok (.ireturn, 1) := by decide +kernel
theorem dX8_meanOfLooking_0 : decode cX8_meanOfLooking 0 = .ok (.iconst 0, 1) := by decide +kernel
theorem dX8_meanOfLooking_1 : decode cX8_meanOfLooking 1 = .ok (.istore_n 3, 1) := by decide +kernel
theorem dX8_meanOfLooking_2 : decode cX8_meanOfLooking 2 = .ok (.iconst 0, 1) := by decide +kernel
theorem dX8_meanOfLooking_3 : decode cX8_meanOfLooking 3 = .ok (.istore 4, 2) := by decide +kernel
theorem dX8_meanOfLooking_5 : decode cX8_meanOfLooking 5 = .ok (.iconst 0, 1) := by decide +kernel
theorem dX8_meanOfLooking_6 : decode cX8_meanOfLooking 6 = .ok (.istore 5, 2) := by decide +kernel
theorem dX8_meanOfLooking_8 : decode cX8_meanOfLooking 8 = .ok (.iconst 0, 1) := by decide +kernel
theorem dX8_meanOfLooking_9 : decode cX8_meanOfLooking 9 = .ok (.istore 6, 2) := by decide +kernel
theorem dX8_meanOfLooking_11 : decode cX8_meanOfLooking 11 = .ok (.iconst 0, 1) := by decide +kernel
theorem dX8_meanOfLooking_12 : decode cX8_meanOfLooking 12 = .ok (.istore 7, 2) := by decide +kernel
theorem dX8_meanOfLooking_14 : decode cX8_meanOfLooking 14 = .ok (.iload 7, 2) := by decide +kernel
theorem dX8_meanOfLooking_16 : decode cX8_meanOfLooking 16 = .ok (.iload_n 1, 1) := by decide +kernel
theorem dX8_meanOfLooking_17 : decode cX8_meanOfLooking 17 = .ok (.if_icmp .ge 57, 3) := by decide +kernel
theorem dX8_meanOfLooking_20 : decode cX8_meanOfLooking 20 = .ok (.aload_n 0, 1) := by decide +kernel
theorem dX8_meanOfLooking_21 : decode cX8_meanOfLooking 21 = .ok (.getfield 62, 3) := by decide +kernel
theorem dX8_meanOfLooking_24 : decode cX8_meanOfLooking 24 = .ok (.iload 7, 2) := by decide +kernel
theorem dX8_meanOfLooking_26 : decode cX8_meanOfLooking 26 = .ok (.iaload, 1) := by decide +kernel
theorem dX8_meanOfLooking_27 : decode cX8_meanOfLooking 27 = .ok (.istore 8, 2) := by decide +kernel
theorem dX8_meanOfLooking_29 : decode cX8_meanOfLooking 29 = .ok (.iload_n 3, 1) := by decide +kernel
theorem dX8_meanOfLooking_30 : decode cX8_meanOfLooking 30 = .ok (.aload_n 0, 1) := by decide +kernel
theorem dX8_meanOfLooking_31 : decode cX8_meanOfLooking 31 = .ok (.getfield 11, 3) := by decide +kernel
theorem dX8_meanOfLooking_34 : decode cX8_meanOfLooking 34 = .ok (.bipush 12, 2) := by decide +kernel
theorem dX8_meanOfLooking_36 : decode cX8_meanOfLooking 36 = .ok (.aaload, 1) := by decide +kernel
theorem dX8_meanOfLooking_37 : decode cX8_meanOfLooking 37 = .ok (.iload 8, 2) := by decide +kernel
theorem dX8_meanOfLooking_39 : decode cX8_meanOfLooking 39 = .ok (.iaload, 1) := by decide +kernel
theorem dX8_meanOfLooking_40 : decode cX8_meanOfLooking 40 = .ok (.iadd, 1) := by decide +kernel
theorem dX8_meanOfLooking_41 : decode cX8_meanOfLooking 41 = .ok (.istore_n 3, 1) := by decide +kernel
theorem dX8_meanOfLooking_42 : decode cX8_meanOfLooking 42 = .ok (.iload 6, 2) := by decide +kernel
theorem dX8_meanOfLooking_44 : decode cX8_meanOfLooking 44 = .ok (.aload_n 0, 1) := by decide +kernel
theorem dX8_meanOfLooking_45 : decode cX8_meanOfLooking 45 = .ok (.getfield 11, 3) := by decide +kernel
theorem dX8_meanOfLooking_48 : decode cX8_meanOfLooking 48 = .ok (.bipush 11, 2) := by decide +kernel
theorem dX8_meanOfLooking_50 : decode cX8_meanOfLooking 50 = .ok (.aaload, 1) := by decide +kernel
theorem dX8_meanOfLooking_51 : decode cX8_meanOfLooking 51 = .ok (.iload 8, 2) := by decide +kernel
theorem dX8_meanOfLooking_53 : decode cX8_meanOfLooking 53 = .ok (.iaload, 1) := by decide +kernel
theorem dX8_meanOfLooking_54 : decode cX8_meanOfLooking 54 = .ok (.iload_n 3, 1) := by decide +kernel
theorem dX8_meanOfLooking_55 : decode cX8_meanOfLooking 55 = .ok (.imul, 1) := by decide +kernel
theorem dX8_meanOfLooking_56 : decode cX8_meanOfLooking 56 = .ok (.iadd, 1) := by decide +kernel
theorem dX8_meanOfLooking_57 : decode cX8_meanOfLooking 57 = .ok (.istore 6, 2) := by decide +kernel
theorem dX8_meanOfLooking_59 : decode cX8_meanOfLooking 59 = .ok (.iload 4, 2) := by decide +kernel
theorem dX8_meanOfLooking_61 : decode cX8_meanOfLooking 61 = .ok (.iconst 1, 1) := by decide +kernel
theorem dX8_meanOfLooking_62 : decode cX8_meanOfLooking 62 = .ok (.iload 8, 2) := by decide +kernel
theorem dX8_meanOfLooking_64 : decode cX8_meanOfLooking 64 = .ok (.ishl, 1) := by decide +kernel
theorem dX8_meanOfLooking_65 : decode cX8_meanOfLooking 65 = .ok (.ior, 1) := by decide +kernel
theorem dX8_meanOfLooking_66 : decode cX8_meanOfLooking 66 = .ok (.istore 4, 2) := by decide +kernel
theorem dX8_meanOfLooking_68 : decode cX8_meanOfLooking 68 = .ok (.iinc 7 1, 3) := by decide +kernel
theorem dX8_meanOfLooking_71 : decode cX8_meanOfLooking 71 = .ok (.goto (-57), 3) := by decide +kernel
theorem dX8_meanOfLooking_74 : decode cX8_meanOfLooking 74 = .ok (.iconst 0, 1) := by decide +kernel
theorem dX8_meanOfLooking_75 : decode cX8_meanOfLooking 75 = .ok (.istore 7, 2) := by decide +kernel
theorem dX8_meanOfLooking_77 : decode cX8_meanOfLooking 77 = .ok (.iload 7, 2) := by decide +kernel
theorem dX8_meanOfLooking_79 : decode cX8_meanOfLooking 79 = .ok (.aload_n 0, 1) := by decide +kernel
theorem dX8_meanOfLooking_80 : decode cX8_meanOfLooking 80 = .ok (.getfield 106, 3) := by decide +kernel
theorem dX8_meanOfLooking_83 : decode cX8_meanOfLooking 83 = .ok (.if_icmp .ge 53, 3) := by decide +kernel
theorem dX8_meanOfLooking_86 : decode cX8_meanOfLooking 86 = .ok (.iload 5, 2) := by decide +kernel
theorem dX8_meanOfLooking_88 : decode cX8_meanOfLooking 88 = .ok (.aload_n 0, 1) := by decide +kernel
theorem dX8_meanOfLooking_89 : decode cX8_meanOfLooking 89 = .ok (.getfield 11, 3) := by decide +kernel
theorem dX8_meanOfLooking_92 : decode cX8_meanOfLooking 92 = .ok (.bipush 11, 2) := by decide +kernel
theorem dX8_meanOfLooking_94 : decode cX8_meanOfLooking 94 = .ok (.aaload, 1) := by decide +kernel
theorem dX8_meanOfLooking_95 : decode cX8_meanOfLooking 95 = .ok (.iload 7, 2) := by decide +kernel
theorem dX8_meanOfLooking_97 : decode cX8_meanOfLooking 97 = .ok (.iaload, 1) := by decide +kernel
theorem dX8_meanOfLooking_98 : decode cX8_meanOfLooking 98 = .ok (.iadd, 1) := by decide +kernel
theorem dX8_meanOfLooking_99 : decode cX8_meanOfLooking 99 = .ok (.istore 5, 2) := by decide +kernel
theorem dX8_meanOfLooking_101 : decode cX8_meanOfLooking 101 = .ok (.iload 4, 2) := by decide +kernel
theorem dX8_meanOfLooking_103 : decode cX8_meanOfLooking 103 = .ok (.iload 7, 2) := by decide +kernel
theorem dX8_meanOfLooking_105 : decode cX8_meanOfLooking 105 = .ok (.ishr, 1) := by decide +kernel
theorem dX8_meanOfLooking_106 : decode cX8_meanOfLooking 106 = .ok (.iconst 1, 1) := by decide +kernel
theorem dX8_meanOfLooking_107 : decode cX8_meanOfLooking 107 = .ok (.iand, 1) := by decide +kernel
theorem dX8_meanOfLooking_108 : decode cX8_meanOfLooking 108 = .ok (.ifCond .ne 22, 3) := by decide +kernel
theorem dX8_meanOfLooking_111 : decode cX8_meanOfLooking 111 = .ok (.iload 6, 2) := by decide +kernel
theorem dX8_meanOfLooking_113 : decode cX8_meanOfLooking 113 = .ok (.aload_n 0, 1) := by decide +kernel
theorem dX8_meanOfLooking_114 : decode cX8_meanOfLooking 114 = .ok (.getfield 11, 3) := by decide +kernel
theorem dX8_meanOfLooking_117 : decode cX8_meanOfLooking 117 = .ok (.bipush 11, 2) := by decide +kernel
theorem dX8_meanOfLooking_119 : decode cX8_meanOfLooking 119 = .ok (.aaload, 1) := by decide +kernel
theorem dX8_meanOfLooking_120 : decode cX8_meanOfLooking 120 = .ok (.iload 7, 2) := by decide +kernel
theorem dX8_meanOfLooking_122 : decode cX8_meanOfLooking 122 = .ok (.iaload, 1) := by decide +kernel
theorem dX8_meanOfLooking_123 : decode cX8_meanOfLooking 123 = .ok (.sipush 999, 3) := by decide +kernel
theorem dX8_meanOfLooking_126 : decode cX8_meanOfLooking 126 = .ok (.imul, 1) := by decide +kernel
theorem dX8_meanOfLooking_127 : decode cX8_meanOfLooking 127 = .ok (.iadd, 1) := by decide +kernel
theorem dX8_meanOfLooking_128 : decode cX8_meanOfLooking 128 = .ok (.istore 6, 2) := by decide +kernel
theorem dX8_meanOfLooking_130 : decode cX8_meanOfLooking 130 = .ok (.iinc 7 1, 3) := by decide +kernel
theorem dX8_meanOfLooking_133 : decode cX8_meanOfLooking 133 = .ok (.goto (-56), 3) := by decide +kernel
theorem dX8_meanOfLooking_136 : decode cX8_meanOfLooking 136 = .ok (.iload 6, 2) := by decide +kernel
theorem dX8_meanOfLooking_138 : decode cX8_meanOfLooking 138 = .ok (.i2l, 1) := by decide +kernel
theorem dX8_meanOfLooking_139 : decode cX8_meanOfLooking 139 = .ok (.iload 5, 2) := by decide +kernel
theorem dX8_meanOfLooking_141 : decode cX8_meanOfLooking 141 = .ok (.i2l, 1) := by decide +kernel
theorem dX8_meanOfLooking_142 : decode cX8_meanOfLooking 142 = .ok (.iload_n 2, 1) := by decide +kernel
theorem dX8_meanOfLooking_143 : decode cX8_meanOfLooking 143 = .ok (.invokestatic 184, 3) := by decide +kernel
theorem dX8_meanOfLooking_146 : decode cX8_meanOfLooking 146 = .ok (.lreturn, 1) := by decide +kernel
theorem dX8_inLowestTerms_0 : decode cX8_inLowestTerms 0 = .ok (.lload_n 2, 1) := by decide +kernel
theorem dX8_inLowestTerms_1 : decode cX8_inLowestTerms 1 = .ok (.lstore 5, 2) := by decide +kernel
theorem dX8_inLowestTerms_3 : decode cX8_inLowestTerms 3 = .ok (.lload_n 0, 1) := by decide +kernel
theorem dX8_inLowestTerms_4 : decode cX8_inLowestTerms 4 = .ok (.lstore 7, 2) := by decide +kernel
theorem dX8_inLowestTerms_6 : decode cX8_inLowestTerms 6 = .ok (.iconst 0, 1) := by decide +kernel
theorem dX8_inLowestTerms_7 : decode cX8_inLowestTerms 7 = .ok (.istore 9, 2) := by decide +kernel
theorem dX8_inLowestTerms_9 : decode cX8_inLowestTerms 9 = .ok (.iload 9, 2) := by decide +kernel
theorem dX8_inLowestTerms_11 : decode cX8_inLowestTerms 11 = .ok (.bipush 100, 2) := by decide +kernel
theorem dX8_inLowestTerms_13 : decode cX8_inLowestTerms 13 = .ok (.if_icmp .ge 31, 3) := by decide +kernel
theorem dX8_inLowestTerms_16 : decode cX8_inLowestTerms 16 = .ok (.lload 7, 2) := by decide +kernel
theorem dX8_inLowestTerms_18 : decode cX8_inLowestTerms 18 = .ok (.lconst 0, 1) := by decide +kernel
theorem dX8_inLowestTerms_19 : decode cX8_inLowestTerms 19 = .ok (.lcmp, 1) := by decide +kernel
theorem dX8_inLowestTerms_20 : decode cX8_inLowestTerms 20 = .ok (.ifCond .eq 24, 3) := by decide +kernel
theorem dX8_inLowestTerms_23 : decode cX8_inLowestTerms 23 = .ok (.lload 5, 2) := by decide +kernel
theorem dX8_inLowestTerms_25 : decode cX8_inLowestTerms 25 = .ok (.lload 7, 2) := by decide +kernel
theorem dX8_inLowestTerms_27 : decode cX8_inLowestTerms 27 = .ok (.lrem, 1) := by decide +kernel
theorem dX8_inLowestTerms_28 : decode cX8_inLowestTerms 28 = .ok (.lstore 10, 2) := by decide +kernel
theorem dX8_inLowestTerms_30 : decode cX8_inLowestTerms 30 = .ok (.lload 7, 2) := by decide +kernel
theorem dX8_inLowestTerms_32 : decode cX8_inLowestTerms 32 = .ok (.lstore 5, 2) := by decide +kernel
theorem dX8_inLowestTerms_34 : decode cX8_inLowestTerms 34 = .ok (.lload 10, 2) := by decide +kernel
theorem dX8_inLowestTerms_36 : decode cX8_inLowestTerms 36 = .ok (.lstore 7, 2) := by decide +kernel
theorem dX8_inLowestTerms_38 : decode cX8_inLowestTerms 38 = .ok (.iinc 9 1, 3) := by decide +kernel
theorem dX8_inLowestTerms_41 : decode cX8_inLowestTerms 41 = .ok (.goto (-32), 3) := by decide +kernel
theorem dX8_inLowestTerms_44 : decode cX8_inLowestTerms 44 = .ok (.lload 5, 2) := by decide +kernel
theorem dX8_inLowestTerms_46 : decode cX8_inLowestTerms 46 = .ok (.lconst 0, 1) := by decide +kernel
theorem dX8_inLowestTerms_47 : decode cX8_inLowestTerms 47 = .ok (.lcmp, 1) := by decide +kernel
theorem dX8_inLowestTerms_48 : decode cX8_inLowestTerms 48 = .ok (.ifCond .ne 7, 3) := by decide +kernel
theorem dX8_inLowestTerms_51 : decode cX8_inLowestTerms 51 = .ok (.ldc2_w 182, 3) := by decide +kernel
theorem dX8_inLowestTerms_54 : decode cX8_inLowestTerms 54 = .ok (.lreturn, 1) := by decide +kernel
theorem dX8_inLowestTerms_55 : decode cX8_inLowestTerms 55 = .ok (.iload 4, 2) := by decide +kernel
theorem dX8_inLowestTerms_57 : decode cX8_inLowestTerms 57 = .ok (.ifCond .ne 10, 3) := by decide +kernel
theorem dX8_inLowestTerms_60 : decode cX8_inLowestTerms 60 = .ok (.lload_n 0, 1) := by decide +kernel
theorem dX8_inLowestTerms_61 : decode cX8_inLowestTerms 61 = .ok (.lload 5, 2) := by decide +kernel
theorem dX8_inLowestTerms_63 : decode cX8_inLowestTerms 63 = .ok (.ldiv, 1) := by decide +kernel
theorem dX8_inLowestTerms_64 : decode cX8_inLowestTerms 64 = .ok (.goto 7, 3) := by decide +kernel
theorem dX8_inLowestTerms_67 : decode cX8_inLowestTerms 67 = .ok (.lload_n 2, 1) := by decide +kernel
theorem dX8_inLowestTerms_68 : decode cX8_inLowestTerms 68 = .ok (.lload 5, 2) := by decide +kernel
theorem dX8_inLowestTerms_70 : decode cX8_inLowestTerms 70 = .ok (.ldiv, 1) := by decide +kernel
theorem dX8_inLowestTerms_71 : decode cX8_inLowestTerms 71 = .ok (.lreturn, 1) := by decide +kernel
theorem dX9_init_0 : decode cX9_init 0 = .ok (.aload_n 0, 1) := by decide +kernel
theorem dX9_init_1 : decode cX9_init 1 = .ok (.invokespecial 1, 3) := by decide +kernel
theorem dX9_init_4 : decode cX9_init 4 = .ok (.aload_n 0, 1) := by decide +kernel
theorem dX9_init_5 : decode cX9_init 5 = .ok (.bipush 20, 2) := by decide +kernel
theorem dX9_init_7 : decode cX9_init 7 = .ok (.putfield 7, 3) := by decide +kernel
theorem dX9_init_10 : decode cX9_init 10 = .ok (.aload_n 0, 1) := by decide +kernel
theorem dX9_init_11 : decode cX9_init 11 = .ok (.bipush 6, 2) := by decide +kernel
theorem dX9_init_13 : decode cX9_init 13 = .ok (.newarray .int, 2) := by decide +kernel
theorem dX9_init_15 : decode cX9_init 15 = .ok (.putfield 13, 3) := by decide +kernel
theorem dX9_init_18 : decode cX9_init 18 = .ok (.aload_n 0, 1) := by decide +kernel
theorem dX9_init_19 : decode cX9_init 19 = .ok (.bipush 6, 2) := by decide +kernel
theorem dX9_init_21 : decode cX9_init 21 = .ok (.newarray .int, 2) := by decide +kernel
theorem dX9_init_23 : decode cX9_init 23 = .ok (.putfield 17, 3) := by decide +kernel
theorem dX9_init_26 : decode cX9_init 26 = .ok (.aload_n 0, 1) := by decide +kernel
theorem dX9_init_27 : decode cX9_init 27 = .ok (.bipush 6, 2) := by decide +kernel
theorem dX9_init_29 : decode cX9_init 29 = .ok (.newarray .int, 2) := by decide +kernel
theorem dX9_init_31 : decode cX9_init 31 = .ok (.putfield 20, 3) := by decide +kernel
theorem dX9_init_34 : decode cX9_init 34 = .ok (.aload_n 0, 1) := by decide +kernel
theorem dX9_init_35 : decode cX9_init 35 = .ok (.bipush 6, 2) := by decide +kernel
theorem dX9_init_37 : decode cX9_init 37 = .ok (.newarray .int, 2) := by decide +kernel
theorem dX9_init_39 : decode cX9_init 39 = .ok (.putfield 23, 3) := by decide +kernel
theorem dX9_init_42 : decode cX9_init 42 = .ok (.aload_n 0, 1) := by decide +kernel
theorem dX9_init_43 : decode cX9_init 43 = .ok (.bipush 6, 2) := by decide +kernel
theorem dX9_init_45 : decode cX9_init 45 = .ok (.newarray .int, 2) := by decide +kernel
theorem dX9_init_47 : decode cX9_init 47 = .ok (.putfield 26, 3) := by decide +kernel
theorem dX9_init_50 : decode cX9_init 50 = .ok (.aload_n 0, 1) := by decide +kernel
theorem dX9_init_51 : decode cX9_init 51 = .ok (.bipush 6, 2) := by decide +kernel
theorem dX9_init_53 : decode cX9_init 53 = .ok (.newarray .int, 2) := by decide +kernel
theorem dX9_init_55 : decode cX9_init 55 = .ok (.putfield 29, 3) := by decide +kernel
theorem dX9_init_58 : decode cX9_init 58 = .ok (.aload_n 0, 1) := by decide +kernel
theorem dX9_init_59 : decode cX9_init 59 = .ok (.bipush 6, 2) := by decide +kernel
theorem dX9_init_61 : decode cX9_init 61 = .ok (.newarray .int, 2) := by decide +kernel
theorem dX9_init_63 : decode cX9_init 63 = .ok (.putfield 32, 3) := by decide +kernel
theorem dX9_init_66 : decode cX9_init 66 = .ok (.aload_n 0, 1) := by decide +kernel
theorem dX9_init_67 : decode cX9_init 67 = .ok (.iconst 2, 1) := by decide +kernel
theorem dX9_init_68 : decode cX9_init 68 = .ok (.newarray .int, 2) := by decide +kernel
theorem dX9_init_70 : decode cX9_init 70 = .ok (.dup, 1) := by decide +kernel
theorem dX9_init_71 : decode cX9_init 71 = .ok (.iconst 0, 1) := by decide +kernel
theorem dX9_init_72 : decode cX9_init 72 = .ok (.iconst 2, 1) := by decide +kernel
theorem dX9_init_73 : decode cX9_init 73 = .ok (.iastore, 1) := by decide +kernel
theorem dX9_init_74 : decode cX9_init 74 = .ok (.dup, 1) := by decide +kernel
theorem dX9_init_75 : decode cX9_init 75 = .ok (.iconst 1, 1) := by decide +kernel
theorem dX9_init_76 : decode cX9_init 76 = .ok (.bipush 8, 2) := by decide +kernel
theorem dX9_init_78 : decode cX9_init 78 = .ok (.iastore, 1) := by decide +kernel
theorem dX9_init_79 : decode cX9_init 79 = .ok (.putfield 35, 3) := by decide +kernel
theorem dX9_init_82 : decode cX9_init 82 = .ok (.aload_n 0, 1) := by decide +kernel
theorem dX9_init_83 : decode cX9_init 83 = .ok (.iconst 2, 1) := by decide +kernel
theorem dX9_init_84 : decode cX9_init 84 = .ok (.newarray .int, 2) := by decide +kernel
theorem dX9_init_86 : decode cX9_init 86 = .ok (.dup, 1) := by decide +kernel
theorem dX9_init_87 : decode cX9_init 87 = .ok (.iconst 0, 1) := by decide +kernel
theorem dX9_init_88 : decode cX9_init 88 = .ok (.bipush 30, 2) := by decide +kernel
theorem dX9_init_90 : decode cX9_init 90 = .ok (.iastore, 1) := by decide +kernel
theorem dX9_init_91 : decode cX9_init 91 = .ok (.dup, 1) := by decide +kernel
theorem dX9_init_92 : decode cX9_init 92 = .ok (.iconst 1, 1) := by decide +kernel
theorem dX9_init_93 : decode cX9_init 93 = .ok (.bipush 30, 2) := by decide +kernel
theorem dX9_init_95 : decode cX9_init 95 = .ok (.iastore, 1) := by decide +kernel
theorem dX9_init_96 : decode cX9_init 96 = .ok (.putfield 38, 3) := by decide +kernel
theorem dX9_init_99 : decode cX9_init 99 = .ok (.aload_n 0, 1) := by decide +kernel
theorem dX9_init_100 : decode cX9_init 100 = .ok (.iconst 2, 1) := by decide +kernel
theorem dX9_init_101 : decode cX9_init 101 = .ok (.newarray .int, 2) := by decide +kernel
theorem dX9_init_103 : decode cX9_init 103 = .ok (.putfield 41, 3) := by decide +kernel
theorem dX9_init_106 : decode cX9_init 106 = .ok (.aload_n 0, 1) := by decide +kernel
theorem dX9_init_107 : decode cX9_init 107 = .ok (.bipush 8, 2) := by decide +kernel
theorem dX9_init_109 : decode cX9_init 109 = .ok (.newarray .int, 2) := by decide +kernel
theorem dX9_init_111 : decode cX9_init 111 = .ok (.putfield 44, 3) := by decide +kernel
theorem dX9_init_114 : decode cX9_init 114 = .ok (.aload_n 0, 1) := by decide +kernel
theorem dX9_init_115 : decode cX9_init 115 = .ok (.bipush 8, 2) := by decide +kernel
theorem dX9_init_117 : decode cX9_init 117 = .ok (.newarray .int, 2) := by decide +kernel
theorem dX9_init_119 : decode cX9_init 119 = .ok (.putfield 47, 3) := by decide +kernel
theorem dX9_init_122 : decode cX9_init 122 = .ok (.aload_n 0, 1) := by decide +kernel
theorem dX9_init_123 : decode cX9_init 123 = .ok (.bipush 120, 2) := by decide +kernel
theorem dX9_init_125 : decode cX9_init 125 = .ok (.newarray .int, 2) := by decide +kernel
theorem dX9_init_127 : decode cX9_init 127 = .ok (.putfield 50, 3) := by decide +kernel
theorem dX9_init_130 : decode cX9_init 130 = .ok (.aload_n 0, 1) := by decide +kernel
theorem dX9_init_131 : decode cX9_init 131 = .ok (.bipush 120, 2) := by decide +kernel
theorem dX9_init_133 : decode cX9_init 133 = .ok (.newarray .int, 2) := by decide +kernel
theorem dX9_init_135 : decode cX9_init 135 = .ok (.putfield 53, 3) := by decide +kernel
theorem dX9_init_138 : decode cX9_init 138 = .ok (.aload_n 0, 1) := by decide +kernel
theorem dX9_init_139 : decode cX9_init 139 = .ok (.bipush 40, 2) := by decide +kernel
theorem dX9_init_141 : decode cX9_init 141 = .ok (.newarray .int, 2) := by decide +kernel
theorem dX9_init_143 : decode cX9_init 143 = .ok (.putfield 56, 3) := by decide +kernel
theorem dX9_init_146 : decode cX9_init 146 = .ok (.aload_n 0, 1) := by decide +kernel
theorem dX9_init_147 : decode cX9_init 147 = .ok (.bipush 40, 2) := by decide +kernel
theorem dX9_init_149 : decode cX9_init 149 = .ok (.newarray .int, 2) := by decide +kernel
theorem dX9_init_151 : decode cX9_init 151 = .ok (.putfield 59, 3) := by decide +kernel
theorem dX9_init_154 : decode cX9_init 154 = .ok (.aload_n 0, 1) := by decide +kernel
theorem dX9_init_155 : decode cX9_init 155 = .ok (.bipush 40, 2) := by decide +kernel
theorem dX9_init_157 : decode cX9_init 157 = .ok (.newarray .int, 2) := by decide +kernel
theorem dX9_init_159 : decode cX9_init 159 = .ok (.putfield 62, 3) := by decide +kernel
theorem dX9_init_162 : decode cX9_init 162 = .ok (.aload_n 0, 1) := by decide +kernel
theorem dX9_init_163 : decode cX9_init 163 = .ok (.bipush 40, 2) := by decide +kernel
theorem dX9_init_165 : decode cX9_init 165 = .ok (.newarray .int, 2) := by decide +kernel
theorem dX9_init_167 : decode cX9_init 167 = .ok (.putfield 65, 3) := by decide +kernel
theorem dX9_init_170 : decode cX9_init 170 = .ok (.aload_n 0, 1) := by decide +kernel
theorem dX9_init_171 : decode cX9_init 171 = .ok (.sipush 128, 3) := by decide +kernel
theorem dX9_init_174 : decode cX9_init 174 = .ok (.newarray .int, 2) := by decide +kernel
theorem dX9_init_176 : decode cX9_init 176 = .ok (.putfield 68, 3) := by decide +kernel
theorem dX9_init_179 : decode cX9_init 179 = .ok (.aload_n 0, 1) := by decide +kernel
theorem dX9_init_180 : decode cX9_init 180 = .ok (.bipush 6, 2) := by decide +kernel
theorem dX9_init_182 : decode cX9_init 182 = .ok (.newarray .int, 2) := by decide +kernel
theorem dX9_init_184 : decode cX9_init 184 = .ok (.putfield 71, 3) := by decide +kernel
theorem dX9_init_187 : decode cX9_init 187 = .ok (.aload_n 0, 1) := by decide +kernel
theorem dX9_init_188 : decode cX9_init 188 = .ok (.bipush 6, 2) := by decide +kernel
theorem dX9_init_190 : decode cX9_init 190 = .ok (.newarray .int, 2) := by decide +kernel
theorem dX9_init_192 : decode cX9_init 192 = .ok (.putfield 74, 3) := by decide +kernel
theorem dX9_init_195 : decode cX9_init 195 = .ok (.aload_n 0, 1) := by decide +kernel
theorem dX9_init_196 : decode cX9_init 196 = .ok (.bipush 12, 2) := by decide +kernel
theorem dX9_init_198 : decode cX9_init 198 = .ok (.newarray .int, 2) := by decide +kernel
theorem dX9_init_200 : decode cX9_init 200 = .ok (.putfield 77, 3) := by decide +kernel
theorem dX9_init_203 : decode cX9_init 203 = .ok (.aload_n 0, 1) := by decide +kernel
theorem dX9_init_204 : decode cX9_init 204 = .ok (.iconst (-1), 1) := by decide +kernel
theorem dX9_init_205 : decode cX9_init 205 = .ok (.putfield 80, 3) := by decide +kernel
theorem dX9_init_208 : decode cX9_init 208 = .ok (.aload_n 0, 1) := by decide +kernel
theorem dX9_init_209 : decode cX9_init 209 = .ok (.bipush 50, 2) := by decide +kernel
theorem dX9_init_211 : decode cX9_init 211 = .ok (.newarray .int, 2) := by decide +kernel
theorem dX9_init_213 : decode cX9_init 213 = .ok (.putfield 83, 3) := by decide +kernel
theorem dX9_init_216 : decode cX9_init 216 = .ok (.aload_n 0, 1) := by decide +kernel
theorem dX9_init_217 : decode cX9_init 217 = .ok (.bipush 24, 2) := by decide +kernel
theorem dX9_init_219 : decode cX9_init 219 = .ok (.newarray .int, 2) := by decide +kernel
theorem dX9_init_221 : decode cX9_init 221 = .ok (.putfield 86, 3) := by decide +kernel
theorem dX9_init_224 : decode cX9_init 224 = .ok (.aload_n 0, 1) := by decide +kernel
theorem dX9_init_225 : decode cX9_init 225 = .ok (.bipush 6, 2) := by decide +kernel
theorem dX9_init_227 : decode cX9_init 227 = .ok (.newarray .int, 2) := by decide +kernel
theorem dX9_init_229 : decode cX9_init 229 = .ok (.putfield 89, 3) := by decide +kernel
theorem dX9_init_232 : decode cX9_init 232 = .ok (.aload_n 0, 1) := by decide +kernel
theorem dX9_init_233 : decode cX9_init 233 = .ok (.bipush 6, 2) := by decide +kernel
theorem dX9_init_235 : decode cX9_init 235 = .ok (.newarray .int, 2) := by decide +kernel
theorem dX9_init_237 : decode cX9_init 237 = .ok (.putfield 92, 3) := by decide +kernel
theorem dX9_init_240 : decode cX9_init 240 = .ok (.aload_n 0, 1) := by decide +kernel
theorem dX9_init_241 : decode cX9_init 241 = .ok (.bipush 6, 2) := by decide +kernel
theorem dX9_init_243 : decode cX9_init 243 = .ok (.newarray .int, 2) := by decide +kernel
theorem dX9_init_245 : decode cX9_init 245 = .ok (.putfield 95, 3) := by decide +kernel
theorem dX9_init_248 : decode cX9_init 248 = .ok (.aload_n 0, 1) := by decide +kernel
theorem dX9_init_249 : decode cX9_init 249 = .ok (.bipush 6, 2) := by decide +kernel
theorem dX9_init_251 : decode cX9_init 251 = .ok (.newarray .int, 2) := by decide +kernel
theorem dX9_init_253 : decode cX9_init 253 = .ok (.putfield 98, 3) := by decide +kernel
theorem dX9_init_256 : decode cX9_init 256 = .ok (.aload_n 0, 1) := by decide +kernel
theorem dX9_init_257 : decode cX9_init 257 = .ok (.sipush 360, 3) := by decide +kernel
theorem dX9_init_260 : decode cX9_init 260 = .ok (.newarray .long, 2) := by decide +kernel
theorem dX9_init_262 : decode cX9_init 262 = .ok (.putfield 101, 3) := by decide +kernel
theorem dX9_init_265 : decode cX9_init 265 = .ok (.aload_n 0, 1) := by decide +kernel
theorem dX9_init_266 : decode cX9_init 266 = .ok (.bipush 60, 2) := by decide +kernel
theorem dX9_init_268 : decode cX9_init 268 = .ok (.newarray .long, 2) := by decide +kernel
theorem dX9_init_270 : decode cX9_init 270 = .ok (.putfield 105, 3) := by decide +kernel
theorem dX9_init_273 : decode cX9_init 273 = .ok (.return_, 1) := by decide +kernel
theorem dX9_isIn_0 : decode cX9_isIn 0 = .ok (.iload_n 1, 1) := by decide +kernel
theorem dX9_isIn_1 : decode cX9_isIn 1 = .ok (.iload_n 2, 1) := by decide +kernel
theorem dX9_isIn_2 : decode cX9_isIn 2 = .ok (.if_icmp .lt 12, 3) := by decide +kernel
theorem dX9_isIn_5 : decode cX9_isIn 5 = .ok (.iload_n 1, 1) := by decide +kernel
theorem dX9_isIn_6 : decode cX9_isIn 6 = .ok (.iload_n 3, 1) := by decide +kernel
theorem dX9_isIn_7 : decode cX9_isIn 7 = .ok (.if_icmp .gt 7, 3) := by decide +kernel
theorem dX9_isIn_10 : decode cX9_isIn 10 = .ok (.iconst 1, 1) := by decide +kernel
theorem dX9_isIn_11 : decode cX9_isIn 11 = .ok (.goto 4, 3) := by decide +kernel
theorem dX9_isIn_14 : decode cX9_isIn 14 = .ok (.iconst 0, 1) := by decide +kernel
theorem dX9_isIn_15 : decode cX9_isIn 15 = .ok (.ireturn, 1) := by decide +kernel
theorem dX9_isLink_0 : decode cX9_isLink 0 = .ok (.iload_n 1, 1) := by decide +kernel
theorem dX9_isLink_1 : decode cX9_isLink 1 = .ok (.ifCond .lt 15, 3) := by decide +kernel
theorem dX9_isLink_4 : decode cX9_isLink 4 = .ok (.iload_n 1, 1) := by decide +kernel
theorem dX9_isLink_5 : decode cX9_isLink 5 = .ok (.aload_n 0, 1) := by decide +kernel
theorem dX9_isLink_6 : decode cX9_isLink 6 = .ok (.getfield 108, 3) := by decide +kernel
theorem dX9_isLink_9 : decode cX9_isLink 9 = .ok (.if_icmp .ge 7, 3) := by decide +kernel
theorem dX9_isLink_12 : decode cX9_isLink 12 = .ok (.iconst 1, 1) := by decide +kernel
theorem dX9_isLink_13 : decode cX9_isLink 13 = .ok (.goto 4, 3) := by decide +kernel
theorem dX9_isLink_16 : decode cX9_isLink 16 = .ok (.iconst 0, 1) := by decide +kernel
theorem dX9_isLink_17 : decode cX9_isLink 17 = .ok (.ireturn, 1) := by decide +kernel
theorem dX9_isCuff_0 : decode cX9_isCuff 0 = .ok (.iload_n 1, 1) := by decide +kernel
theorem dX9_isCuff_1 : decode cX9_isCuff 1 = .ok (.ifCond .lt 15, 3) := by decide +kernel
theorem dX9_isCuff_4 : decode cX9_isCuff 4 = .ok (.iload_n 1, 1) := by decide +kernel
theorem dX9_isCuff_5 : decode cX9_isCuff 5 = .ok (.aload_n 0, 1) := by decide +kernel
theorem dX9_isCuff_6 : decode cX9_isCuff 6 = .ok (.getfield 111, 3) := by decide +kernel
theorem dX9_isCuff_9 : decode cX9_isCuff 9 = .ok (.if_icmp .ge 7, 3) := by decide +kernel
theorem dX9_isCuff_12 : decode cX9_isCuff 12 = .ok (.iconst 1, 1) := by decide +kernel
theorem dX9_isCuff_13 : decode cX9_isCuff 13 = .ok (.goto 4, 3) := by decide +kernel
theorem dX9_isCuff_16 : decode cX9_isCuff 16 = .ok (.iconst 0, 1) := by decide +kernel
theorem dX9_isCuff_17 : decode cX9_isCuff 17 = .ok (.ireturn, 1) := by decide +kernel
theorem dX9_has_0 : decode cX9_has 0 = .ok (.iload_n 1, 1) := by decide +kernel
theorem dX9_has_1 : decode cX9_has 1 = .ok (.iload_n 2, 1) := by decide +kernel
theorem dX9_has_2 : decode cX9_has 2 = .ok (.ishr, 1) := by decide +kernel
theorem dX9_has_3 : decode cX9_has 3 = .ok (.iconst 1, 1) := by decide +kernel
theorem dX9_has_4 : decode cX9_has 4 = .ok (.iand, 1) := by decide +kernel
theorem dX9_has_5 : decode cX9_has 5 = .ok (.iconst 1, 1) := by decide +kernel
theorem dX9_has_6 : decode cX9_has 6 = .ok (.if_icmp .ne 7, 3) := by decide +kernel
theorem dX9_has_9 : decode cX9_has 9 = .ok (.iconst 1, 1) := by decide +kernel
theorem dX9_has_10 : decode cX9_has 10 = .ok (.goto 4, 3) := by decide +kernel
theorem dX9_has_13 : decode cX9_has 13 = .ok (.iconst 0, 1) := by decide +kernel
theorem dX9_has_14 : decode cX9_has 14 = .ok (.ireturn, 1) := by decide +kernel
theorem dX9_link_0 : decode cX9_link 0 = .ok (.aload_n 0, 1) := by decide +kernel
theorem dX9_link_1 : decode cX9_link 1 = .ok (.iload_n 1, 1) := by decide +kernel
theorem dX9_link_2 : decode cX9_link 2 = .ok (.iconst 1, 1) := by decide +kernel
theorem dX9_link_3 : decode cX9_link 3 = .ok (.bipush 9, 2) := by decide +kernel
theorem dX9_link_5 : decode cX9_link 5 = .ok (.invokevirtual 114, 3) := by decide +kernel
theorem dX9_link_8 : decode cX9_link 8 = .ok (.ifCond .eq 14, 3) := by decide +kernel
theorem dX9_link_11 : decode cX9_link 11 = .ok (.aload_n 0, 1) := by decide +kernel
theorem dX9_link_12 : decode cX9_link 12 = .ok (.iload_n 2, 1) := by decide +kernel
theorem dX9_link_13 : decode cX9_link 13 = .ok (.iconst 0, 1) := by decide +kernel
theorem dX9_link_14 : decode cX9_link 14 = .ok (.bipush 9, 2) := by decide +kernel
theorem dX9_link_16 : decode cX9_link 16 = .ok (.invokevirtual 114, 3) := by decide +kernel
theorem dX9_link_19 : decode cX9_link 19 = .ok (.ifCond .ne 5, 3) := by decide +kernel
theorem dX9_link_22 : decode cX9_link 22 = .ok (.iconst (-1), 1) := by decide +kernel
theorem dX9_link_23 : decode cX9_link 23 = .ok (.ireturn, 1) := by decide +kernel
theorem dX9_link_24 : decode cX9_link 24 = .ok (.aload_n 0, 1) := by decide +kernel
theorem dX9_link_25 : decode cX9_link 25 = .ok (.getfield 108, 3) := by decide +kernel
theorem dX9_link_28 : decode cX9_link 28 = .ok (.bipush 6, 2) := by decide +kernel
theorem dX9_link_30 : decode cX9_link 30 = .ok (.if_icmp .ne 6, 3) := by decide +kernel
theorem dX9_link_33 : decode cX9_link 33 = .ok (.bipush (-3), 2) := by decide +kernel
theorem dX9_link_35 : decode cX9_link 35 = .ok (.ireturn, 1) := by decide +kernel
theorem dX9_link_36 : decode cX9_link 36 = .ok (.aload_n 0, 1) := by decide +kernel
theorem dX9_link_37 : decode cX9_link 37 = .ok (.getfield 13, 3) := by decide +kernel
theorem dX9_link_40 : decode cX9_link 40 = .ok (.aload_n 0, 1) := by decide +kernel
theorem dX9_link_41 : decode cX9_link 41 = .ok (.getfield 108, 3) := by decide +kernel
theorem dX9_link_44 : decode cX9_link 44 = .ok (.iload_n 1, 1) := by decide +kernel
theorem dX9_link_45 : decode cX9_link 45 = .ok (.iastore, 1) := by decide +kernel
theorem dX9_link_46 : decode cX9_link 46 = .ok (.aload_n 0, 1) := by decide +kernel
theorem dX9_link_47 : decode cX9_link 47 = .ok (.getfield 17, 3) := by decide +kernel
theorem dX9_link_50 : decode cX9_link 50 = .ok (.aload_n 0, 1) := by decide +kernel
theorem dX9_link_51 : decode cX9_link 51 = .ok (.getfield 108, 3) := by decide +kernel
theorem dX9_link_54 : decode cX9_link 54 = .ok (.iload_n 2, 1) := by decide +kernel
theorem dX9_link_55 : decode cX9_link 55 = .ok (.iastore, 1) := by decide +kernel
theorem dX9_link_56 : decode cX9_link 56 = .ok (.aload_n 0, 1) := by decide +kernel
theorem dX9_link_57 : decode cX9_link 57 = .ok (.dup, 1) := by decide +kernel
theorem dX9_link_58 : decode cX9_link 58 = .ok (.getfield 108, 3) := by decide +kernel
theorem dX9_link_61 : decode cX9_link 61 = .ok (.dup_x1, 1) := by decide +kernel
theorem dX9_link_62 : decode cX9_link 62 = .ok (.iconst 1, 1) := by decide +kernel
theorem dX9_link_63 : decode cX9_link 63 = .ok (.iadd, 1) := by decide +kernel
theorem dX9_link_64 : decode cX9_link 64 = .ok (.putfield 108, 3) := by decide +kernel
theorem dX9_link_67 : decode cX9_link 67 = .ok (.ireturn, 1) := by decide +kernel
theorem dX9_adds_0 : decode cX9_adds 0 = .ok (.aload_n 0, 1) := by decide +kernel
theorem dX9_adds_1 : decode cX9_adds 1 = .ok (.getfield 20, 3) := by decide +kernel
theorem dX9_adds_4 : decode cX9_adds 4 = .ok (.aload_n 0, 1) := by decide +kernel
theorem dX9_adds_5 : decode cX9_adds 5 = .ok (.getfield 111, 3) := by decide +kernel
theorem dX9_adds_8 : decode cX9_adds 8 = .ok (.iload_n 1, 1) := by decide +kernel
theorem dX9_adds_9 : decode cX9_adds 9 = .ok (.iastore, 1) := by decide +kernel
theorem dX9_adds_10 : decode cX9_adds 10 = .ok (.aload_n 0, 1) := by decide +kernel
theorem dX9_adds_11 : decode cX9_adds 11 = .ok (.getfield 23, 3) := by decide +kernel
theorem dX9_adds_14 : decode cX9_adds 14 = .ok (.aload_n 0, 1) := by decide +kernel
theorem dX9_adds_15 : decode cX9_adds 15 = .ok (.getfield 111, 3) := by decide +kernel
theorem dX9_adds_18 : decode cX9_adds 18 = .ok (.iload_n 2, 1) := by decide +kernel
theorem dX9_adds_19 : decode cX9_adds 19 = .ok (.iastore, 1) := by decide +kernel
theorem dX9_adds_20 : decode cX9_adds 20 = .ok (.aload_n 0, 1) := by decide +kernel
theorem dX9_adds_21 : decode cX9_adds 21 = .ok (.getfield 26, 3) := by decide +kernel
theorem dX9_adds_24 : decode cX9_adds 24 = .ok (.aload_n 0, 1) := by decide +kernel
theorem dX9_adds_25 : decode cX9_adds 25 = .ok (.getfield 111, 3) := by decide +kernel
theorem dX9_adds_28 : decode cX9_adds 28 = .ok (.iload_n 3, 1) := by decide +kernel
theorem dX9_adds_29 : decode cX9_adds 29 = .ok (.iastore, 1) := by decide +kernel
theorem dX9_adds_30 : decode cX9_adds 30 = .ok (.aload_n 0, 1) := by decide +kernel
theorem dX9_adds_31 : decode cX9_adds 31 = .ok (.getfield 29, 3) := by decide +kernel
theorem dX9_adds_34 : decode cX9_adds 34 = .ok (.aload_n 0, 1) := by decide +kernel
theorem dX9_adds_35 : decode cX9_adds 35 = .ok (.getfield 111, 3) := by decide +kernel
theorem dX9_adds_38 : decode cX9_adds 38 = .ok (.bipush 20, 2) := by decide +kernel
theorem dX9_adds_40 : decode cX9_adds 40 = .ok (.iastore, 1) := by decide +kernel
theorem dX9_adds_41 : decode cX9_adds 41 = .ok (.aload_n 0, 1) := by decide +kernel
theorem dX9_adds_42 : decode cX9_adds 42 = .ok (.getfield 32, 3) := by decide +kernel
theorem dX9_adds_45 : decode cX9_adds 45 = .ok (.aload_n 0, 1) := by decide +kernel
theorem dX9_adds_46 : decode cX9_adds 46 = .ok (.getfield 111, 3) := by decide +kernel
theorem dX9_adds_49 : decode cX9_adds 49 = .ok (.bipush (-2), 2) := by decide +kernel
theorem dX9_adds_51 : decode cX9_adds 51 = .ok (.iastore, 1) := by decide +kernel
theorem dX9_adds_52 : decode cX9_adds 52 = .ok (.aload_n 0, 1) := by decide +kernel
theorem dX9_adds_53 : decode cX9_adds 53 = .ok (.dup, 1) := by decide +kernel
theorem dX9_adds_54 : decode cX9_adds 54 = .ok (.getfield 111, 3) := by decide +kernel
theorem dX9_adds_57 : decode cX9_adds 57 = .ok (.dup_x1, 1) := by decide +kernel
theorem dX9_adds_58 : decode cX9_adds 58 = .ok (.iconst 1, 1) := by decide +kernel
theorem dX9_adds_59 : decode cX9_adds 59 = .ok (.iadd, 1) := by decide +kernel
theorem dX9_adds_60 : decode cX9_adds 60 = .ok (.putfield 111, 3) := by decide +kernel
theorem dX9_adds_63 : decode cX9_adds 63 = .ok (.ireturn, 1) := by decide +kernel
theorem dX9_cuff_0 : decode cX9_cuff 0 = .ok (.aload_n 0, 1) := by decide +kernel
theorem dX9_cuff_1 : decode cX9_cuff 1 = .ok (.iload_n 1, 1) := by decide +kernel
theorem dX9_cuff_2 : decode cX9_cuff 2 = .ok (.iconst 0, 1) := by decide +kernel
theorem dX9_cuff_3 : decode cX9_cuff 3 = .ok (.bipush 9, 2) := by decide +kernel
theorem dX9_cuff_5 : decode cX9_cuff 5 = .ok (.invokevirtual 114, 3) := by decide +kernel
theorem dX9_cuff_8 : decode cX9_cuff 8 = .ok (.ifCond .eq 14, 3) := by decide +kernel
theorem dX9_cuff_11 : decode cX9_cuff 11 = .ok (.aload_n 0, 1) := by decide +kernel
theorem dX9_cuff_12 : decode cX9_cuff 12 = .ok (.iload_n 2, 1) := by decide +kernel
theorem dX9_cuff_13 : decode cX9_cuff 13 = .ok (.iconst 0, 1) := by decide +kernel
theorem dX9_cuff_14 : decode cX9_cuff 14 = .ok (.bipush 9, 2) := by decide +kernel
theorem dX9_cuff_16 : decode cX9_cuff 16 = .ok (.invokevirtual 114, 3) := by decide +kernel
theorem dX9_cuff_19 : decode cX9_cuff 19 = .ok (.ifCond .ne 5, 3) := by decide +kernel
theorem dX9_cuff_22 : decode cX9_cuff 22 = .ok (.iconst (-1), 1) := by decide +kernel
theorem dX9_cuff_23 : decode cX9_cuff 23 = .ok (.ireturn, 1) := by decide +kernel
theorem dX9_cuff_24 : decode cX9_cuff 24 = .ok (.aload_n 0, 1) := by decide +kernel
theorem dX9_cuff_25 : decode cX9_cuff 25 = .ok (.getfield 111, 3) := by decide +kernel
theorem dX9_cuff_28 : decode cX9_cuff 28 = .ok (.bipush 6, 2) := by decide +kernel
theorem dX9_cuff_30 : decode cX9_cuff 30 = .ok (.if_icmp .ne 8, 3) := by decide +kernel
theorem dX9_cuff_33 : decode cX9_cuff 33 = .ok (.bipush (-3), 2) := by decide +kernel
theorem dX9_cuff_35 : decode cX9_cuff 35 = .ok (.goto 10, 3) := by decide +kernel
theorem dX9_cuff_38 : decode cX9_cuff 38 = .ok (.aload_n 0, 1) := by decide +kernel
theorem dX9_cuff_39 : decode cX9_cuff 39 = .ok (.iload_n 1, 1) := by decide +kernel
theorem dX9_cuff_40 : decode cX9_cuff 40 = .ok (.iload_n 2, 1) := by decide +kernel
theorem dX9_cuff_41 : decode cX9_cuff 41 = .ok (.iconst 0, 1) := by decide +kernel
theorem dX9_cuff_42 : decode cX9_cuff 42 = .ok (.invokevirtual 118, 3) := by decide +kernel
theorem dX9_cuff_45 : decode cX9_cuff 45 = .ok (.ireturn, 1) := by decide +kernel
theorem dX9_cuffs_0 : decode cX9_cuffs 0 = .ok (.aload_n 0, 1) := by decide +kernel
theorem dX9_cuffs_1 : decode cX9_cuffs 1 = .ok (.iload_n 1, 1) := by decide +kernel
theorem dX9_cuffs_2 : decode cX9_cuffs 2 = .ok (.invokevirtual 122, 3) := by decide +kernel
theorem dX9_cuffs_5 : decode cX9_cuffs 5 = .ok (.ifCond .eq 14, 3) := by decide +kernel
theorem dX9_cuffs_8 : decode cX9_cuffs 8 = .ok (.aload_n 0, 1) := by decide +kernel
theorem dX9_cuffs_9 : decode cX9_cuffs 9 = .ok (.iload_n 3, 1) := by decide +kernel
theorem dX9_cuffs_10 : decode cX9_cuffs 10 = .ok (.iconst 1, 1) := by decide +kernel
theorem dX9_cuffs_11 : decode cX9_cuffs 11 = .ok (.bipush 6, 2) := by decide +kernel
theorem dX9_cuffs_13 : decode cX9_cuffs 13 = .ok (.invokevirtual 114, 3) := by decide +kernel
theorem dX9_cuffs_16 : decode cX9_cuffs 16 = .ok (.ifCond .ne 5, 3) := by decide +kernel
theorem dX9_cuffs_19 : decode cX9_cuffs 19 = .ok (.iconst (-1), 1) := by decide +kernel
theorem dX9_cuffs_20 : decode cX9_cuffs 20 = .ok (.ireturn, 1) := by decide +kernel
theorem dX9_cuffs_21 : decode cX9_cuffs 21 = .ok (.aload_n 0, 1) := by decide +kernel
theorem dX9_cuffs_22 : decode cX9_cuffs 22 = .ok (.getfield 89, 3) := by decide +kernel
theorem dX9_cuffs_25 : decode cX9_cuffs 25 = .ok (.iload_n 1, 1) := by decide +kernel
theorem dX9_cuffs_26 : decode cX9_cuffs 26 = .ok (.iaload, 1) := by decide +kernel
theorem dX9_cuffs_27 : decode cX9_cuffs 27 = .ok (.ifCond .ne 5, 3) := by decide +kernel
theorem dX9_cuffs_30 : decode cX9_cuffs 30 = .ok (.iconst 0, 1) := by decide +kernel
theorem dX9_cuffs_31 : decode cX9_cuffs 31 = .ok (.ireturn, 1) := by decide +kernel
theorem dX9_cuffs_32 : decode cX9_cuffs 32 = .ok (.aload_n 0, 1) := by decide +kernel
theorem dX9_cuffs_33 : decode cX9_cuffs 33 = .ok (.getfield 89, 3) := by decide +kernel
theorem dX9_cuffs_36 : decode cX9_cuffs 36 = .ok (.iload_n 1, 1) := by decide +kernel
theorem dX9_cuffs_37 : decode cX9_cuffs 37 = .ok (.iaload, 1) := by decide +kernel
theorem dX9_cuffs_38 : decode cX9_cuffs 38 = .ok (.iconst 2, 1) := by decide +kernel
theorem dX9_cuffs_39 : decode cX9_cuffs 39 = .ok (.if_icmp .ne 12, 3) := by decide +kernel
theorem dX9_cuffs_42 : decode cX9_cuffs 42 = .ok (.aload_n 0, 1) := by decide +kernel
theorem dX9_cuffs_43 : decode cX9_cuffs 43 = .ok (.getfield 92, 3) := by decide +kernel
theorem dX9_cuffs_46 : decode cX9_cuffs 46 = .ok (.iload_n 1, 1) := by decide +kernel
theorem dX9_cuffs_47 : decode cX9_cuffs 47 = .ok (.iaload, 1) := by decide +kernel
theorem dX9_cuffs_48 : decode cX9_cuffs 48 = .ok (.ifCond .eq 6, 3) := by decide +kernel
theorem dX9_cuffs_51 : decode cX9_cuffs 51 = .ok (.bipush (-12), 2) := by decide +kernel
theorem dX9_cuffs_53 : decode cX9_cuffs 53 = .ok (.ireturn, 1) := by decide +kernel
theorem dX9_cuffs_54 : decode cX9_cuffs 54 = .ok (.iconst 0, 1) := by decide +kernel
theorem dX9_cuffs_55 : decode cX9_cuffs 55 = .ok (.istore 4, 2) := by decide +kernel
theorem dX9_cuffs_57 : decode cX9_cuffs 57 = .ok (.iload_n 2, 1) := by decide +kernel
theorem dX9_cuffs_58 : decode cX9_cuffs 58 = .ok (.istore 5, 2) := by decide +kernel
theorem dX9_cuffs_60 : decode cX9_cuffs 60 = .ok (.iload 4, 2) := by decide +kernel
theorem dX9_cuffs_62 : decode cX9_cuffs 62 = .ok (.iload_n 3, 1) := by decide +kernel
theorem dX9_cuffs_63 : decode cX9_cuffs 63 = .ok (.if_icmp .ge 121, 3) := by decide +kernel
theorem dX9_cuffs_66 : decode cX9_cuffs 66 = .ok (.iload_n 2, 1) := by decide +kernel
theorem dX9_cuffs_67 : decode cX9_cuffs 67 = .ok (.ifCond .lt 117, 3) := by decide +kernel
theorem dX9_cuffs_70 : decode cX9_cuffs 70 = .ok (.iload 5, 2) := by decide +kernel
theorem dX9_cuffs_72 : decode cX9_cuffs 72 = .ok (.aload_n 0, 1) := by decide +kernel
theorem dX9_cuffs_73 : decode cX9_cuffs 73 = .ok (.getfield 95, 3) := by decide +kernel
theorem dX9_cuffs_76 : decode cX9_cuffs 76 = .ok (.iload_n 1, 1) := by decide +kernel
theorem dX9_cuffs_77 : decode cX9_cuffs 77 = .ok (.iaload, 1) := by decide +kernel
theorem dX9_cuffs_78 : decode cX9_cuffs 78 = .ok (.iconst 3, 1) := by decide +kernel
theorem dX9_cuffs_79 : decode cX9_cuffs 79 = .ok (.isub, 1) := by decide +kernel
theorem dX9_cuffs_80 : decode cX9_cuffs 80 = .ok (.if_icmp .gt 12, 3) := by decide +kernel
theorem dX9_cuffs_83 : decode cX9_cuffs 83 = .ok (.aload_n 0, 1) := by decide +kernel
theorem dX9_cuffs_84 : decode cX9_cuffs 84 = .ok (.getfield 111, 3) := by decide +kernel
theorem dX9_cuffs_87 : decode cX9_cuffs 87 = .ok (.bipush 6, 2) := by decide +kernel
theorem dX9_cuffs_89 : decode cX9_cuffs 89 = .ok (.if_icmp .ne 6, 3) := by decide +kernel
theorem dX9_cuffs_92 : decode cX9_cuffs 92 = .ok (.iload 4, 2) := by decide +kernel
theorem dX9_cuffs_94 : decode cX9_cuffs 94 = .ok (.ireturn, 1) := by decide +kernel
theorem dX9_cuffs_95 : decode cX9_cuffs 95 = .ok (.aload_n 0, 1) := by decide +kernel
theorem dX9_cuffs_96 : decode cX9_cuffs 96 = .ok (.iload_n 1, 1) := by decide +kernel
theorem dX9_cuffs_97 : decode cX9_cuffs 97 = .ok (.iload 5, 2) := by decide +kernel
theorem dX9_cuffs_99 : decode cX9_cuffs 99 = .ok (.invokevirtual 126, 3) := by decide +kernel
theorem dX9_cuffs_102 : decode cX9_cuffs 102 = .ok (.istore 6, 2) := by decide +kernel
theorem dX9_cuffs_104 : decode cX9_cuffs 104 = .ok (.aload_n 0, 1) := by decide +kernel
theorem dX9_cuffs_105 : decode cX9_cuffs 105 = .ok (.iload_n 1, 1) := by decide +kernel
theorem dX9_cuffs_106 : decode cX9_cuffs 106 = .ok (.iload 5, 2) := by decide +kernel
theorem dX9_cuffs_108 : decode cX9_cuffs 108 = .ok (.iconst 1, 1) := by decide +kernel
theorem dX9_cuffs_109 : decode cX9_cuffs 109 = .ok (.iadd, 1) := by decide +kernel
theorem dX9_cuffs_110 : decode cX9_cuffs 110 = .ok (.invokevirtual 126, 3) := by decide +kernel
theorem dX9_cuffs_113 : decode cX9_cuffs 113 = .ok (.istore 7, 2) := by decide +kernel
theorem dX9_cuffs_115 : decode cX9_cuffs 115 = .ok (.aload_n 0, 1) := by decide +kernel
theorem dX9_cuffs_116 : decode cX9_cuffs 116 = .ok (.iload_n 1, 1) := by decide +kernel
theorem dX9_cuffs_117 : decode cX9_cuffs 117 = .ok (.iload 5, 2) := by decide +kernel
theorem dX9_cuffs_119 : decode cX9_cuffs 119 = .ok (.iconst 2, 1) := by decide +kernel
theorem dX9_cuffs_120 : decode cX9_cuffs 120 = .ok (.iadd, 1) := by decide +kernel
theorem dX9_cuffs_121 : decode cX9_cuffs 121 = .ok (.invokevirtual 126, 3) := by decide +kernel
theorem dX9_cuffs_124 : decode cX9_cuffs 124 = .ok (.istore 8, 2) := by decide +kernel
theorem dX9_cuffs_126 : decode cX9_cuffs 126 = .ok (.aload_n 0, 1) := by decide +kernel
theorem dX9_cuffs_127 : decode cX9_cuffs 127 = .ok (.iload 6, 2) := by decide +kernel
theorem dX9_cuffs_129 : decode cX9_cuffs 129 = .ok (.iconst 0, 1) := by decide +kernel
theorem dX9_cuffs_130 : decode cX9_cuffs 130 = .ok (.bipush 9, 2) := by decide +kernel
theorem dX9_cuffs_132 : decode cX9_cuffs 132 = .ok (.invokevirtual 114, 3) := by decide +kernel
theorem dX9_cuffs_135 : decode cX9_cuffs 135 = .ok (.ifCond .eq 26, 3) := by decide +kernel
theorem dX9_cuffs_138 : decode cX9_cuffs 138 = .ok (.aload_n 0, 1) := by decide +kernel
theorem dX9_cuffs_139 : decode cX9_cuffs 139 = .ok (.iload 7, 2) := by decide +kernel
theorem dX9_cuffs_141 : decode cX9_cuffs 141 = .ok (.iconst 0, 1) := by decide +kernel
theorem dX9_cuffs_142 : decode cX9_cuffs 142 = .ok (.bipush 9, 2) := by decide +kernel
theorem dX9_cuffs_144 : decode cX9_cuffs 144 = .ok (.invokevirtual 114, 3) := by decide +kernel
theorem dX9_cuffs_147 : decode cX9_cuffs 147 = .ok (.ifCond .eq 14, 3) := by decide +kernel
theorem dX9_cuffs_150 : decode cX9_cuffs 150 = .ok (.aload_n 0, 1) := by decide +kernel
theorem dX9_cuffs_151 : decode cX9_cuffs 151 = .ok (.iload 8, 2) := by decide +kernel
theorem dX9_cuffs_153 : decode cX9_cuffs 153 = .ok (.iconst 0, 1) := by decide +kernel
theorem dX9_cuffs_154 : decode cX9_cuffs 154 = .ok (.iconst 1, 1) := by decide +kernel
theorem dX9_cuffs_155 : decode cX9_cuffs 155 = .ok (.invokevirtual 114, 3) := by decide +kernel
theorem dX9_cuffs_158 : decode cX9_cuffs 158 = .ok (.ifCond .ne 6, 3) := by decide +kernel
theorem dX9_cuffs_161 : decode cX9_cuffs 161 = .ok (.iload 4, 2) := by decide +kernel
theorem dX9_cuffs_163 : decode cX9_cuffs 163 = .ok (.ireturn, 1) := by decide +kernel
theorem dX9_cuffs_164 : decode cX9_cuffs 164 = .ok (.aload_n 0, 1) := by decide +kernel
theorem dX9_cuffs_165 : decode cX9_cuffs 165 = .ok (.iload 6, 2) := by decide +kernel
theorem dX9_cuffs_167 : decode cX9_cuffs 167 = .ok (.iload 7, 2) := by decide +kernel
theorem dX9_cuffs_169 : decode cX9_cuffs 169 = .ok (.iload 8, 2) := by decide +kernel
theorem dX9_cuffs_171 : decode cX9_cuffs 171 = .ok (.invokevirtual 118, 3) := by decide +kernel
theorem dX9_cuffs_174 : decode cX9_cuffs 174 = .ok (.pop, 1) := by decide +kernel
theorem dX9_cuffs_175 : decode cX9_cuffs 175 = .ok (.iinc 4 1, 3) := by decide +kernel
theorem dX9_cuffs_178 : decode cX9_cuffs 178 = .ok (.iinc 5 3, 3) := by decide +kernel
theorem dX9_cuffs_181 : decode cX9_cuffs 181 = .ok (.goto (-121), 3) := by decide +kernel
theorem dX9_cuffs_184 : decode cX9_cuffs 184 = .ok (.iload 4, 2) := by decide +kernel
theorem dX9_cuffs_186 : decode cX9_cuffs 186 = .ok (.ireturn, 1) := by decide +kernel
theorem dX9_spot_0 : decode cX9_spot 0 = .ok (.aload_n 0, 1) := by decide +kernel
theorem dX9_spot_1 : decode cX9_spot 1 = .ok (.iload_n 1, 1) := by decide +kernel
theorem dX9_spot_2 : decode cX9_spot 2 = .ok (.iconst 1, 1) := by decide +kernel
theorem dX9_spot_3 : decode cX9_spot 3 = .ok (.bipush 99, 2) := by decide +kernel
theorem dX9_spot_5 : decode cX9_spot 5 = .ok (.invokevirtual 114, 3) := by decide +kernel
theorem dX9_spot_8 : decode cX9_spot 8 = .ok (.ifCond .eq 14, 3) := by decide +kernel
theorem dX9_spot_11 : decode cX9_spot 11 = .ok (.aload_n 0, 1) := by decide +kernel
theorem dX9_spot_12 : decode cX9_spot 12 = .ok (.iload_n 2, 1) := by decide +kernel
theorem dX9_spot_13 : decode cX9_spot 13 = .ok (.iconst 1, 1) := by decide +kernel
theorem dX9_spot_14 : decode cX9_spot 14 = .ok (.bipush 99, 2) := by decide +kernel
theorem dX9_spot_16 : decode cX9_spot 16 = .ok (.invokevirtual 114, 3) := by decide +kernel
theorem dX9_spot_19 : decode cX9_spot 19 = .ok (.ifCond .ne 5, 3) := by decide +kernel
theorem dX9_spot_22 : decode cX9_spot 22 = .ok (.iconst (-1), 1) := by decide +kernel
theorem dX9_spot_23 : decode cX9_spot 23 = .ok (.ireturn, 1) := by decide +kernel
theorem dX9_spot_24 : decode cX9_spot 24 = .ok (.aload_n 0, 1) := by decide +kernel
theorem dX9_spot_25 : decode cX9_spot 25 = .ok (.getfield 130, 3) := by decide +kernel
theorem dX9_spot_28 : decode cX9_spot 28 = .ok (.bipush 8, 2) := by decide +kernel
theorem dX9_spot_30 : decode cX9_spot 30 = .ok (.if_icmp .ne 6, 3) := by decide +kernel
theorem dX9_spot_33 : decode cX9_spot 33 = .ok (.bipush (-3), 2) := by decide +kernel
theorem dX9_spot_35 : decode cX9_spot 35 = .ok (.ireturn, 1) := by decide +kernel
theorem dX9_spot_36 : decode cX9_spot 36 = .ok (.aload_n 0, 1) := by decide +kernel
theorem dX9_spot_37 : decode cX9_spot 37 = .ok (.getfield 44, 3) := by decide +kernel
theorem dX9_spot_40 : decode cX9_spot 40 = .ok (.aload_n 0, 1) := by decide +kernel
theorem dX9_spot_41 : decode cX9_spot 41 = .ok (.getfield 130, 3) := by decide +kernel
theorem dX9_spot_44 : decode cX9_spot 44 = .ok (.iload_n 1, 1) := by decide +kernel
theorem dX9_spot_45 : decode cX9_spot 45 = .ok (.iastore, 1) := by decide +kernel
theorem dX9_spot_46 : decode cX9_spot 46 = .ok (.aload_n 0, 1) := by decide +kernel
theorem dX9_spot_47 : decode cX9_spot 47 = .ok (.getfield 47, 3) := by decide +kernel
theorem dX9_spot_50 : decode cX9_spot 50 = .ok (.aload_n 0, 1) := by decide +kernel
theorem dX9_spot_51 : decode cX9_spot 51 = .ok (.getfield 130, 3) := by decide +kernel
theorem dX9_spot_54 : decode cX9_spot 54 = .ok (.iload_n 2, 1) := by decide +kernel
theorem dX9_spot_55 : decode cX9_spot 55 = .ok (.iastore, 1) := by decide +kernel
theorem dX9_spot_56 : decode cX9_spot 56 = .ok (.aload_n 0, 1) := by decide +kernel
theorem dX9_spot_57 : decode cX9_spot 57 = .ok (.dup, 1) := by decide +kernel
theorem dX9_spot_58 : decode cX9_spot 58 = .ok (.getfield 130, 3) := by decide +kernel
theorem dX9_spot_61 : decode cX9_spot 61 = .ok (.dup_x1, 1) := by decide +kernel
theorem dX9_spot_62 : decode cX9_spot 62 = .ok (.iconst 1, 1) := by decide +kernel
theorem dX9_spot_63 : decode cX9_spot 63 = .ok (.iadd, 1) := by decide +kernel
theorem dX9_spot_64 : decode cX9_spot 64 = .ok (.putfield 130, 3) := by decide +kernel
theorem dX9_spot_67 : decode cX9_spot 67 = .ok (.ireturn, 1) := by decide +kernel
theorem dX9_least_0 : decode cX9_least 0 = .ok (.iload_n 1, 1) := by decide +kernel
theorem dX9_least_1 : decode cX9_least 1 = .ok (.ifCond .eq 9, 3) := by decide +kernel
theorem dX9_least_4 : decode cX9_least 4 = .ok (.iload_n 1, 1) := by decide +kernel
theorem dX9_least_5 : decode cX9_least 5 = .ok (.bipush 10, 2) := by decide +kernel
theorem dX9_least_7 : decode cX9_least 7 = .ok (.if_icmp .lt 7, 3) := by decide +kernel
theorem dX9_least_10 : decode cX9_least 10 = .ok (.iconst 1, 1) := by decide +kernel
theorem dX9_least_11 : decode cX9_least 11 = .ok (.goto 4, 3) := by decide +kernel
theorem dX9_least_14 : decode cX9_least 14 = .ok (.iconst 0, 1) := by decide +kernel
theorem dX9_least_15 : decode cX9_least 15 = .ok (.ireturn, 1) := by decide +kernel
theorem dX9_most_0 : decode cX9_most 0 = .ok (.iload_n 1, 1) := by decide +kernel
theorem dX9_most_1 : decode cX9_most 1 = .ok (.iconst 4, 1) := by decide +kernel
theorem dX9_most_2 : decode cX9_most 2 = .ok (.if_icmp .ne 7, 3) := by decide +kernel
theorem dX9_most_5 : decode cX9_most 5 = .ok (.iconst 1, 1) := by decide +kernel
theorem dX9_most_6 : decode cX9_most 6 = .ok (.goto 32, 3) := by decide +kernel
theorem dX9_most_9 : decode cX9_most 9 = .ok (.iload_n 1, 1) := by decide +kernel
theorem dX9_most_10 : decode cX9_most 10 = .ok (.bipush 9, 2) := by decide +kernel
theorem dX9_most_12 : decode cX9_most 12 = .ok (.if_icmp .ne 8, 3) := by decide +kernel
theorem dX9_most_15 : decode cX9_most 15 = .ok (.bipush 11, 2) := by decide +kernel
theorem dX9_most_17 : decode cX9_most 17 = .ok (.goto 21, 3) := by decide +kernel
theorem dX9_most_20 : decode cX9_most 20 = .ok (.iload_n 1, 1) := by decide +kernel
theorem dX9_most_21 : decode cX9_most 21 = .ok (.iconst 3, 1) := by decide +kernel
theorem dX9_most_22 : decode cX9_most 22 = .ok (.if_icmp .le 9, 3) := by decide +kernel
theorem dX9_most_25 : decode cX9_most 25 = .ok (.iload_n 1, 1) := by decide +kernel
theorem dX9_most_26 : decode cX9_most 26 = .ok (.bipush 6, 2) := by decide +kernel
theorem dX9_most_28 : decode cX9_most 28 = .ok (.if_icmp .ne 8, 3) := by decide +kernel
theorem dX9_most_31 : decode cX9_most 31 = .ok (.bipush 9, 2) := by decide +kernel
theorem dX9_most_33 : decode cX9_most 33 = .ok (.goto 5, 3) := by decide +kernel
theorem dX9_most_36 : decode cX9_most 36 = .ok (.bipush 99, 2) := by decide +kernel
theorem dX9_most_38 : decode cX9_most 38 = .ok (.ireturn, 1) := by decide +kernel
theorem dX9_isNumber_0 : decode cX9_isNumber 0 = .ok (.aload_n 0, 1) := by decide +kernel
theorem dX9_isNumber_1 : decode cX9_isNumber 1 = .ok (.iload_n 2, 1) := by decide +kernel
theorem dX9_isNumber_2 : decode cX9_isNumber 2 = .ok (.iconst 0, 1) := by decide +kernel
theorem dX9_isNumber_3 : decode cX9_isNumber 3 = .ok (.iconst 1, 1) := by decide +kernel
theorem dX9_isNumber_4 : decode cX9_isNumber 4 = .ok (.invokevirtual 114, 3) := by decide +kernel
theorem dX9_isNumber_7 : decode cX9_isNumber 7 = .ok (.ifCond .eq 11, 3) := by decide +kernel
theorem dX9_isNumber_10 : decode cX9_isNumber 10 = .ok (.aload_n 0, 1) := by decide +kernel
theorem dX9_isNumber_11 : decode cX9_isNumber 11 = .ok (.iload_n 1, 1) := by decide +kernel
theorem dX9_isNumber_12 : decode cX9_isNumber 12 = .ok (.invokevirtual 133, 3) := by decide +kernel
theorem dX9_isNumber_15 : decode cX9_isNumber 15 = .ok (.ifCond .ne 86, 3) := by decide +kernel
theorem dX9_isNumber_18 : decode cX9_isNumber 18 = .ok (.aload_n 0, 1) := by decide +kernel
theorem dX9_isNumber_19 : decode cX9_isNumber 19 = .ok (.iload_n 2, 1) := by decide +kernel
theorem dX9_isNumber_20 : decode cX9_isNumber 20 = .ok (.iconst 2, 1) := by decide +kernel
theorem dX9_isNumber_21 : decode cX9_isNumber 21 = .ok (.iconst 5, 1) := by decide +kernel
theorem dX9_isNumber_22 : decode cX9_isNumber 22 = .ok (.invokevirtual 114, 3) := by decide +kernel
theorem dX9_isNumber_25 : decode cX9_isNumber 25 = .ok (.ifCond .eq 11, 3) := by decide +kernel
theorem dX9_isNumber_28 : decode cX9_isNumber 28 = .ok (.aload_n 0, 1) := by decide +kernel
theorem dX9_isNumber_29 : decode cX9_isNumber 29 = .ok (.iload_n 1, 1) := by decide +kernel
theorem dX9_isNumber_30 : decode cX9_isNumber 30 = .ok (.invokevirtual 136, 3) := by decide +kernel
theorem dX9_isNumber_33 : decode cX9_isNumber 33 = .ok (.ifCond .ne 68, 3) := by decide +kernel
theorem dX9_isNumber_36 : decode cX9_isNumber 36 = .ok (.aload_n 0, 1) := by decide +kernel
theorem dX9_isNumber_37 : decode cX9_isNumber 37 = .ok (.iload_n 2, 1) := by decide +kernel
theorem dX9_isNumber_38 : decode cX9_isNumber 38 = .ok (.bipush 6, 2) := by decide +kernel
theorem dX9_isNumber_40 : decode cX9_isNumber 40 = .ok (.bipush 8, 2) := by decide +kernel
theorem dX9_isNumber_42 : decode cX9_isNumber 42 = .ok (.invokevirtual 114, 3) := by decide +kernel
theorem dX9_isNumber_45 : decode cX9_isNumber 45 = .ok (.ifCond .eq 13, 3) := by decide +kernel
theorem dX9_isNumber_48 : decode cX9_isNumber 48 = .ok (.aload_n 0, 1) := by decide +kernel
theorem dX9_isNumber_49 : decode cX9_isNumber 49 = .ok (.iload_n 1, 1) := by decide +kernel
theorem dX9_isNumber_50 : decode cX9_isNumber 50 = .ok (.iconst 0, 1) := by decide +kernel
theorem dX9_isNumber_51 : decode cX9_isNumber 51 = .ok (.iconst 1, 1) := by decide +kernel
theorem dX9_isNumber_52 : decode cX9_isNumber 52 = .ok (.invokevirtual 114, 3) := by decide +kernel
theorem dX9_isNumber_55 : decode cX9_isNumber 55 = .ok (.ifCond .ne 46, 3) := by decide +kernel
theorem dX9_isNumber_58 : decode cX9_isNumber 58 = .ok (.aload_n 0, 1) := by decide +kernel
theorem dX9_isNumber_59 : decode cX9_isNumber 59 = .ok (.iload_n 2, 1) := by decide +kernel
theorem dX9_isNumber_60 : decode cX9_isNumber 60 = .ok (.bipush 9, 2) := by decide +kernel
theorem dX9_isNumber_62 : decode cX9_isNumber 62 = .ok (.bipush 10, 2) := by decide +kernel
theorem dX9_isNumber_64 : decode cX9_isNumber 64 = .ok (.invokevirtual 114, 3) := by decide +kernel
theorem dX9_isNumber_67 : decode cX9_isNumber 67 = .ok (.ifCond .eq 7, 3) := by decide +kernel
theorem dX9_isNumber_70 : decode cX9_isNumber 70 = .ok (.iload_n 1, 1) := by decide +kernel
theorem dX9_isNumber_71 : decode cX9_isNumber 71 = .ok (.ifCond .eq 30, 3) := by decide +kernel
theorem dX9_isNumber_74 : decode cX9_isNumber 74 = .ok (.aload_n 0, 1) := by decide +kernel
theorem dX9_isNumber_75 : decode cX9_isNumber 75 = .ok (.iload_n 2, 1) := by decide +kernel
theorem dX9_isNumber_76 : decode cX9_isNumber 76 = .ok (.bipush 11, 2) := by decide +kernel
theorem dX9_isNumber_78 : decode cX9_isNumber 78 = .ok (.bipush 12, 2) := by decide +kernel
theorem dX9_isNumber_80 : decode cX9_isNumber 80 = .ok (.invokevirtual 114, 3) := by decide +kernel
theorem dX9_isNumber_83 : decode cX9_isNumber 83 = .ok (.ifCond .eq 22, 3) := by decide +kernel
theorem dX9_isNumber_86 : decode cX9_isNumber 86 = .ok (.aload_n 0, 1) := by decide +kernel
theorem dX9_isNumber_87 : decode cX9_isNumber 87 = .ok (.iload_n 1, 1) := by decide +kernel
theorem dX9_isNumber_88 : decode cX9_isNumber 88 = .ok (.iconst 0, 1) := by decide +kernel
theorem dX9_isNumber_89 : decode cX9_isNumber 89 = .ok (.aload_n 0, 1) := by decide +kernel
theorem dX9_isNumber_90 : decode cX9_isNumber 90 = .ok (.getfield 130, 3) := by decide +kernel
theorem dX9_isNumber_93 : decode cX9_isNumber 93 = .ok (.iconst 1, 1) := by decide +kernel
theorem dX9_isNumber_94 : decode cX9_isNumber 94 = .ok (.isub, 1) := by decide +kernel
theorem dX9_isNumber_95 : decode cX9_isNumber 95 = .ok (.invokevirtual 114, 3) := by decide +kernel
theorem dX9_isNumber_98 : decode cX9_isNumber 98 = .ok (.ifCond .eq 7, 3) := by decide +kernel
theorem dX9_isNumber_101 : decode cX9_isNumber 101 = .ok (.iconst 1, 1) := by decide +kernel
theorem dX9_isNumber_102 : decode cX9_isNumber 102 = .ok (.goto 4, 3) := by decide +kernel
theorem dX9_isNumber_105 : decode cX9_isNumber 105 = .ok (.iconst 0, 1) := by decide +kernel
theorem dX9_isNumber_106 : decode cX9_isNumber 106 = .ok (.ireturn, 1) := by decide +kernel
theorem dX9_read_0 : decode cX9_read 0 = .ok (.iload_n 2, 1) := by decide +kernel
theorem dX9_read_1 : decode cX9_read 1 = .ok (.tableswitch 143 0 11 #[63, 70, 77, 84, 91, 98, 105, 112, 119, 126, 131, 136], 63) := by decide +kernel
theorem dX9_read_64 : decode cX9_read 64 = .ok (.aload_n 0, 1) := by decide +kernel
theorem dX9_read_65 : decode cX9_read 65 = .ok (.getfield 13, 3) := by decide +kernel
theorem dX9_read_68 : decode cX9_read 68 = .ok (.iload_n 1, 1) := by decide +kernel
theorem dX9_read_69 : decode cX9_read 69 = .ok (.iaload, 1) := by decide +kernel
theorem dX9_read_70 : decode cX9_read 70 = .ok (.ireturn, 1) := by decide +kernel
theorem dX9_read_71 : decode cX9_read 71 = .ok (.aload_n 0, 1) := by decide +kernel
theorem dX9_read_72 : decode cX9_read 72 = .ok (.getfield 17, 3) := by decide +kernel
theorem dX9_read_75 : decode cX9_read 75 = .ok (.iload_n 1, 1) := by decide +kernel
theorem dX9_read_76 : decode cX9_read 76 = .ok (.iaload, 1) := by decide +kernel
theorem dX9_read_77 : decode cX9_read 77 = .ok (.ireturn, 1) := by decide +kernel
theorem dX9_read_78 : decode cX9_read 78 = .ok (.aload_n 0, 1) := by decide +kernel
theorem dX9_read_79 : decode cX9_read 79 = .ok (.getfield 20, 3) := by decide +kernel
theorem dX9_read_82 : decode cX9_read 82 = .ok (.iload_n 1, 1) := by decide +kernel
theorem dX9_read_83 : decode cX9_read 83 = .ok (.iaload, 1) := by decide +kernel
theorem dX9_read_84 : decode cX9_read 84 = .ok (.ireturn, 1) := by decide +kernel
theorem dX9_read_85 : decode cX9_read 85 = .ok (.aload_n 0, 1) := by decide +kernel
theorem dX9_read_86 : decode cX9_read 86 = .ok (.getfield 23, 3) := by decide +kernel
theorem dX9_read_89 : decode cX9_read 89 = .ok (.iload_n 1, 1) := by decide +kernel
theorem dX9_read_90 : decode cX9_read 90 = .ok (.iaload, 1) := by decide +kernel
theorem dX9_read_91 : decode cX9_read 91 = .ok (.ireturn, 1) := by decide +kernel
theorem dX9_read_92 : decode cX9_read 92 = .ok (.aload_n 0, 1) := by decide +kernel
theorem dX9_read_93 : decode cX9_read 93 = .ok (.getfield 26, 3) := by decide +kernel
theorem dX9_read_96 : decode cX9_read 96 = .ok (.iload_n 1, 1) := by decide +kernel
theorem dX9_read_97 : decode cX9_read 97 = .ok (.iaload, 1) := by decide +kernel
theorem dX9_read_98 : decode cX9_read 98 = .ok (.ireturn, 1) := by decide +kernel
theorem dX9_read_99 : decode cX9_read 99 = .ok (.aload_n 0, 1) := by decide +kernel
theorem dX9_read_100 : decode cX9_read 100 = .ok (.getfield 29, 3) := by decide +kernel
theorem dX9_read_103 : decode cX9_read 103 = .ok (.iload_n 1, 1) := by decide +kernel
theorem dX9_read_104 : decode cX9_read 104 = .ok (.iaload, 1) := by decide +kernel
theorem dX9_read_105 : decode cX9_read 105 = .ok (.ireturn, 1) := by decide +kernel
theorem dX9_read_106 : decode cX9_read 106 = .ok (.aload_n 0, 1) := by decide +kernel
theorem dX9_read_107 : decode cX9_read 107 = .ok (.getfield 35, 3) := by decide +kernel
theorem dX9_read_110 : decode cX9_read 110 = .ok (.iload_n 1, 1) := by decide +kernel
theorem dX9_read_111 : decode cX9_read 111 = .ok (.iaload, 1) := by decide +kernel
theorem dX9_read_112 : decode cX9_read 112 = .ok (.ireturn, 1) := by decide +kernel
theorem dX9_read_113 : decode cX9_read 113 = .ok (.aload_n 0, 1) := by decide +kernel
theorem dX9_read_114 : decode cX9_read 114 = .ok (.getfield 38, 3) := by decide +kernel
theorem dX9_read_117 : decode cX9_read 117 = .ok (.iload_n 1, 1) := by decide +kernel
theorem dX9_read_118 : decode cX9_read 118 = .ok (.iaload, 1) := by decide +kernel
theorem dX9_read_119 : decode cX9_read 119 = .ok (.ireturn, 1) := by decide +kernel
theorem dX9_read_120 : decode cX9_read 120 = .ok (.aload_n 0, 1) := by decide +kernel
theorem dX9_read_121 : decode cX9_read 121 = .ok (.getfield 41, 3) := by decide +kernel
theorem dX9_read_124 : decode cX9_read 124 = .ok (.iload_n 1, 1) := by decide +kernel
theorem dX9_read_125 : decode cX9_read 125 = .ok (.iaload, 1) := by decide +kernel
theorem dX9_read_126 : decode cX9_read 126 = .ok (.ireturn, 1) := by decide +kernel
theorem dX9_read_127 : decode cX9_read 127 = .ok (.aload_n 0, 1) := by decide +kernel
theorem dX9_read_128 : decode cX9_read 128 = .ok (.getfield 139, 3) := by decide +kernel
theorem dX9_read_131 : decode cX9_read 131 = .ok (.ireturn, 1) := by decide +kernel
theorem dX9_read_132 : decode cX9_read 132 = .ok (.aload_n 0, 1) := by decide +kernel
theorem dX9_read_133 : decode cX9_read 133 = .ok (.getfield 7, 3) := by decide +kernel
theorem dX9_read_136 : decode cX9_read 136 = .ok (.ireturn, 1) := by decide +kernel
theorem dX9_read_137 : decode cX9_read 137 = .ok (.aload_n 0, 1) := by decide +kernel
theorem dX9_read_138 : decode cX9_read 138 = .ok (.getfield 44, 3) := by decide +kernel
theorem dX9_read_141 : decode cX9_read 141 = .ok (.iload_n 1, 1) := by decide +kernel
theorem dX9_read_142 : decode cX9_read 142 = .ok (.iaload, 1) := by decide +kernel
theorem dX9_read_143 : decode cX9_read 143 = .ok (.ireturn, 1) := by decide +kernel
theorem dX9_read_144 : decode cX9_read 144 = .ok (.aload_n 0, 1) := by decide +kernel
theorem dX9_read_145 : decode cX9_read 145 = .ok (.getfield 47, 3) := by decide +kernel
theorem dX9_read_148 : decode cX9_read 148 = .ok (.iload_n 1, 1) := by decide +kernel
theorem dX9_read_149 : decode cX9_read 149 = .ok (.iaload, 1) := by decide +kernel
theorem dX9_read_150 : decode cX9_read 150 = .ok (.ireturn, 1) := by decide +kernel
theorem dX9_write_0 : decode cX9_write 0 = .ok (.iload_n 2, 1) := by decide +kernel
theorem dX9_write_1 : decode cX9_write 1 = .ok (.tableswitch 179 0 11 #[63, 73, 83, 93, 103, 113, 123, 133, 143, 153, 161, 169], 63) := by decide +kernel
theorem dX9_write_64 : decode cX9_write 64 = .ok (.aload_n 0, 1) := by decide +kernel
theorem dX9_write_65 : decode cX9_write 65 = .ok (.getfield 13, 3) := by decide +kernel
theorem dX9_write_68 : decode cX9_write 68 = .ok (.iload_n 1, 1) := by decide +kernel
theorem dX9_write_69 : decode cX9_write 69 = .ok (.iload_n 3, 1) := by decide +kernel
theorem dX9_write_70 : decode cX9_write 70 = .ok (.iastore, 1) := by decide +kernel
theorem dX9_write_71 : decode cX9_write 71 = .ok (.goto 116, 3) := by decide +kernel
theorem dX9_write_74 : decode cX9_write 74 = .ok (.aload_n 0, 1) := by decide +kernel
theorem dX9_write_75 : decode cX9_write 75 = .ok (.getfield 17, 3) := by decide +kernel
theorem dX9_write_78 : decode cX9_write 78 = .ok (.iload_n 1, 1) := by decide +kernel
theorem dX9_write_79 : decode cX9_write 79 = .ok (.iload_n 3, 1) := by decide +kernel
theorem dX9_write_80 : decode cX9_write 80 = .ok (.iastore, 1) := by decide +kernel
theorem dX9_write_81 : decode cX9_write 81 = .ok (.goto 106, 3) := by decide +kernel
theorem dX9_write_84 : decode cX9_write 84 = .ok (.aload_n 0, 1) := by decide +kernel
theorem dX9_write_85 : decode cX9_write 85 = .ok (.getfield 20, 3) := by decide +kernel
theorem dX9_write_88 : decode cX9_write 88 = .ok (.iload_n 1, 1) := by decide +kernel
theorem dX9_write_89 : decode cX9_write 89 = .ok (.iload_n 3, 1) := by decide +kernel
theorem dX9_write_90 : decode cX9_write 90 = .ok (.iastore, 1) := by decide +kernel
theorem dX9_write_91 : decode cX9_write 91 = .ok (.goto 96, 3) := by decide +kernel
theorem dX9_write_94 : decode cX9_write 94 = .ok (.aload_n 0, 1) := by decide +kernel
theorem dX9_write_95 : decode cX9_write 95 = .ok (.getfield 23, 3) := by decide +kernel
theorem dX9_write_98 : decode cX9_write 98 = .ok (.iload_n 1, 1) := by decide +kernel
theorem dX9_write_99 : decode cX9_write 99 = .ok (.iload_n 3, 1) := by decide +kernel
theorem dX9_write_100 : decode cX9_write 100 = .ok (.iastore, 1) := by decide +kernel
theorem dX9_write_101 : decode cX9_write 101 = .ok (.goto 86, 3) := by decide +kernel
theorem dX9_write_104 : decode cX9_write 104 = .ok (.aload_n 0, 1) := by decide +kernel
theorem dX9_write_105 : decode cX9_write 105 = .ok (.getfield 26, 3) := by decide +kernel
theorem dX9_write_108 : decode cX9_write 108 = .ok (.iload_n 1, 1) := by decide +kernel
theorem dX9_write_109 : decode cX9_write 109 = .ok (.iload_n 3, 1) := by decide +kernel
theorem dX9_write_110 : decode cX9_write 110 = .ok (.iastore, 1) := by decide +kernel
theorem dX9_write_111 : decode cX9_write 111 = .ok (.goto 76, 3) := by decide +kernel
theorem dX9_write_114 : decode cX9_write 114 = .ok (.aload_n 0, 1) := by decide +kernel
theorem dX9_write_115 : decode cX9_write 115 = .ok (.getfield 29, 3) := by decide +kernel
theorem dX9_write_118 : decode cX9_write 118 = .ok (.iload_n 1, 1) := by decide +kernel
theorem dX9_write_119 : decode cX9_write 119 = .ok (.iload_n 3, 1) := by decide +kernel
theorem dX9_write_120 : decode cX9_write 120 = .ok (.iastore, 1) := by decide +kernel
theorem dX9_write_121 : decode cX9_write 121 = .ok (.goto 66, 3) := by decide +kernel
theorem dX9_write_124 : decode cX9_write 124 = .ok (.aload_n 0, 1) := by decide +kernel
theorem dX9_write_125 : decode cX9_write 125 = .ok (.getfield 35, 3) := by decide +kernel
theorem dX9_write_128 : decode cX9_write 128 = .ok (.iload_n 1, 1) := by decide +kernel
theorem dX9_write_129 : decode cX9_write 129 = .ok (.iload_n 3, 1) := by decide +kernel
theorem dX9_write_130 : decode cX9_write 130 = .ok (.iastore, 1) := by decide +kernel
theorem dX9_write_131 : decode cX9_write 131 = .ok (.goto 56, 3) := by decide +kernel
theorem dX9_write_134 : decode cX9_write 134 = .ok (.aload_n 0, 1) := by decide +kernel
theorem dX9_write_135 : decode cX9_write 135 = .ok (.getfield 38, 3) := by decide +kernel
theorem dX9_write_138 : decode cX9_write 138 = .ok (.iload_n 1, 1) := by decide +kernel
theorem dX9_write_139 : decode cX9_write 139 = .ok (.iload_n 3, 1) := by decide +kernel
theorem dX9_write_140 : decode cX9_write 140 = .ok (.iastore, 1) := by decide +kernel
theorem dX9_write_141 : decode cX9_write 141 = .ok (.goto 46, 3) := by decide +kernel
theorem dX9_write_144 : decode cX9_write 144 = .ok (.aload_n 0, 1) := by decide +kernel
theorem dX9_write_145 : decode cX9_write 145 = .ok (.getfield 41, 3) := by decide +kernel
theorem dX9_write_148 : decode cX9_write 148 = .ok (.iload_n 1, 1) := by decide +kernel
theorem dX9_write_149 : decode cX9_write 149 = .ok (.iload_n 3, 1) := by decide +kernel
theorem dX9_write_150 : decode cX9_write 150 = .ok (.iastore, 1) := by decide +kernel
theorem dX9_write_151 : decode cX9_write 151 = .ok (.goto 36, 3) := by decide +kernel
theorem dX9_write_154 : decode cX9_write 154 = .ok (.aload_n 0, 1) := by decide +kernel
theorem dX9_write_155 : decode cX9_write 155 = .ok (.iload_n 3, 1) := by decide +kernel
theorem dX9_write_156 : decode cX9_write 156 = .ok (.putfield 139, 3) := by decide +kernel
theorem dX9_write_159 : decode cX9_write 159 = .ok (.goto 28, 3) := by decide +kernel
theorem dX9_write_162 : decode cX9_write 162 = .ok (.aload_n 0, 1) := by decide +kernel
theorem dX9_write_163 : decode cX9_write 163 = .ok (.iload_n 3, 1) := by decide +kernel
theorem dX9_write_164 : decode cX9_write 164 = .ok (.putfield 7, 3) := by decide +kernel
theorem dX9_write_167 : decode cX9_write 167 = .ok (.goto 20, 3) := by decide +kernel
theorem dX9_write_170 : decode cX9_write 170 = .ok (.aload_n 0, 1) := by decide +kernel
theorem dX9_write_171 : decode cX9_write 171 = .ok (.getfield 44, 3) := by decide +kernel
theorem dX9_write_174 : decode cX9_write 174 = .ok (.iload_n 1, 1) := by decide +kernel
theorem dX9_write_175 : decode cX9_write 175 = .ok (.iload_n 3, 1) := by decide +kernel
theorem dX9_write_176 : decode cX9_write 176 = .ok (.iastore, 1) := by decide +kernel
theorem dX9_write_177 : decode cX9_write 177 = .ok (.goto 10, 3) := by decide +kernel
theorem dX9_write_180 : decode cX9_write 180 = .ok (.aload_n 0, 1) := by decide +kernel
theorem dX9_write_181 : decode cX9_write 181 = .ok (.getfield 47, 3) := by decide +kernel
theorem dX9_write_184 : decode cX9_write 184 = .ok (.iload_n 1, 1) := by decide +kernel
theorem dX9_write_185 : decode cX9_write 185 = .ok (.iload_n 3, 1) := by decide +kernel
theorem dX9_write_186 : decode cX9_write 186 = .ok (.iastore, 1) := by decide +kernel
theorem dX9_write_187 : decode cX9_write 187 = .ok (.return_, 1) := by decide +kernel
theorem dX9_drops_0 : decode cX9_drops 0 = .ok (.iconst 1, 1) := by decide +kernel
theorem dX9_drops_1 : decode cX9_drops 1 = .ok (.istore_n 1, 1) := by decide +kernel
theorem dX9_drops_2 : decode cX9_drops 2 = .ok (.iload_n 1, 1) := by decide +kernel
theorem dX9_drops_3 : decode cX9_drops 3 = .ok (.bipush 40, 2) := by decide +kernel
theorem dX9_drops_5 : decode cX9_drops 5 = .ok (.if_icmp .ge 65, 3) := by decide +kernel
theorem dX9_drops_8 : decode cX9_drops 8 = .ok (.aload_n 0, 1) := by decide +kernel
theorem dX9_drops_9 : decode cX9_drops 9 = .ok (.getfield 56, 3) := by decide +kernel
theorem dX9_drops_12 : decode cX9_drops 12 = .ok (.iload_n 1, 1) := by decide +kernel
theorem dX9_drops_13 : decode cX9_drops 13 = .ok (.iconst 1, 1) := by decide +kernel
theorem dX9_drops_14 : decode cX9_drops 14 = .ok (.isub, 1) := by decide +kernel
theorem dX9_drops_15 : decode cX9_drops 15 = .ok (.aload_n 0, 1) := by decide +kernel
theorem dX9_drops_16 : decode cX9_drops 16 = .ok (.getfield 56, 3) := by decide +kernel
theorem dX9_drops_19 : decode cX9_drops 19 = .ok (.iload_n 1, 1) := by decide +kernel
theorem dX9_drops_20 : decode cX9_drops 20 = .ok (.iaload, 1) := by decide +kernel
theorem dX9_drops_21 : decode cX9_drops 21 = .ok (.iastore, 1) := by decide +kernel
theorem dX9_drops_22 : decode cX9_drops 22 = .ok (.aload_n 0, 1) := by decide +kernel
theorem dX9_drops_23 : decode cX9_drops 23 = .ok (.getfield 59, 3) := by decide +kernel
theorem dX9_drops_26 : decode cX9_drops 26 = .ok (.iload_n 1, 1) := by decide +kernel
theorem dX9_drops_27 : decode cX9_drops 27 = .ok (.iconst 1, 1) := by decide +kernel
theorem dX9_drops_28 : decode cX9_drops 28 = .ok (.isub, 1) := by decide +kernel
theorem dX9_drops_29 : decode cX9_drops 29 = .ok (.aload_n 0, 1) := by decide +kernel
theorem dX9_drops_30 : decode cX9_drops 30 = .ok (.getfield 59, 3) := by decide +kernel
theorem dX9_drops_33 : decode cX9_drops 33 = .ok (.iload_n 1, 1) := by decide +kernel
theorem dX9_drops_34 : decode cX9_drops 34 = .ok (.iaload, 1) := by decide +kernel
theorem dX9_drops_35 : decode cX9_drops 35 = .ok (.iastore, 1) := by decide +kernel
theorem dX9_drops_36 : decode cX9_drops 36 = .ok (.aload_n 0, 1) := by decide +kernel
theorem dX9_drops_37 : decode cX9_drops 37 = .ok (.getfield 62, 3) := by decide +kernel
theorem dX9_drops_40 : decode cX9_drops 40 = .ok (.iload_n 1, 1) := by decide +kernel
theorem dX9_drops_41 : decode cX9_drops 41 = .ok (.iconst 1, 1) := by decide +kernel
theorem dX9_drops_42 : decode cX9_drops 42 = .ok (.isub, 1) := by decide +kernel
theorem dX9_drops_43 : decode cX9_drops 43 = .ok (.aload_n 0, 1) := by decide +kernel
theorem dX9_drops_44 : decode cX9_drops 44 = .ok (.getfield 62, 3) := by decide +kernel
theorem dX9_drops_47 : decode cX9_drops 47 = .ok (.iload_n 1, 1) := by decide +kernel
theorem dX9_drops_48 : decode cX9_drops 48 = .ok (.iaload, 1) := by decide +kernel
theorem dX9_drops_49 : decode cX9_drops 49 = .ok (.iastore, 1) := by decide +kernel
theorem dX9_drops_50 : decode cX9_drops 50 = .ok (.aload_n 0, 1) := by decide +kernel
theorem dX9_drops_51 : decode cX9_drops 51 = .ok (.getfield 65, 3) := by decide +kernel
theorem dX9_drops_54 : decode cX9_drops 54 = .ok (.iload_n 1, 1) := by decide +kernel
theorem dX9_drops_55 : decode cX9_drops 55 = .ok (.iconst 1, 1) := by decide +kernel
theorem dX9_drops_56 : decode cX9_drops 56 = .ok (.isub, 1) := by decide +kernel
theorem dX9_drops_57 : decode cX9_drops 57 = .ok (.aload_n 0, 1) := by decide +kernel
theorem dX9_drops_58 : decode cX9_drops 58 = .ok (.getfield 65, 3) := by decide +kernel
theorem dX9_drops_61 : decode cX9_drops 61 = .ok (.iload_n 1, 1) := by decide +kernel
theorem dX9_drops_62 : decode cX9_drops 62 = .ok (.iaload, 1) := by decide +kernel
theorem dX9_drops_63 : decode cX9_drops 63 = .ok (.iastore, 1) := by decide +kernel
theorem dX9_drops_64 : decode cX9_drops 64 = .ok (.iinc 1 1, 3) := by decide +kernel
theorem dX9_drops_67 : decode cX9_drops 67 = .ok (.goto (-65), 3) := by decide +kernel
theorem dX9_drops_70 : decode cX9_drops 70 = .ok (.aload_n 0, 1) := by decide +kernel
theorem dX9_drops_71 : decode cX9_drops 71 = .ok (.dup, 1) := by decide +kernel
theorem dX9_drops_72 : decode cX9_drops 72 = .ok (.getfield 142, 3) := by decide +kernel
theorem dX9_drops_75 : decode cX9_drops 75 = .ok (.iconst 1, 1) := by decide +kernel
theorem dX9_drops_76 : decode cX9_drops 76 = .ok (.isub, 1) := by decide +kernel
theorem dX9_drops_77 : decode cX9_drops 77 = .ok (.putfield 142, 3) := by decide +kernel
theorem dX9_drops_80 : decode cX9_drops 80 = .ok (.return_, 1) := by decide +kernel
theorem dX9_mend_0 : decode cX9_mend 0 = .ok (.aload_n 0, 1) := by decide +kernel
theorem dX9_mend_1 : decode cX9_mend 1 = .ok (.iload_n 1, 1) := by decide +kernel
theorem dX9_mend_2 : decode cX9_mend 2 = .ok (.iload_n 2, 1) := by decide +kernel
theorem dX9_mend_3 : decode cX9_mend 3 = .ok (.invokevirtual 145, 3) := by decide +kernel
theorem dX9_mend_6 : decode cX9_mend 6 = .ok (.ifCond .eq 21, 3) := by decide +kernel
theorem dX9_mend_9 : decode cX9_mend 9 = .ok (.aload_n 0, 1) := by decide +kernel
theorem dX9_mend_10 : decode cX9_mend 10 = .ok (.iload_n 3, 1) := by decide +kernel
theorem dX9_mend_11 : decode cX9_mend 11 = .ok (.aload_n 0, 1) := by decide +kernel
theorem dX9_mend_12 : decode cX9_mend 12 = .ok (.iload_n 2, 1) := by decide +kernel
theorem dX9_mend_13 : decode cX9_mend 13 = .ok (.invokevirtual 149, 3) := by decide +kernel
theorem dX9_mend_16 : decode cX9_mend 16 = .ok (.aload_n 0, 1) := by decide +kernel
theorem dX9_mend_17 : decode cX9_mend 17 = .ok (.iload_n 2, 1) := by decide +kernel
theorem dX9_mend_18 : decode cX9_mend 18 = .ok (.invokevirtual 153, 3) := by decide +kernel
theorem dX9_mend_21 : decode cX9_mend 21 = .ok (.invokevirtual 114, 3) := by decide +kernel
theorem dX9_mend_24 : decode cX9_mend 24 = .ok (.ifCond .ne 5, 3) := by decide +kernel
theorem dX9_mend_27 : decode cX9_mend 27 = .ok (.iconst (-1), 1) := by decide +kernel
theorem dX9_mend_28 : decode cX9_mend 28 = .ok (.ireturn, 1) := by decide +kernel
theorem dX9_mend_29 : decode cX9_mend 29 = .ok (.aload_n 0, 1) := by decide +kernel
theorem dX9_mend_30 : decode cX9_mend 30 = .ok (.iload_n 1, 1) := by decide +kernel
theorem dX9_mend_31 : decode cX9_mend 31 = .ok (.iload_n 2, 1) := by decide +kernel
theorem dX9_mend_32 : decode cX9_mend 32 = .ok (.invokevirtual 156, 3) := by decide +kernel
theorem dX9_mend_35 : decode cX9_mend 35 = .ok (.istore 4, 2) := by decide +kernel
theorem dX9_mend_37 : decode cX9_mend 37 = .ok (.iload 4, 2) := by decide +kernel
theorem dX9_mend_39 : decode cX9_mend 39 = .ok (.iload_n 3, 1) := by decide +kernel
theorem dX9_mend_40 : decode cX9_mend 40 = .ok (.if_icmp .ne 6, 3) := by decide +kernel
theorem dX9_mend_43 : decode cX9_mend 43 = .ok (.iload 4, 2) := by decide +kernel
theorem dX9_mend_45 : decode cX9_mend 45 = .ok (.ireturn, 1) := by decide +kernel
theorem dX9_mend_46 : decode cX9_mend 46 = .ok (.aload_n 0, 1) := by decide +kernel
theorem dX9_mend_47 : decode cX9_mend 47 = .ok (.getfield 142, 3) := by decide +kernel
theorem dX9_mend_50 : decode cX9_mend 50 = .ok (.bipush 40, 2) := by decide +kernel
theorem dX9_mend_52 : decode cX9_mend 52 = .ok (.if_icmp .ne 7, 3) := by decide +kernel
theorem dX9_mend_55 : decode cX9_mend 55 = .ok (.aload_n 0, 1) := by decide +kernel
theorem dX9_mend_56 : decode cX9_mend 56 = .ok (.invokevirtual 159, 3) := by decide +kernel
theorem dX9_mend_59 : decode cX9_mend 59 = .ok (.aload_n 0, 1) := by decide +kernel
theorem dX9_mend_60 : decode cX9_mend 60 = .ok (.getfield 56, 3) := by decide +kernel
theorem dX9_mend_63 : decode cX9_mend 63 = .ok (.aload_n 0, 1) := by decide +kernel
theorem dX9_mend_64 : decode cX9_mend 64 = .ok (.getfield 142, 3) := by decide +kernel
theorem dX9_mend_67 : decode cX9_mend 67 = .ok (.iload_n 1, 1) := by decide +kernel
theorem dX9_mend_68 : decode cX9_mend 68 = .ok (.iastore, 1) := by decide +kernel
theorem dX9_mend_69 : decode cX9_mend 69 = .ok (.aload_n 0, 1) := by decide +kernel
theorem dX9_mend_70 : decode cX9_mend 70 = .ok (.getfield 59, 3) := by decide +kernel
theorem dX9_mend_73 : decode cX9_mend 73 = .ok (.aload_n 0, 1) := by decide +kernel
theorem dX9_mend_74 : decode cX9_mend 74 = .ok (.getfield 142, 3) := by decide +kernel
theorem dX9_mend_77 : decode cX9_mend 77 = .ok (.iload_n 2, 1) := by decide +kernel
theorem dX9_mend_78 : decode cX9_mend 78 = .ok (.iastore, 1) := by decide +kernel
theorem dX9_mend_79 : decode cX9_mend 79 = .ok (.aload_n 0, 1) := by decide +kernel
theorem dX9_mend_80 : decode cX9_mend 80 = .ok (.getfield 62, 3) := by decide +kernel
theorem dX9_mend_83 : decode cX9_mend 83 = .ok (.aload_n 0, 1) := by decide +kernel
theorem dX9_mend_84 : decode cX9_mend 84 = .ok (.getfield 142, 3) := by decide +kernel
theorem dX9_mend_87 : decode cX9_mend 87 = .ok (.iload 4, 2) := by decide +kernel
theorem dX9_mend_89 : decode cX9_mend 89 = .ok (.iastore, 1) := by decide +kernel
theorem dX9_mend_90 : decode cX9_mend 90 = .ok (.aload_n 0, 1) := by decide +kernel
theorem dX9_mend_91 : decode cX9_mend 91 = .ok (.getfield 65, 3) := by decide +kernel
theorem dX9_mend_94 : decode cX9_mend 94 = .ok (.aload_n 0, 1) := by decide +kernel
theorem dX9_mend_95 : decode cX9_mend 95 = .ok (.getfield 142, 3) := by decide +kernel
theorem dX9_mend_98 : decode cX9_mend 98 = .ok (.iload_n 3, 1) := by decide +kernel
theorem dX9_mend_99 : decode cX9_mend 99 = .ok (.iastore, 1) := by decide +kernel
theorem dX9_mend_100 : decode cX9_mend 100 = .ok (.aload_n 0, 1) := by decide +kernel
theorem dX9_mend_101 : decode cX9_mend 101 = .ok (.dup, 1) := by decide +kernel
theorem dX9_mend_102 : decode cX9_mend 102 = .ok (.getfield 142, 3) := by decide +kernel
theorem dX9_mend_105 : decode cX9_mend 105 = .ok (.iconst 1, 1) := by decide +kernel
theorem dX9_mend_106 : decode cX9_mend 106 = .ok (.iadd, 1) := by decide +kernel
theorem dX9_mend_107 : decode cX9_mend 107 = .ok (.putfield 142, 3) := by decide +kernel
theorem dX9_mend_110 : decode cX9_mend 110 = .ok (.aload_n 0, 1) := by decide +kernel
theorem dX9_mend_111 : decode cX9_mend 111 = .ok (.aload_n 0, 1) := by decide +kernel
theorem dX9_mend_112 : decode cX9_mend 112 = .ok (.getfield 142, 3) := by decide +kernel
theorem dX9_mend_115 : decode cX9_mend 115 = .ok (.putfield 161, 3) := by decide +kernel
theorem dX9_mend_118 : decode cX9_mend 118 = .ok (.aload_n 0, 1) := by decide +kernel
theorem dX9_mend_119 : decode cX9_mend 119 = .ok (.iload_n 1, 1) := by decide +kernel
theorem dX9_mend_120 : decode cX9_mend 120 = .ok (.iload_n 2, 1) := by decide +kernel
theorem dX9_mend_121 : decode cX9_mend 121 = .ok (.iload_n 3, 1) := by decide +kernel
theorem dX9_mend_122 : decode cX9_mend 122 = .ok (.invokevirtual 164, 3) := by decide +kernel
theorem dX9_mend_125 : decode cX9_mend 125 = .ok (.iload 4, 2) := by decide +kernel
theorem dX9_mend_127 : decode cX9_mend 127 = .ok (.ireturn, 1) := by decide +kernel
theorem dX9_undo_0 : decode cX9_undo 0 = .ok (.aload_n 0, 1) := by decide +kernel
theorem dX9_undo_1 : decode cX9_undo 1 = .ok (.getfield 142, 3) := by decide +kernel
theorem dX9_undo_4 : decode cX9_undo 4 = .ok (.ifCond .ne 6, 3) := by decide +kernel
theorem dX9_undo_7 : decode cX9_undo 7 = .ok (.bipush (-5), 2) := by decide +kernel
theorem dX9_undo_9 : decode cX9_undo 9 = .ok (.ireturn, 1) := by decide +kernel
theorem dX9_undo_10 : decode cX9_undo 10 = .ok (.aload_n 0, 1) := by decide +kernel
theorem dX9_undo_11 : decode cX9_undo 11 = .ok (.dup, 1) := by decide +kernel
theorem dX9_undo_12 : decode cX9_undo 12 = .ok (.getfield 142, 3) := by decide +kernel
theorem dX9_undo_15 : decode cX9_undo 15 = .ok (.iconst 1, 1) := by decide +kernel
theorem dX9_undo_16 : decode cX9_undo 16 = .ok (.isub, 1) := by decide +kernel
theorem dX9_undo_17 : decode cX9_undo 17 = .ok (.putfield 142, 3) := by decide +kernel
theorem dX9_undo_20 : decode cX9_undo 20 = .ok (.aload_n 0, 1) := by decide +kernel
theorem dX9_undo_21 : decode cX9_undo 21 = .ok (.aload_n 0, 1) := by decide +kernel
theorem dX9_undo_22 : decode cX9_undo 22 = .ok (.getfield 56, 3) := by decide +kernel
theorem dX9_undo_25 : decode cX9_undo 25 = .ok (.aload_n 0, 1) := by decide +kernel
theorem dX9_undo_26 : decode cX9_undo 26 = .ok (.getfield 142, 3) := by decide +kernel
theorem dX9_undo_29 : decode cX9_undo 29 = .ok (.iaload, 1) := by decide +kernel
theorem dX9_undo_30 : decode cX9_undo 30 = .ok (.aload_n 0, 1) := by decide +kernel
theorem dX9_undo_31 : decode cX9_undo 31 = .ok (.getfield 59, 3) := by decide +kernel
theorem dX9_undo_34 : decode cX9_undo 34 = .ok (.aload_n 0, 1) := by decide +kernel
theorem dX9_undo_35 : decode cX9_undo 35 = .ok (.getfield 142, 3) := by decide +kernel
theorem dX9_undo_38 : decode cX9_undo 38 = .ok (.iaload, 1) := by decide +kernel
theorem dX9_undo_39 : decode cX9_undo 39 = .ok (.aload_n 0, 1) := by decide +kernel
theorem dX9_undo_40 : decode cX9_undo 40 = .ok (.getfield 62, 3) := by decide +kernel
theorem dX9_undo_43 : decode cX9_undo 43 = .ok (.aload_n 0, 1) := by decide +kernel
theorem dX9_undo_44 : decode cX9_undo 44 = .ok (.getfield 142, 3) := by decide +kernel
theorem dX9_undo_47 : decode cX9_undo 47 = .ok (.iaload, 1) := by decide +kernel
theorem dX9_undo_48 : decode cX9_undo 48 = .ok (.invokevirtual 164, 3) := by decide +kernel
theorem dX9_undo_51 : decode cX9_undo 51 = .ok (.aload_n 0, 1) := by decide +kernel
theorem dX9_undo_52 : decode cX9_undo 52 = .ok (.getfield 142, 3) := by decide +kernel
theorem dX9_undo_55 : decode cX9_undo 55 = .ok (.ireturn, 1) := by decide +kernel
theorem dX9_redo_0 : decode cX9_redo 0 = .ok (.aload_n 0, 1) := by decide +kernel
theorem dX9_redo_1 : decode cX9_redo 1 = .ok (.getfield 142, 3) := by decide +kernel
theorem dX9_redo_4 : decode cX9_redo 4 = .ok (.aload_n 0, 1) := by decide +kernel
theorem dX9_redo_5 : decode cX9_redo 5 = .ok (.getfield 161, 3) := by decide +kernel
theorem dX9_redo_8 : decode cX9_redo 8 = .ok (.if_icmp .ne 6, 3) := by decide +kernel
theorem dX9_redo_11 : decode cX9_redo 11 = .ok (.bipush (-5), 2) := by decide +kernel
theorem dX9_redo_13 : decode cX9_redo 13 = .ok (.ireturn, 1) := by decide +kernel
theorem dX9_redo_14 : decode cX9_redo 14 = .ok (.aload_n 0, 1) := by decide +kernel
theorem dX9_redo_15 : decode cX9_redo 15 = .ok (.aload_n 0, 1) := by decide +kernel
theorem dX9_redo_16 : decode cX9_redo 16 = .ok (.getfield 56, 3) := by decide +kernel
theorem dX9_redo_19 : decode cX9_redo 19 = .ok (.aload_n 0, 1) := by decide +kernel
theorem dX9_redo_20 : decode cX9_redo 20 = .ok (.getfield 142, 3) := by decide +kernel
theorem dX9_redo_23 : decode cX9_redo 23 = .ok (.iaload, 1) := by decide +kernel
theorem dX9_redo_24 : decode cX9_redo 24 = .ok (.aload_n 0, 1) := by decide +kernel
theorem dX9_redo_25 : decode cX9_redo 25 = .ok (.getfield 59, 3) := by decide +kernel
theorem dX9_redo_28 : decode cX9_redo 28 = .ok (.aload_n 0, 1) := by decide +kernel
theorem dX9_redo_29 : decode cX9_redo 29 = .ok (.getfield 142, 3) := by decide +kernel
theorem dX9_redo_32 : decode cX9_redo 32 = .ok (.iaload, 1) := by decide +kernel
theorem dX9_redo_33 : decode cX9_redo 33 = .ok (.aload_n 0, 1) := by decide +kernel
theorem dX9_redo_34 : decode cX9_redo 34 = .ok (.getfield 65, 3) := by decide +kernel
theorem dX9_redo_37 : decode cX9_redo 37 = .ok (.aload_n 0, 1) := by decide +kernel
theorem dX9_redo_38 : decode cX9_redo 38 = .ok (.getfield 142, 3) := by decide +kernel
theorem dX9_redo_41 : decode cX9_redo 41 = .ok (.iaload, 1) := by decide +kernel
theorem dX9_redo_42 : decode cX9_redo 42 = .ok (.invokevirtual 164, 3) := by decide +kernel
theorem dX9_redo_45 : decode cX9_redo 45 = .ok (.aload_n 0, 1) := by decide +kernel
theorem dX9_redo_46 : decode cX9_redo 46 = .ok (.dup, 1) := by decide +kernel
theorem dX9_redo_47 : decode cX9_redo 47 = .ok (.getfield 142, 3) := by decide +kernel
theorem dX9_redo_50 : decode cX9_redo 50 = .ok (.iconst 1, 1) := by decide +kernel
theorem dX9_redo_51 : decode cX9_redo 51 = .ok (.iadd, 1) := by decide +kernel
theorem dX9_redo_52 : decode cX9_redo 52 = .ok (.putfield 142, 3) := by decide +kernel
theorem dX9_redo_55 : decode cX9_redo 55 = .ok (.aload_n 0, 1) := by decide +kernel
theorem dX9_redo_56 : decode cX9_redo 56 = .ok (.getfield 161, 3) := by decide +kernel
theorem dX9_redo_59 : decode cX9_redo 59 = .ok (.aload_n 0, 1) := by decide +kernel
theorem dX9_redo_60 : decode cX9_redo 60 = .ok (.getfield 142, 3) := by decide +kernel
theorem dX9_redo_63 : decode cX9_redo 63 = .ok (.isub, 1) := by decide +kernel
theorem dX9_redo_64 : decode cX9_redo 64 = .ok (.ireturn, 1) := by decide +kernel
theorem dX9_of_0 : decode cX9_of 0 = .ok (.iload_n 2, 1) := by decide +kernel
theorem dX9_of_1 : decode cX9_of 1 = .ok (.bipush 13, 2) := by decide +kernel
theorem dX9_of_3 : decode cX9_of 3 = .ok (.if_icmp .ne 18, 3) := by decide +kernel
theorem dX9_of_6 : decode cX9_of 6 = .ok (.aload_n 0, 1) := by decide +kernel
theorem dX9_of_7 : decode cX9_of 7 = .ok (.iload_n 1, 1) := by decide +kernel
theorem dX9_of_8 : decode cX9_of 8 = .ok (.invokevirtual 136, 3) := by decide +kernel
theorem dX9_of_11 : decode cX9_of 11 = .ok (.ifCond .eq 10, 3) := by decide +kernel
theorem dX9_of_14 : decode cX9_of 14 = .ok (.aload_n 0, 1) := by decide +kernel
theorem dX9_of_15 : decode cX9_of 15 = .ok (.getfield 32, 3) := by decide +kernel
theorem dX9_of_18 : decode cX9_of 18 = .ok (.iload_n 1, 1) := by decide +kernel
theorem dX9_of_19 : decode cX9_of 19 = .ok (.iaload, 1) := by decide +kernel
theorem dX9_of_20 : decode cX9_of 20 = .ok (.ireturn, 1) := by decide +kernel
theorem dX9_of_21 : decode cX9_of 21 = .ok (.aload_n 0, 1) := by decide +kernel
theorem dX9_of_22 : decode cX9_of 22 = .ok (.iload_n 1, 1) := by decide +kernel
theorem dX9_of_23 : decode cX9_of 23 = .ok (.iload_n 2, 1) := by decide +kernel
theorem dX9_of_24 : decode cX9_of 24 = .ok (.invokevirtual 145, 3) := by decide +kernel
theorem dX9_of_27 : decode cX9_of 27 = .ok (.ifCond .eq 12, 3) := by decide +kernel
theorem dX9_of_30 : decode cX9_of 30 = .ok (.aload_n 0, 1) := by decide +kernel
theorem dX9_of_31 : decode cX9_of 31 = .ok (.iload_n 1, 1) := by decide +kernel
theorem dX9_of_32 : decode cX9_of 32 = .ok (.iload_n 2, 1) := by decide +kernel
theorem dX9_of_33 : decode cX9_of 33 = .ok (.invokevirtual 156, 3) := by decide +kernel
theorem dX9_of_36 : decode cX9_of 36 = .ok (.goto 4, 3) := by decide +kernel
theorem dX9_of_39 : decode cX9_of 39 = .ok (.iconst (-1), 1) := by decide +kernel
theorem dX9_of_40 : decode cX9_of 40 = .ok (.ireturn, 1) := by decide +kernel
theorem dX9_feed_0 : decode cX9_feed 0 = .ok (.aload_n 0, 1) := by decide +kernel
theorem dX9_feed_1 : decode cX9_feed 1 = .ok (.iload_n 1, 1) := by decide +kernel
theorem dX9_feed_2 : decode cX9_feed 2 = .ok (.iconst 0, 1) := by decide +kernel
theorem dX9_feed_3 : decode cX9_feed 3 = .ok (.sipush 255, 3) := by decide +kernel
theorem dX9_feed_6 : decode cX9_feed 6 = .ok (.invokevirtual 114, 3) := by decide +kernel
theorem dX9_feed_9 : decode cX9_feed 9 = .ok (.ifCond .ne 5, 3) := by decide +kernel
theorem dX9_feed_12 : decode cX9_feed 12 = .ok (.iconst (-1), 1) := by decide +kernel
theorem dX9_feed_13 : decode cX9_feed 13 = .ok (.ireturn, 1) := by decide +kernel
theorem dX9_feed_14 : decode cX9_feed 14 = .ok (.aload_n 0, 1) := by decide +kernel
theorem dX9_feed_15 : decode cX9_feed 15 = .ok (.getfield 168, 3) := by decide +kernel
theorem dX9_feed_18 : decode cX9_feed 18 = .ok (.bipush 120, 2) := by decide +kernel
theorem dX9_feed_20 : decode cX9_feed 20 = .ok (.if_icmp .ne 6, 3) := by decide +kernel
theorem dX9_feed_23 : decode cX9_feed 23 = .ok (.bipush (-3), 2) := by decide +kernel
theorem dX9_feed_25 : decode cX9_feed 25 = .ok (.ireturn, 1) := by decide +kernel
theorem dX9_feed_26 : decode cX9_feed 26 = .ok (.aload_n 0, 1) := by decide +kernel
theorem dX9_feed_27 : decode cX9_feed 27 = .ok (.getfield 50, 3) := by decide +kernel
theorem dX9_feed_30 : decode cX9_feed 30 = .ok (.aload_n 0, 1) := by decide +kernel
theorem dX9_feed_31 : decode cX9_feed 31 = .ok (.getfield 168, 3) := by decide +kernel
theorem dX9_feed_34 : decode cX9_feed 34 = .ok (.iload_n 1, 1) := by decide +kernel
theorem dX9_feed_35 : decode cX9_feed 35 = .ok (.iastore, 1) := by decide +kernel
theorem dX9_feed_36 : decode cX9_feed 36 = .ok (.aload_n 0, 1) := by decide +kernel
theorem dX9_feed_37 : decode cX9_feed 37 = .ok (.dup, 1) := by decide +kernel
theorem dX9_feed_38 : decode cX9_feed 38 = .ok (.getfield 168, 3) := by decide +kernel
theorem dX9_feed_41 : decode cX9_feed 41 = .ok (.iconst 1, 1) := by decide +kernel
theorem dX9_feed_42 : decode cX9_feed 42 = .ok (.iadd, 1) := by decide +kernel
theorem dX9_feed_43 : decode cX9_feed 43 = .ok (.putfield 168, 3) := by decide +kernel
theorem dX9_feed_46 : decode cX9_feed 46 = .ok (.aload_n 0, 1) := by decide +kernel
theorem dX9_feed_47 : decode cX9_feed 47 = .ok (.getfield 168, 3) := by decide +kernel
theorem dX9_feed_50 : decode cX9_feed 50 = .ok (.ireturn, 1) := by decide +kernel
theorem dX9_next_0 : decode cX9_next 0 = .ok (.aload_n 0, 1) := by decide +kernel
theorem dX9_next_1 : decode cX9_next 1 = .ok (.getfield 171, 3) := by decide +kernel
theorem dX9_next_4 : decode cX9_next 4 = .ok (.aload_n 0, 1) := by decide +kernel
theorem dX9_next_5 : decode cX9_next 5 = .ok (.getfield 168, 3) := by decide +kernel
theorem dX9_next_8 : decode cX9_next 8 = .ok (.if_icmp .ge 15, 3) := by decide +kernel
theorem dX9_next_11 : decode cX9_next 11 = .ok (.aload_n 0, 1) := by decide +kernel
theorem dX9_next_12 : decode cX9_next 12 = .ok (.getfield 50, 3) := by decide +kernel
theorem dX9_next_15 : decode cX9_next 15 = .ok (.aload_n 0, 1) := by decide +kernel
theorem dX9_next_16 : decode cX9_next 16 = .ok (.getfield 171, 3) := by decide +kernel
theorem dX9_next_19 : decode cX9_next 19 = .ok (.iaload, 1) := by decide +kernel
theorem dX9_next_20 : decode cX9_next 20 = .ok (.goto 4, 3) := by decide +kernel
theorem dX9_next_23 : decode cX9_next 23 = .ok (.iconst (-1), 1) := by decide +kernel
theorem dX9_next_24 : decode cX9_next 24 = .ok (.ireturn, 1) := by decide +kernel
theorem dX9_isNext_0 : decode cX9_isNext 0 = .ok (.aload_n 0, 1) := by decide +kernel
theorem dX9_isNext_1 : decode cX9_isNext 1 = .ok (.getfield 174, 3) := by decide +kernel
theorem dX9_isNext_4 : decode cX9_isNext 4 = .ok (.ifCond .eq 11, 3) := by decide +kernel
theorem dX9_isNext_7 : decode cX9_isNext 7 = .ok (.aload_n 0, 1) := by decide +kernel
theorem dX9_isNext_8 : decode cX9_isNext 8 = .ok (.invokevirtual 178, 3) := by decide +kernel
theorem dX9_isNext_11 : decode cX9_isNext 11 = .ok (.iload_n 1, 1) := by decide +kernel
theorem dX9_isNext_12 : decode cX9_isNext 12 = .ok (.if_icmp .eq 5, 3) := by decide +kernel
theorem dX9_isNext_15 : decode cX9_isNext 15 = .ok (.iconst 0, 1) := by decide +kernel
theorem dX9_isNext_16 : decode cX9_isNext 16 = .ok (.ireturn, 1) := by decide +kernel
theorem dX9_isNext_17 : decode cX9_isNext 17 = .ok (.aload_n 0, 1) := by decide +kernel
theorem dX9_isNext_18 : decode cX9_isNext 18 = .ok (.dup, 1) := by decide +kernel
theorem dX9_isNext_19 : decode cX9_isNext 19 = .ok (.getfield 171, 3) := by decide +kernel
theorem dX9_isNext_22 : decode cX9_isNext 22 = .ok (.iconst 1, 1) := by decide +kernel
theorem dX9_isNext_23 : decode cX9_isNext 23 = .ok (.iadd, 1) := by decide +kernel
theorem dX9_isNext_24 : decode cX9_isNext 24 = .ok (.putfield 171, 3) := by decide +kernel
theorem dX9_isNext_27 : decode cX9_isNext 27 = .ok (.iconst 1, 1) := by decide +kernel
theorem dX9_isNext_28 : decode cX9_isNext 28 = .ok (.ireturn, 1) := by decide +kernel
theorem dX9_isDigit_0 : decode cX9_isDigit 0 = .ok (.iload_n 1, 1) := by decide +kernel
theorem dX9_isDigit_1 : decode cX9_isDigit 1 = .ok (.bipush 48, 2) := by decide +kernel
theorem dX9_isDigit_3 : decode cX9_isDigit 3 = .ok (.if_icmp .lt 13, 3) := by decide +kernel
theorem dX9_isDigit_6 : decode cX9_isDigit 6 = .ok (.iload_n 1, 1) := by decide +kernel
theorem dX9_isDigit_7 : decode cX9_isDigit 7 = .ok (.bipush 57, 2) := by decide +kernel
theorem dX9_isDigit_9 : decode cX9_isDigit 9 = .ok (.if_icmp .gt 7, 3) := by decide +kernel
theorem dX9_isDigit_12 : decode cX9_isDigit 12 = .ok (.iconst 1, 1) := by decide +kernel
theorem dX9_isDigit_13 : decode cX9_isDigit 13 = .ok (.goto 4, 3) := by decide +kernel
theorem dX9_isDigit_16 : decode cX9_isDigit 16 = .ok (.iconst 0, 1) := by decide +kernel
theorem dX9_isDigit_17 : decode cX9_isDigit 17 = .ok (.ireturn, 1) := by decide +kernel
theorem dX9_isName_0 : decode cX9_isName 0 = .ok (.iload_n 1, 1) := by decide +kernel
theorem dX9_isName_1 : decode cX9_isName 1 = .ok (.bipush 104, 2) := by decide +kernel
theorem dX9_isName_3 : decode cX9_isName 3 = .ok (.if_icmp .eq 33, 3) := by decide +kernel
theorem dX9_isName_6 : decode cX9_isName 6 = .ok (.iload_n 1, 1) := by decide +kernel
theorem dX9_isName_7 : decode cX9_isName 7 = .ok (.bipush 108, 2) := by decide +kernel
theorem dX9_isName_9 : decode cX9_isName 9 = .ok (.if_icmp .eq 27, 3) := by decide +kernel
theorem dX9_isName_12 : decode cX9_isName 12 = .ok (.iload_n 1, 1) := by decide +kernel
theorem dX9_isName_13 : decode cX9_isName 13 = .ok (.bipush 111, 2) := by decide +kernel
theorem dX9_isName_15 : decode cX9_isName 15 = .ok (.if_icmp .eq 21, 3) := by decide +kernel
theorem dX9_isName_18 : decode cX9_isName 18 = .ok (.iload_n 1, 1) := by decide +kernel
theorem dX9_isName_19 : decode cX9_isName 19 = .ok (.bipush 115, 2) := by decide +kernel
theorem dX9_isName_21 : decode cX9_isName 21 = .ok (.if_icmp .eq 15, 3) := by decide +kernel
theorem dX9_isName_24 : decode cX9_isName 24 = .ok (.iload_n 1, 1) := by decide +kernel
theorem dX9_isName_25 : decode cX9_isName 25 = .ok (.bipush 110, 2) := by decide +kernel
theorem dX9_isName_27 : decode cX9_isName 27 = .ok (.if_icmp .eq 9, 3) := by decide +kernel
theorem dX9_isName_30 : decode cX9_isName 30 = .ok (.iload_n 1, 1) := by decide +kernel
theorem dX9_isName_31 : decode cX9_isName 31 = .ok (.bipush 99, 2) := by decide +kernel
theorem dX9_isName_33 : decode cX9_isName 33 = .ok (.if_icmp .ne 7, 3) := by decide +kernel
theorem dX9_isName_36 : decode cX9_isName 36 = .ok (.iconst 1, 1) := by decide +kernel
theorem dX9_isName_37 : decode cX9_isName 37 = .ok (.goto 4, 3) := by decide +kernel
theorem dX9_isName_40 : decode cX9_isName 40 = .ok (.iconst 0, 1) := by decide +kernel
theorem dX9_isName_41 : decode cX9_isName 41 = .ok (.ireturn, 1) := by decide +kernel
theorem dX9_readsO_0 : decode cX9_readsO 0 = .ok (.aload_n 0, 1) := by decide +kernel
theorem dX9_readsO_1 : decode cX9_readsO 1 = .ok (.getfield 174, 3) := by decide +kernel
theorem dX9_readsO_4 : decode cX9_readsO 4 = .ok (.ifCond .ne 4, 3) := by decide +kernel
theorem dX9_readsO_7 : decode cX9_readsO 7 = .ok (.return_, 1) := by decide +kernel
theorem dX9_readsO_8 : decode cX9_readsO 8 = .ok (.aload_n 0, 1) := by decide +kernel
theorem dX9_readsO_9 : decode cX9_readsO 9 = .ok (.invokevirtual 178, 3) := by decide +kernel
theorem dX9_readsO_12 : decode cX9_readsO 12 = .ok (.istore_n 1, 1) := by decide +kernel
theorem dX9_readsO_13 : decode cX9_readsO 13 = .ok (.aload_n 0, 1) := by decide +kernel
theorem dX9_readsO_14 : decode cX9_readsO 14 = .ok (.iload_n 1, 1) := by decide +kernel
theorem dX9_readsO_15 : decode cX9_readsO 15 = .ok (.invokevirtual 182, 3) := by decide +kernel
theorem dX9_readsO_18 : decode cX9_readsO 18 = .ok (.ifCond .eq 38, 3) := by decide +kernel
theorem dX9_readsO_21 : decode cX9_readsO 21 = .ok (.iconst 0, 1) := by decide +kernel
theorem dX9_readsO_22 : decode cX9_readsO 22 = .ok (.istore_n 2, 1) := by decide +kernel
theorem dX9_readsO_23 : decode cX9_readsO 23 = .ok (.iload_n 2, 1) := by decide +kernel
theorem dX9_readsO_24 : decode cX9_readsO 24 = .ok (.iconst 4, 1) := by decide +kernel
theorem dX9_readsO_25 : decode cX9_readsO 25 = .ok (.if_icmp .ge 30, 3) := by decide +kernel
theorem dX9_readsO_28 : decode cX9_readsO 28 = .ok (.aload_n 0, 1) := by decide +kernel
theorem dX9_readsO_29 : decode cX9_readsO 29 = .ok (.aload_n 0, 1) := by decide +kernel
theorem dX9_readsO_30 : decode cX9_readsO 30 = .ok (.invokevirtual 178, 3) := by decide +kernel
theorem dX9_readsO_33 : decode cX9_readsO 33 = .ok (.invokevirtual 182, 3) := by decide +kernel
theorem dX9_readsO_36 : decode cX9_readsO 36 = .ok (.ifCond .eq 19, 3) := by decide +kernel
theorem dX9_readsO_39 : decode cX9_readsO 39 = .ok (.aload_n 0, 1) := by decide +kernel
theorem dX9_readsO_40 : decode cX9_readsO 40 = .ok (.dup, 1) := by decide +kernel
theorem dX9_readsO_41 : decode cX9_readsO 41 = .ok (.getfield 171, 3) := by decide +kernel
theorem dX9_readsO_44 : decode cX9_readsO 44 = .ok (.iconst 1, 1) := by decide +kernel
theorem dX9_readsO_45 : decode cX9_readsO 45 = .ok (.iadd, 1) := by decide +kernel
theorem dX9_readsO_46 : decode cX9_readsO 46 = .ok (.putfield 171, 3) := by decide +kernel
theorem dX9_readsO_49 : decode cX9_readsO 49 = .ok (.iinc 2 1, 3) := by decide +kernel
theorem dX9_readsO_52 : decode cX9_readsO 52 = .ok (.goto (-29), 3) := by decide +kernel
theorem dX9_readsO_55 : decode cX9_readsO 55 = .ok (.return_, 1) := by decide +kernel
theorem dX9_readsO_56 : decode cX9_readsO 56 = .ok (.aload_n 0, 1) := by decide +kernel
theorem dX9_readsO_57 : decode cX9_readsO 57 = .ok (.iload_n 1, 1) := by decide +kernel
theorem dX9_readsO_58 : decode cX9_readsO 58 = .ok (.invokevirtual 185, 3) := by decide +kernel
theorem dX9_readsO_61 : decode cX9_readsO 61 = .ok (.ifCond .eq 14, 3) := by decide +kernel
theorem dX9_readsO_64 : decode cX9_readsO 64 = .ok (.aload_n 0, 1) := by decide +kernel
theorem dX9_readsO_65 : decode cX9_readsO 65 = .ok (.dup, 1) := by decide +kernel
theorem dX9_readsO_66 : decode cX9_readsO 66 = .ok (.getfield 171, 3) := by decide +kernel
theorem dX9_readsO_69 : decode cX9_readsO 69 = .ok (.iconst 1, 1) := by decide +kernel
theorem dX9_readsO_70 : decode cX9_readsO 70 = .ok (.iadd, 1) := by decide +kernel
theorem dX9_readsO_71 : decode cX9_readsO 71 = .ok (.putfield 171, 3) := by decide +kernel
theorem dX9_readsO_74 : decode cX9_readsO 74 = .ok (.return_, 1) := by decide +kernel
theorem dX9_readsO_75 : decode cX9_readsO 75 = .ok (.iload_n 1, 1) := by decide +kernel
theorem dX9_readsO_76 : decode cX9_readsO 76 = .ok (.bipush 33, 2) := by decide +kernel
theorem dX9_readsO_78 : decode cX9_readsO 78 = .ok (.if_icmp .eq 15, 3) := by decide +kernel
theorem dX9_readsO_81 : decode cX9_readsO 81 = .ok (.iload_n 1, 1) := by decide +kernel
theorem dX9_readsO_82 : decode cX9_readsO 82 = .ok (.bipush 45, 2) := by decide +kernel
theorem dX9_readsO_84 : decode cX9_readsO 84 = .ok (.if_icmp .eq 9, 3) := by decide +kernel
theorem dX9_readsO_87 : decode cX9_readsO 87 = .ok (.iload_n 1, 1) := by decide +kernel
theorem dX9_readsO_88 : decode cX9_readsO 88 = .ok (.bipush 40, 2) := by decide +kernel
theorem dX9_readsO_90 : decode cX9_readsO 90 = .ok (.if_icmp .ne 12, 3) := by decide +kernel
theorem dX9_readsO_93 : decode cX9_readsO 93 = .ok (.aload_n 0, 1) := by decide +kernel
theorem dX9_readsO_94 : decode cX9_readsO 94 = .ok (.getfield 188, 3) := by decide +kernel
theorem dX9_readsO_97 : decode cX9_readsO 97 = .ok (.bipush 6, 2) := by decide +kernel
theorem dX9_readsO_99 : decode cX9_readsO 99 = .ok (.if_icmp .ne 9, 3) := by decide +kernel
theorem dX9_readsO_102 : decode cX9_readsO 102 = .ok (.aload_n 0, 1) := by decide +kernel
theorem dX9_readsO_103 : decode cX9_readsO 103 = .ok (.iconst 0, 1) := by decide +kernel
theorem dX9_readsO_104 : decode cX9_readsO 104 = .ok (.putfield 174, 3) := by decide +kernel
theorem dX9_readsO_107 : decode cX9_readsO 107 = .ok (.return_, 1) := by decide +kernel
theorem dX9_readsO_108 : decode cX9_readsO 108 = .ok (.aload_n 0, 1) := by decide +kernel
theorem dX9_readsO_109 : decode cX9_readsO 109 = .ok (.dup, 1) := by decide +kernel
