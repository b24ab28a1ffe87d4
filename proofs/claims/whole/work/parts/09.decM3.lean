theorem dX9_planMatter_157 : decode cX9_planMatter 157 = .ok (.ior, 1) := by decide +kernel
theorem dX9_planMatter_158 : decode cX9_planMatter 158 = .ok (.invokevirtual 529, 3) := by decide +kernel
theorem dX9_planMatter_161 : decode cX9_planMatter 161 = .ok (.return_, 1) := by decide +kernel
theorem dX9_seekBest_0 : decode cX9_seekBest 0 = .ok (.aload_n 0, 1) := by decide +kernel
theorem dX9_seekBest_1 : decode cX9_seekBest 1 = .ok (.dup, 1) := by decide +kernel
theorem dX9_seekBest_2 : decode cX9_seekBest 2 = .ok (.getfield 511, 3) := by decide +kernel
theorem dX9_seekBest_5 : decode cX9_seekBest 5 = .ok (.iconst 1, 1) := by decide +kernel
theorem dX9_seekBest_6 : decode cX9_seekBest 6 = .ok (.iadd, 1) := by decide +kernel
theorem dX9_seekBest_7 : decode cX9_seekBest 7 = .ok (.putfield 511, 3) := by decide +kernel
theorem dX9_seekBest_10 : decode cX9_seekBest 10 = .ok (.aload_n 0, 1) := by decide +kernel
theorem dX9_seekBest_11 : decode cX9_seekBest 11 = .ok (.iconst 0, 1) := by decide +kernel
theorem dX9_seekBest_12 : decode cX9_seekBest 12 = .ok (.putfield 514, 3) := by decide +kernel
theorem dX9_seekBest_15 : decode cX9_seekBest 15 = .ok (.aload_n 0, 1) := by decide +kernel
theorem dX9_seekBest_16 : decode cX9_seekBest 16 = .ok (.iload_n 2, 1) := by decide +kernel
theorem dX9_seekBest_17 : decode cX9_seekBest 17 = .ok (.putfield 532, 3) := by decide +kernel
theorem dX9_seekBest_20 : decode cX9_seekBest 20 = .ok (.aload_n 0, 1) := by decide +kernel
theorem dX9_seekBest_21 : decode cX9_seekBest 21 = .ok (.iload_n 3, 1) := by decide +kernel
theorem dX9_seekBest_22 : decode cX9_seekBest 22 = .ok (.putfield 535, 3) := by decide +kernel
theorem dX9_seekBest_25 : decode cX9_seekBest 25 = .ok (.aload_n 0, 1) := by decide +kernel
theorem dX9_seekBest_26 : decode cX9_seekBest 26 = .ok (.iconst 0, 1) := by decide +kernel
theorem dX9_seekBest_27 : decode cX9_seekBest 27 = .ok (.putfield 520, 3) := by decide +kernel
theorem dX9_seekBest_30 : decode cX9_seekBest 30 = .ok (.aload_n 0, 1) := by decide +kernel
theorem dX9_seekBest_31 : decode cX9_seekBest 31 = .ok (.iconst 0, 1) := by decide +kernel
theorem dX9_seekBest_32 : decode cX9_seekBest 32 = .ok (.putfield 526, 3) := by decide +kernel
theorem dX9_seekBest_35 : decode cX9_seekBest 35 = .ok (.aload_n 0, 1) := by decide +kernel
theorem dX9_seekBest_36 : decode cX9_seekBest 36 = .ok (.iconst (-1), 1) := by decide +kernel
theorem dX9_seekBest_37 : decode cX9_seekBest 37 = .ok (.putfield 523, 3) := by decide +kernel
theorem dX9_seekBest_40 : decode cX9_seekBest 40 = .ok (.aload_n 0, 1) := by decide +kernel
theorem dX9_seekBest_41 : decode cX9_seekBest 41 = .ok (.aload_n 0, 1) := by decide +kernel
theorem dX9_seekBest_42 : decode cX9_seekBest 42 = .ok (.iload 4, 2) := by decide +kernel
theorem dX9_seekBest_44 : decode cX9_seekBest 44 = .ok (.invokevirtual 541, 3) := by decide +kernel
theorem dX9_seekBest_47 : decode cX9_seekBest 47 = .ok (.invokevirtual 529, 3) := by decide +kernel
theorem dX9_seekBest_50 : decode cX9_seekBest 50 = .ok (.aload_n 0, 1) := by decide +kernel
theorem dX9_seekBest_51 : decode cX9_seekBest 51 = .ok (.iconst 0, 1) := by decide +kernel
theorem dX9_seekBest_52 : decode cX9_seekBest 52 = .ok (.putfield 520, 3) := by decide +kernel
theorem dX9_seekBest_55 : decode cX9_seekBest 55 = .ok (.aload_n 0, 1) := by decide +kernel
theorem dX9_seekBest_56 : decode cX9_seekBest 56 = .ok (.iconst 0, 1) := by decide +kernel
theorem dX9_seekBest_57 : decode cX9_seekBest 57 = .ok (.putfield 526, 3) := by decide +kernel
theorem dX9_seekBest_60 : decode cX9_seekBest 60 = .ok (.iconst 0, 1) := by decide +kernel
theorem dX9_seekBest_61 : decode cX9_seekBest 61 = .ok (.istore 5, 2) := by decide +kernel
theorem dX9_seekBest_63 : decode cX9_seekBest 63 = .ok (.aload_n 0, 1) := by decide +kernel
theorem dX9_seekBest_64 : decode cX9_seekBest 64 = .ok (.iconst 0, 1) := by decide +kernel
theorem dX9_seekBest_65 : decode cX9_seekBest 65 = .ok (.putfield 523, 3) := by decide +kernel
theorem dX9_seekBest_68 : decode cX9_seekBest 68 = .ok (.aload_n 0, 1) := by decide +kernel
theorem dX9_seekBest_69 : decode cX9_seekBest 69 = .ok (.getfield 523, 3) := by decide +kernel
theorem dX9_seekBest_72 : decode cX9_seekBest 72 = .ok (.iload_n 1, 1) := by decide +kernel
theorem dX9_seekBest_73 : decode cX9_seekBest 73 = .ok (.if_icmp .ge 95, 3) := by decide +kernel
theorem dX9_seekBest_76 : decode cX9_seekBest 76 = .ok (.aload_n 0, 1) := by decide +kernel
theorem dX9_seekBest_77 : decode cX9_seekBest 77 = .ok (.getfield 514, 3) := by decide +kernel
theorem dX9_seekBest_80 : decode cX9_seekBest 80 = .ok (.istore 6, 2) := by decide +kernel
theorem dX9_seekBest_82 : decode cX9_seekBest 82 = .ok (.iload 5, 2) := by decide +kernel
theorem dX9_seekBest_84 : decode cX9_seekBest 84 = .ok (.iload 6, 2) := by decide +kernel
theorem dX9_seekBest_86 : decode cX9_seekBest 86 = .ok (.if_icmp .ge 69, 3) := by decide +kernel
theorem dX9_seekBest_89 : decode cX9_seekBest 89 = .ok (.aload_n 0, 1) := by decide +kernel
theorem dX9_seekBest_90 : decode cX9_seekBest 90 = .ok (.aload_n 0, 1) := by decide +kernel
theorem dX9_seekBest_91 : decode cX9_seekBest 91 = .ok (.getfield 128, 3) := by decide +kernel
theorem dX9_seekBest_94 : decode cX9_seekBest 94 = .ok (.iload 5, 2) := by decide +kernel
theorem dX9_seekBest_96 : decode cX9_seekBest 96 = .ok (.iaload, 1) := by decide +kernel
theorem dX9_seekBest_97 : decode cX9_seekBest 97 = .ok (.invokevirtual 544, 3) := by decide +kernel
theorem dX9_seekBest_100 : decode cX9_seekBest 100 = .ok (.iconst 0, 1) := by decide +kernel
theorem dX9_seekBest_101 : decode cX9_seekBest 101 = .ok (.istore 7, 2) := by decide +kernel
theorem dX9_seekBest_103 : decode cX9_seekBest 103 = .ok (.iload 7, 2) := by decide +kernel
theorem dX9_seekBest_105 : decode cX9_seekBest 105 = .ok (.aload_n 0, 1) := by decide +kernel
theorem dX9_seekBest_106 : decode cX9_seekBest 106 = .ok (.getfield 45, 3) := by decide +kernel
theorem dX9_seekBest_109 : decode cX9_seekBest 109 = .ok (.iconst 2, 1) := by decide +kernel
theorem dX9_seekBest_110 : decode cX9_seekBest 110 = .ok (.iaload, 1) := by decide +kernel
theorem dX9_seekBest_111 : decode cX9_seekBest 111 = .ok (.if_icmp .ge 38, 3) := by decide +kernel
theorem dX9_seekBest_114 : decode cX9_seekBest 114 = .ok (.aload_n 0, 1) := by decide +kernel
theorem dX9_seekBest_115 : decode cX9_seekBest 115 = .ok (.aload_n 0, 1) := by decide +kernel
theorem dX9_seekBest_116 : decode cX9_seekBest 116 = .ok (.getfield 128, 3) := by decide +kernel
theorem dX9_seekBest_119 : decode cX9_seekBest 119 = .ok (.iload 5, 2) := by decide +kernel
theorem dX9_seekBest_121 : decode cX9_seekBest 121 = .ok (.iaload, 1) := by decide +kernel
theorem dX9_seekBest_122 : decode cX9_seekBest 122 = .ok (.iload 7, 2) := by decide +kernel
theorem dX9_seekBest_124 : decode cX9_seekBest 124 = .ok (.invokevirtual 547, 3) := by decide +kernel
theorem dX9_seekBest_127 : decode cX9_seekBest 127 = .ok (.ifCond .eq 16, 3) := by decide +kernel
theorem dX9_seekBest_130 : decode cX9_seekBest 130 = .ok (.aload_n 0, 1) := by decide +kernel
theorem dX9_seekBest_131 : decode cX9_seekBest 131 = .ok (.aload_n 0, 1) := by decide +kernel
theorem dX9_seekBest_132 : decode cX9_seekBest 132 = .ok (.getfield 128, 3) := by decide +kernel
theorem dX9_seekBest_135 : decode cX9_seekBest 135 = .ok (.iload 5, 2) := by decide +kernel
theorem dX9_seekBest_137 : decode cX9_seekBest 137 = .ok (.iaload, 1) := by decide +kernel
theorem dX9_seekBest_138 : decode cX9_seekBest 138 = .ok (.iload 7, 2) := by decide +kernel
theorem dX9_seekBest_140 : decode cX9_seekBest 140 = .ok (.invokevirtual 551, 3) := by decide +kernel
theorem dX9_seekBest_143 : decode cX9_seekBest 143 = .ok (.iinc 7 1, 3) := by decide +kernel
theorem dX9_seekBest_146 : decode cX9_seekBest 146 = .ok (.goto (-43), 3) := by decide +kernel
theorem dX9_seekBest_149 : decode cX9_seekBest 149 = .ok (.iinc 5 1, 3) := by decide +kernel
theorem dX9_seekBest_152 : decode cX9_seekBest 152 = .ok (.goto (-70), 3) := by decide +kernel
theorem dX9_seekBest_155 : decode cX9_seekBest 155 = .ok (.aload_n 0, 1) := by decide +kernel
theorem dX9_seekBest_156 : decode cX9_seekBest 156 = .ok (.dup, 1) := by decide +kernel
theorem dX9_seekBest_157 : decode cX9_seekBest 157 = .ok (.getfield 523, 3) := by decide +kernel
theorem dX9_seekBest_160 : decode cX9_seekBest 160 = .ok (.iconst 1, 1) := by decide +kernel
theorem dX9_seekBest_161 : decode cX9_seekBest 161 = .ok (.iadd, 1) := by decide +kernel
theorem dX9_seekBest_162 : decode cX9_seekBest 162 = .ok (.putfield 523, 3) := by decide +kernel
theorem dX9_seekBest_165 : decode cX9_seekBest 165 = .ok (.goto (-97), 3) := by decide +kernel
theorem dX9_seekBest_168 : decode cX9_seekBest 168 = .ok (.aload_n 0, 1) := by decide +kernel
theorem dX9_seekBest_169 : decode cX9_seekBest 169 = .ok (.getfield 520, 3) := by decide +kernel
theorem dX9_seekBest_172 : decode cX9_seekBest 172 = .ok (.ireturn, 1) := by decide +kernel
theorem dX9_isPlanned_0 : decode cX9_isPlanned 0 = .ok (.iload_n 0, 1) := by decide +kernel
theorem dX9_isPlanned_1 : decode cX9_isPlanned 1 = .ok (.ifCond .lt 13, 3) := by decide +kernel
theorem dX9_isPlanned_4 : decode cX9_isPlanned 4 = .ok (.iload_n 0, 1) := by decide +kernel
theorem dX9_isPlanned_5 : decode cX9_isPlanned 5 = .ok (.bipush 40, 2) := by decide +kernel
theorem dX9_isPlanned_7 : decode cX9_isPlanned 7 = .ok (.if_icmp .gt 7, 3) := by decide +kernel
theorem dX9_isPlanned_10 : decode cX9_isPlanned 10 = .ok (.iconst 1, 1) := by decide +kernel
theorem dX9_isPlanned_11 : decode cX9_isPlanned 11 = .ok (.goto 4, 3) := by decide +kernel
theorem dX9_isPlanned_14 : decode cX9_isPlanned 14 = .ok (.iconst 0, 1) := by decide +kernel
theorem dX9_isPlanned_15 : decode cX9_isPlanned 15 = .ok (.ireturn, 1) := by decide +kernel
theorem dX9_best_0 : decode cX9_best 0 = .ok (.iload_n 1, 1) := by decide +kernel
theorem dX9_best_1 : decode cX9_best 1 = .ok (.invokestatic 554, 3) := by decide +kernel
theorem dX9_best_4 : decode cX9_best 4 = .ok (.ifCond .eq 12, 3) := by decide +kernel
theorem dX9_best_7 : decode cX9_best 7 = .ok (.iload_n 2, 1) := by decide +kernel
theorem dX9_best_8 : decode cX9_best 8 = .ok (.ifCond .lt 8, 3) := by decide +kernel
theorem dX9_best_11 : decode cX9_best 11 = .ok (.iload_n 2, 1) := by decide +kernel
theorem dX9_best_12 : decode cX9_best 12 = .ok (.iconst 1, 1) := by decide +kernel
theorem dX9_best_13 : decode cX9_best 13 = .ok (.if_icmp .le 5, 3) := by decide +kernel
theorem dX9_best_16 : decode cX9_best 16 = .ok (.iconst (-1), 1) := by decide +kernel
theorem dX9_best_17 : decode cX9_best 17 = .ok (.ireturn, 1) := by decide +kernel
theorem dX9_best_18 : decode cX9_best 18 = .ok (.aload_n 0, 1) := by decide +kernel
theorem dX9_best_19 : decode cX9_best 19 = .ok (.iload_n 1, 1) := by decide +kernel
theorem dX9_best_20 : decode cX9_best 20 = .ok (.aload_n 0, 1) := by decide +kernel
theorem dX9_best_21 : decode cX9_best 21 = .ok (.invokevirtual 490, 3) := by decide +kernel
theorem dX9_best_24 : decode cX9_best 24 = .ok (.aload_n 0, 1) := by decide +kernel
theorem dX9_best_25 : decode cX9_best 25 = .ok (.invokevirtual 557, 3) := by decide +kernel
theorem dX9_best_28 : decode cX9_best 28 = .ok (.aload_n 0, 1) := by decide +kernel
theorem dX9_best_29 : decode cX9_best 29 = .ok (.invokevirtual 560, 3) := by decide +kernel
theorem dX9_best_32 : decode cX9_best 32 = .ok (.invokevirtual 563, 3) := by decide +kernel
theorem dX9_best_35 : decode cX9_best 35 = .ok (.istore_n 3, 1) := by decide +kernel
theorem dX9_best_36 : decode cX9_best 36 = .ok (.iload_n 2, 1) := by decide +kernel
theorem dX9_best_37 : decode cX9_best 37 = .ok (.ifCond .ne 7, 3) := by decide +kernel
theorem dX9_best_40 : decode cX9_best 40 = .ok (.iload_n 3, 1) := by decide +kernel
theorem dX9_best_41 : decode cX9_best 41 = .ok (.goto 7, 3) := by decide +kernel
theorem dX9_best_44 : decode cX9_best 44 = .ok (.aload_n 0, 1) := by decide +kernel
theorem dX9_best_45 : decode cX9_best 45 = .ok (.getfield 526, 3) := by decide +kernel
theorem dX9_best_48 : decode cX9_best 48 = .ok (.ireturn, 1) := by decide +kernel
theorem dX9_firstOf_0 : decode cX9_firstOf 0 = .ok (.iconst 0, 1) := by decide +kernel
theorem dX9_firstOf_1 : decode cX9_firstOf 1 = .ok (.istore_n 2, 1) := by decide +kernel
theorem dX9_firstOf_2 : decode cX9_firstOf 2 = .ok (.iconst 0, 1) := by decide +kernel
theorem dX9_firstOf_3 : decode cX9_firstOf 3 = .ok (.istore_n 3, 1) := by decide +kernel
theorem dX9_firstOf_4 : decode cX9_firstOf 4 = .ok (.iload_n 3, 1) := by decide +kernel
theorem dX9_firstOf_5 : decode cX9_firstOf 5 = .ok (.bipush 6, 2) := by decide +kernel
theorem dX9_firstOf_7 : decode cX9_firstOf 7 = .ok (.if_icmp .ge 36, 3) := by decide +kernel
theorem dX9_firstOf_10 : decode cX9_firstOf 10 = .ok (.iload_n 2, 1) := by decide +kernel
theorem dX9_firstOf_11 : decode cX9_firstOf 11 = .ok (.iload_n 0, 1) := by decide +kernel
theorem dX9_firstOf_12 : decode cX9_firstOf 12 = .ok (.iload_n 3, 1) := by decide +kernel
theorem dX9_firstOf_13 : decode cX9_firstOf 13 = .ok (.ishr, 1) := by decide +kernel
theorem dX9_firstOf_14 : decode cX9_firstOf 14 = .ok (.iconst 1, 1) := by decide +kernel
theorem dX9_firstOf_15 : decode cX9_firstOf 15 = .ok (.iand, 1) := by decide +kernel
theorem dX9_firstOf_16 : decode cX9_firstOf 16 = .ok (.iconst 1, 1) := by decide +kernel
theorem dX9_firstOf_17 : decode cX9_firstOf 17 = .ok (.if_icmp .ne 17, 3) := by decide +kernel
theorem dX9_firstOf_20 : decode cX9_firstOf 20 = .ok (.iload_n 2, 1) := by decide +kernel
theorem dX9_firstOf_21 : decode cX9_firstOf 21 = .ok (.invokestatic 442, 3) := by decide +kernel
theorem dX9_firstOf_24 : decode cX9_firstOf 24 = .ok (.iload_n 1, 1) := by decide +kernel
theorem dX9_firstOf_25 : decode cX9_firstOf 25 = .ok (.if_icmp .ge 9, 3) := by decide +kernel
theorem dX9_firstOf_28 : decode cX9_firstOf 28 = .ok (.iconst 1, 1) := by decide +kernel
theorem dX9_firstOf_29 : decode cX9_firstOf 29 = .ok (.iload_n 3, 1) := by decide +kernel
theorem dX9_firstOf_30 : decode cX9_firstOf 30 = .ok (.ishl, 1) := by decide +kernel
theorem dX9_firstOf_31 : decode cX9_firstOf 31 = .ok (.goto 4, 3) := by decide +kernel
theorem dX9_firstOf_34 : decode cX9_firstOf 34 = .ok (.iconst 0, 1) := by decide +kernel
theorem dX9_firstOf_35 : decode cX9_firstOf 35 = .ok (.ior, 1) := by decide +kernel
theorem dX9_firstOf_36 : decode cX9_firstOf 36 = .ok (.istore_n 2, 1) := by decide +kernel
theorem dX9_firstOf_37 : decode cX9_firstOf 37 = .ok (.iinc 3 1, 3) := by decide +kernel
theorem dX9_firstOf_40 : decode cX9_firstOf 40 = .ok (.goto (-36), 3) := by decide +kernel
theorem dX9_firstOf_43 : decode cX9_firstOf 43 = .ok (.iload_n 2, 1) := by decide +kernel
theorem dX9_firstOf_44 : decode cX9_firstOf 44 = .ok (.ireturn, 1) := by decide +kernel
theorem dX9_fewest_0 : decode cX9_fewest 0 = .ok (.iload_n 1, 1) := by decide +kernel
theorem dX9_fewest_1 : decode cX9_fewest 1 = .ok (.invokestatic 554, 3) := by decide +kernel
theorem dX9_fewest_4 : decode cX9_fewest 4 = .ok (.ifCond .ne 5, 3) := by decide +kernel
theorem dX9_fewest_7 : decode cX9_fewest 7 = .ok (.iconst (-1), 1) := by decide +kernel
theorem dX9_fewest_8 : decode cX9_fewest 8 = .ok (.ireturn, 1) := by decide +kernel
theorem dX9_fewest_9 : decode cX9_fewest 9 = .ok (.aload_n 0, 1) := by decide +kernel
theorem dX9_fewest_10 : decode cX9_fewest 10 = .ok (.invokevirtual 490, 3) := by decide +kernel
theorem dX9_fewest_13 : decode cX9_fewest 13 = .ok (.istore_n 2, 1) := by decide +kernel
theorem dX9_fewest_14 : decode cX9_fewest 14 = .ok (.iload_n 2, 1) := by decide +kernel
theorem dX9_fewest_15 : decode cX9_fewest 15 = .ok (.invokestatic 442, 3) := by decide +kernel
theorem dX9_fewest_18 : decode cX9_fewest 18 = .ok (.istore_n 3, 1) := by decide +kernel
theorem dX9_fewest_19 : decode cX9_fewest 19 = .ok (.aload_n 0, 1) := by decide +kernel
theorem dX9_fewest_20 : decode cX9_fewest 20 = .ok (.iload_n 1, 1) := by decide +kernel
theorem dX9_fewest_21 : decode cX9_fewest 21 = .ok (.iload_n 2, 1) := by decide +kernel
theorem dX9_fewest_22 : decode cX9_fewest 22 = .ok (.iload_n 3, 1) := by decide +kernel
theorem dX9_fewest_23 : decode cX9_fewest 23 = .ok (.aload_n 0, 1) := by decide +kernel
theorem dX9_fewest_24 : decode cX9_fewest 24 = .ok (.invokevirtual 560, 3) := by decide +kernel
theorem dX9_fewest_27 : decode cX9_fewest 27 = .ok (.iload_n 3, 1) := by decide +kernel
theorem dX9_fewest_28 : decode cX9_fewest 28 = .ok (.invokestatic 567, 3) := by decide +kernel
theorem dX9_fewest_31 : decode cX9_fewest 31 = .ok (.invokevirtual 563, 3) := by decide +kernel
theorem dX9_fewest_34 : decode cX9_fewest 34 = .ok (.istore 4, 2) := by decide +kernel
theorem dX9_fewest_36 : decode cX9_fewest 36 = .ok (.iconst 0, 1) := by decide +kernel
theorem dX9_fewest_37 : decode cX9_fewest 37 = .ok (.istore 5, 2) := by decide +kernel
theorem dX9_fewest_39 : decode cX9_fewest 39 = .ok (.iload 5, 2) := by decide +kernel
theorem dX9_fewest_41 : decode cX9_fewest 41 = .ok (.iload_n 3, 1) := by decide +kernel
theorem dX9_fewest_42 : decode cX9_fewest 42 = .ok (.if_icmp .ge 31, 3) := by decide +kernel
theorem dX9_fewest_45 : decode cX9_fewest 45 = .ok (.aload_n 0, 1) := by decide +kernel
theorem dX9_fewest_46 : decode cX9_fewest 46 = .ok (.iload_n 1, 1) := by decide +kernel
theorem dX9_fewest_47 : decode cX9_fewest 47 = .ok (.iload_n 2, 1) := by decide +kernel
theorem dX9_fewest_48 : decode cX9_fewest 48 = .ok (.iload 5, 2) := by decide +kernel
theorem dX9_fewest_50 : decode cX9_fewest 50 = .ok (.aload_n 0, 1) := by decide +kernel
theorem dX9_fewest_51 : decode cX9_fewest 51 = .ok (.invokevirtual 560, 3) := by decide +kernel
theorem dX9_fewest_54 : decode cX9_fewest 54 = .ok (.iload 5, 2) := by decide +kernel
theorem dX9_fewest_56 : decode cX9_fewest 56 = .ok (.invokestatic 567, 3) := by decide +kernel
theorem dX9_fewest_59 : decode cX9_fewest 59 = .ok (.invokevirtual 563, 3) := by decide +kernel
theorem dX9_fewest_62 : decode cX9_fewest 62 = .ok (.iload 4, 2) := by decide +kernel
theorem dX9_fewest_64 : decode cX9_fewest 64 = .ok (.if_icmp .ge 9, 3) := by decide +kernel
theorem dX9_fewest_67 : decode cX9_fewest 67 = .ok (.iinc 5 1, 3) := by decide +kernel
theorem dX9_fewest_70 : decode cX9_fewest 70 = .ok (.goto (-31), 3) := by decide +kernel
theorem dX9_fewest_73 : decode cX9_fewest 73 = .ok (.iload 5, 2) := by decide +kernel
theorem dX9_fewest_75 : decode cX9_fewest 75 = .ok (.ireturn, 1) := by decide +kernel
theorem dX9_lets_0 : decode cX9_lets 0 = .ok (.aload_n 0, 1) := by decide +kernel
theorem dX9_lets_1 : decode cX9_lets 1 = .ok (.iload_n 1, 1) := by decide +kernel
theorem dX9_lets_2 : decode cX9_lets 2 = .ok (.invokevirtual 433, 3) := by decide +kernel
theorem dX9_lets_5 : decode cX9_lets 5 = .ok (.ifCond .eq 21, 3) := by decide +kernel
theorem dX9_lets_8 : decode cX9_lets 8 = .ok (.aload_n 0, 1) := by decide +kernel
theorem dX9_lets_9 : decode cX9_lets 9 = .ok (.getfield 94, 3) := by decide +kernel
theorem dX9_lets_12 : decode cX9_lets 12 = .ok (.iload_n 1, 1) := by decide +kernel
theorem dX9_lets_13 : decode cX9_lets 13 = .ok (.iaload, 1) := by decide +kernel
theorem dX9_lets_14 : decode cX9_lets 14 = .ok (.bipush (-2), 2) := by decide +kernel
theorem dX9_lets_16 : decode cX9_lets 16 = .ok (.if_icmp .ne 10, 3) := by decide +kernel
theorem dX9_lets_19 : decode cX9_lets 19 = .ok (.iload_n 2, 1) := by decide +kernel
theorem dX9_lets_20 : decode cX9_lets 20 = .ok (.invokestatic 554, 3) := by decide +kernel
theorem dX9_lets_23 : decode cX9_lets 23 = .ok (.ifCond .ne 7, 3) := by decide +kernel
theorem dX9_lets_26 : decode cX9_lets 26 = .ok (.ldc_w 501, 3) := by decide +kernel
theorem dX9_lets_29 : decode cX9_lets 29 = .ok (.ireturn, 1) := by decide +kernel
theorem dX9_lets_30 : decode cX9_lets 30 = .ok (.aload_n 0, 1) := by decide +kernel
theorem dX9_lets_31 : decode cX9_lets 31 = .ok (.iload_n 2, 1) := by decide +kernel
theorem dX9_lets_32 : decode cX9_lets 32 = .ok (.aload_n 0, 1) := by decide +kernel
theorem dX9_lets_33 : decode cX9_lets 33 = .ok (.invokevirtual 490, 3) := by decide +kernel
theorem dX9_lets_36 : decode cX9_lets 36 = .ok (.iconst 1, 1) := by decide +kernel
theorem dX9_lets_37 : decode cX9_lets 37 = .ok (.iload_n 1, 1) := by decide +kernel
theorem dX9_lets_38 : decode cX9_lets 38 = .ok (.ishl, 1) := by decide +kernel
theorem dX9_lets_39 : decode cX9_lets 39 = .ok (.ior, 1) := by decide +kernel
theorem dX9_lets_40 : decode cX9_lets 40 = .ok (.aload_n 0, 1) := by decide +kernel
theorem dX9_lets_41 : decode cX9_lets 41 = .ok (.invokevirtual 557, 3) := by decide +kernel
theorem dX9_lets_44 : decode cX9_lets 44 = .ok (.aload_n 0, 1) := by decide +kernel
theorem dX9_lets_45 : decode cX9_lets 45 = .ok (.invokevirtual 560, 3) := by decide +kernel
theorem dX9_lets_48 : decode cX9_lets 48 = .ok (.invokevirtual 563, 3) := by decide +kernel
theorem dX9_lets_51 : decode cX9_lets 51 = .ok (.istore_n 3, 1) := by decide +kernel
theorem dX9_lets_52 : decode cX9_lets 52 = .ok (.iload_n 3, 1) := by decide +kernel
theorem dX9_lets_53 : decode cX9_lets 53 = .ok (.aload_n 0, 1) := by decide +kernel
theorem dX9_lets_54 : decode cX9_lets 54 = .ok (.iload_n 2, 1) := by decide +kernel
theorem dX9_lets_55 : decode cX9_lets 55 = .ok (.aload_n 0, 1) := by decide +kernel
theorem dX9_lets_56 : decode cX9_lets 56 = .ok (.invokevirtual 490, 3) := by decide +kernel
theorem dX9_lets_59 : decode cX9_lets 59 = .ok (.aload_n 0, 1) := by decide +kernel
theorem dX9_lets_60 : decode cX9_lets 60 = .ok (.invokevirtual 557, 3) := by decide +kernel
theorem dX9_lets_63 : decode cX9_lets 63 = .ok (.aload_n 0, 1) := by decide +kernel
theorem dX9_lets_64 : decode cX9_lets 64 = .ok (.invokevirtual 560, 3) := by decide +kernel
theorem dX9_lets_67 : decode cX9_lets 67 = .ok (.invokevirtual 563, 3) := by decide +kernel
theorem dX9_lets_70 : decode cX9_lets 70 = .ok (.isub, 1) := by decide +kernel
theorem dX9_lets_71 : decode cX9_lets 71 = .ok (.ireturn, 1) := by decide +kernel
theorem dX9_floorStep_0 : decode cX9_floorStep 0 = .ok (.iconst 0, 1) := by decide +kernel
theorem dX9_floorStep_1 : decode cX9_floorStep 1 = .ok (.istore 4, 2) := by decide +kernel
theorem dX9_floorStep_3 : decode cX9_floorStep 3 = .ok (.iconst 0, 1) := by decide +kernel
theorem dX9_floorStep_4 : decode cX9_floorStep 4 = .ok (.istore 5, 2) := by decide +kernel
theorem dX9_floorStep_6 : decode cX9_floorStep 6 = .ok (.iload 5, 2) := by decide +kernel
theorem dX9_floorStep_8 : decode cX9_floorStep 8 = .ok (.iload_n 2, 1) := by decide +kernel
theorem dX9_floorStep_9 : decode cX9_floorStep 9 = .ok (.if_icmp .ge 61, 3) := by decide +kernel
theorem dX9_floorStep_12 : decode cX9_floorStep 12 = .ok (.iload_n 1, 1) := by decide +kernel
theorem dX9_floorStep_13 : decode cX9_floorStep 13 = .ok (.iconst 4, 1) := by decide +kernel
theorem dX9_floorStep_14 : decode cX9_floorStep 14 = .ok (.iload 5, 2) := by decide +kernel
theorem dX9_floorStep_16 : decode cX9_floorStep 16 = .ok (.imul, 1) := by decide +kernel
theorem dX9_floorStep_17 : decode cX9_floorStep 17 = .ok (.ishr, 1) := by decide +kernel
theorem dX9_floorStep_18 : decode cX9_floorStep 18 = .ok (.bipush 15, 2) := by decide +kernel
theorem dX9_floorStep_20 : decode cX9_floorStep 20 = .ok (.iand, 1) := by decide +kernel
theorem dX9_floorStep_21 : decode cX9_floorStep 21 = .ok (.istore 6, 2) := by decide +kernel
theorem dX9_floorStep_23 : decode cX9_floorStep 23 = .ok (.iload 5, 2) := by decide +kernel
theorem dX9_floorStep_25 : decode cX9_floorStep 25 = .ok (.iload_n 3, 1) := by decide +kernel
theorem dX9_floorStep_26 : decode cX9_floorStep 26 = .ok (.if_icmp .ne 10, 3) := by decide +kernel
theorem dX9_floorStep_29 : decode cX9_floorStep 29 = .ok (.iload 6, 2) := by decide +kernel
theorem dX9_floorStep_31 : decode cX9_floorStep 31 = .ok (.iconst 1, 1) := by decide +kernel
theorem dX9_floorStep_32 : decode cX9_floorStep 32 = .ok (.iadd, 1) := by decide +kernel
theorem dX9_floorStep_33 : decode cX9_floorStep 33 = .ok (.goto 17, 3) := by decide +kernel
theorem dX9_floorStep_36 : decode cX9_floorStep 36 = .ok (.iload 6, 2) := by decide +kernel
theorem dX9_floorStep_38 : decode cX9_floorStep 38 = .ok (.iconst 2, 1) := by decide +kernel
theorem dX9_floorStep_39 : decode cX9_floorStep 39 = .ok (.if_icmp .ge 7, 3) := by decide +kernel
theorem dX9_floorStep_42 : decode cX9_floorStep 42 = .ok (.iconst 0, 1) := by decide +kernel
theorem dX9_floorStep_43 : decode cX9_floorStep 43 = .ok (.goto 7, 3) := by decide +kernel
theorem dX9_floorStep_46 : decode cX9_floorStep 46 = .ok (.iload 6, 2) := by decide +kernel
theorem dX9_floorStep_48 : decode cX9_floorStep 48 = .ok (.iconst 2, 1) := by decide +kernel
theorem dX9_floorStep_49 : decode cX9_floorStep 49 = .ok (.isub, 1) := by decide +kernel
theorem dX9_floorStep_50 : decode cX9_floorStep 50 = .ok (.istore 7, 2) := by decide +kernel
theorem dX9_floorStep_52 : decode cX9_floorStep 52 = .ok (.iload 4, 2) := by decide +kernel
theorem dX9_floorStep_54 : decode cX9_floorStep 54 = .ok (.iload 7, 2) := by decide +kernel
theorem dX9_floorStep_56 : decode cX9_floorStep 56 = .ok (.iconst 4, 1) := by decide +kernel
theorem dX9_floorStep_57 : decode cX9_floorStep 57 = .ok (.iload 5, 2) := by decide +kernel
theorem dX9_floorStep_59 : decode cX9_floorStep 59 = .ok (.imul, 1) := by decide +kernel
theorem dX9_floorStep_60 : decode cX9_floorStep 60 = .ok (.ishl, 1) := by decide +kernel
theorem dX9_floorStep_61 : decode cX9_floorStep 61 = .ok (.ior, 1) := by decide +kernel
theorem dX9_floorStep_62 : decode cX9_floorStep 62 = .ok (.istore 4, 2) := by decide +kernel
theorem dX9_floorStep_64 : decode cX9_floorStep 64 = .ok (.iinc 5 1, 3) := by decide +kernel
theorem dX9_floorStep_67 : decode cX9_floorStep 67 = .ok (.goto (-61), 3) := by decide +kernel
theorem dX9_floorStep_70 : decode cX9_floorStep 70 = .ok (.iload 4, 2) := by decide +kernel
theorem dX9_floorStep_72 : decode cX9_floorStep 72 = .ok (.ireturn, 1) := by decide +kernel
theorem dX9_floorOn_0 : decode cX9_floorOn 0 = .ok (.iconst 0, 1) := by decide +kernel
theorem dX9_floorOn_1 : decode cX9_floorOn 1 = .ok (.istore_n 2, 1) := by decide +kernel
theorem dX9_floorOn_2 : decode cX9_floorOn 2 = .ok (.iconst 0, 1) := by decide +kernel
theorem dX9_floorOn_3 : decode cX9_floorOn 3 = .ok (.istore_n 3, 1) := by decide +kernel
theorem dX9_floorOn_4 : decode cX9_floorOn 4 = .ok (.iload_n 3, 1) := by decide +kernel
theorem dX9_floorOn_5 : decode cX9_floorOn 5 = .ok (.sipush 4096, 3) := by decide +kernel
theorem dX9_floorOn_8 : decode cX9_floorOn 8 = .ok (.if_icmp .ge 16, 3) := by decide +kernel
theorem dX9_floorOn_11 : decode cX9_floorOn 11 = .ok (.aload_n 0, 1) := by decide +kernel
theorem dX9_floorOn_12 : decode cX9_floorOn 12 = .ok (.getfield 134, 3) := by decide +kernel
theorem dX9_floorOn_15 : decode cX9_floorOn 15 = .ok (.iload_n 3, 1) := by decide +kernel
theorem dX9_floorOn_16 : decode cX9_floorOn 16 = .ok (.iconst 0, 1) := by decide +kernel
theorem dX9_floorOn_17 : decode cX9_floorOn 17 = .ok (.bastore, 1) := by decide +kernel
theorem dX9_floorOn_18 : decode cX9_floorOn 18 = .ok (.iinc 3 1, 3) := by decide +kernel
theorem dX9_floorOn_21 : decode cX9_floorOn 21 = .ok (.goto (-17), 3) := by decide +kernel
theorem dX9_floorOn_24 : decode cX9_floorOn 24 = .ok (.iconst 0, 1) := by decide +kernel
theorem dX9_floorOn_25 : decode cX9_floorOn 25 = .ok (.istore_n 3, 1) := by decide +kernel
theorem dX9_floorOn_26 : decode cX9_floorOn 26 = .ok (.iload_n 3, 1) := by decide +kernel
theorem dX9_floorOn_27 : decode cX9_floorOn 27 = .ok (.sipush 4096, 3) := by decide +kernel
theorem dX9_floorOn_30 : decode cX9_floorOn 30 = .ok (.if_icmp .ge 76, 3) := by decide +kernel
theorem dX9_floorOn_33 : decode cX9_floorOn 33 = .ok (.iconst 0, 1) := by decide +kernel
theorem dX9_floorOn_34 : decode cX9_floorOn 34 = .ok (.istore 4, 2) := by decide +kernel
theorem dX9_floorOn_36 : decode cX9_floorOn 36 = .ok (.iload 4, 2) := by decide +kernel
theorem dX9_floorOn_38 : decode cX9_floorOn 38 = .ok (.iload_n 1, 1) := by decide +kernel
theorem dX9_floorOn_39 : decode cX9_floorOn 39 = .ok (.if_icmp .ge 61, 3) := by decide +kernel
theorem dX9_floorOn_42 : decode cX9_floorOn 42 = .ok (.aload_n 0, 1) := by decide +kernel
theorem dX9_floorOn_43 : decode cX9_floorOn 43 = .ok (.getfield 131, 3) := by decide +kernel
theorem dX9_floorOn_46 : decode cX9_floorOn 46 = .ok (.iload_n 3, 1) := by decide +kernel
theorem dX9_floorOn_47 : decode cX9_floorOn 47 = .ok (.baload, 1) := by decide +kernel
theorem dX9_floorOn_48 : decode cX9_floorOn 48 = .ok (.ifCond .eq 52, 3) := by decide +kernel
theorem dX9_floorOn_51 : decode cX9_floorOn 51 = .ok (.iload_n 3, 1) := by decide +kernel
theorem dX9_floorOn_52 : decode cX9_floorOn 52 = .ok (.iconst 4, 1) := by decide +kernel
theorem dX9_floorOn_53 : decode cX9_floorOn 53 = .ok (.iload 4, 2) := by decide +kernel
theorem dX9_floorOn_55 : decode cX9_floorOn 55 = .ok (.imul, 1) := by decide +kernel
theorem dX9_floorOn_56 : decode cX9_floorOn 56 = .ok (.ishr, 1) := by decide +kernel
theorem dX9_floorOn_57 : decode cX9_floorOn 57 = .ok (.bipush 15, 2) := by decide +kernel
theorem dX9_floorOn_59 : decode cX9_floorOn 59 = .ok (.iand, 1) := by decide +kernel
theorem dX9_floorOn_60 : decode cX9_floorOn 60 = .ok (.aload_n 0, 1) := by decide +kernel
theorem dX9_floorOn_61 : decode cX9_floorOn 61 = .ok (.getfield 66, 3) := by decide +kernel
theorem dX9_floorOn_64 : decode cX9_floorOn 64 = .ok (.aload_n 0, 1) := by decide +kernel
theorem dX9_floorOn_65 : decode cX9_floorOn 65 = .ok (.getfield 137, 3) := by decide +kernel
theorem dX9_floorOn_68 : decode cX9_floorOn 68 = .ok (.iload 4, 2) := by decide +kernel
theorem dX9_floorOn_70 : decode cX9_floorOn 70 = .ok (.iaload, 1) := by decide +kernel
theorem dX9_floorOn_71 : decode cX9_floorOn 71 = .ok (.iaload, 1) := by decide +kernel
theorem dX9_floorOn_72 : decode cX9_floorOn 72 = .ok (.if_icmp .lt 6, 3) := by decide +kernel
theorem dX9_floorOn_75 : decode cX9_floorOn 75 = .ok (.goto 19, 3) := by decide +kernel
theorem dX9_floorOn_78 : decode cX9_floorOn 78 = .ok (.aload_n 0, 1) := by decide +kernel
theorem dX9_floorOn_79 : decode cX9_floorOn 79 = .ok (.getfield 134, 3) := by decide +kernel
theorem dX9_floorOn_82 : decode cX9_floorOn 82 = .ok (.aload_n 0, 1) := by decide +kernel
theorem dX9_floorOn_83 : decode cX9_floorOn 83 = .ok (.iload_n 3, 1) := by decide +kernel
theorem dX9_floorOn_84 : decode cX9_floorOn 84 = .ok (.iload_n 1, 1) := by decide +kernel
theorem dX9_floorOn_85 : decode cX9_floorOn 85 = .ok (.iload 4, 2) := by decide +kernel
theorem dX9_floorOn_87 : decode cX9_floorOn 87 = .ok (.invokevirtual 570, 3) := by decide +kernel
theorem dX9_floorOn_90 : decode cX9_floorOn 90 = .ok (.iconst 1, 1) := by decide +kernel
theorem dX9_floorOn_91 : decode cX9_floorOn 91 = .ok (.bastore, 1) := by decide +kernel
theorem dX9_floorOn_92 : decode cX9_floorOn 92 = .ok (.iconst 1, 1) := by decide +kernel
theorem dX9_floorOn_93 : decode cX9_floorOn 93 = .ok (.istore_n 2, 1) := by decide +kernel
theorem dX9_floorOn_94 : decode cX9_floorOn 94 = .ok (.iinc 4 1, 3) := by decide +kernel
theorem dX9_floorOn_97 : decode cX9_floorOn 97 = .ok (.goto (-61), 3) := by decide +kernel
theorem dX9_floorOn_100 : decode cX9_floorOn 100 = .ok (.iinc 3 1, 3) := by decide +kernel
theorem dX9_floorOn_103 : decode cX9_floorOn 103 = .ok (.goto (-77), 3) := by decide +kernel
theorem dX9_floorOn_106 : decode cX9_floorOn 106 = .ok (.iconst 0, 1) := by decide +kernel
theorem dX9_floorOn_107 : decode cX9_floorOn 107 = .ok (.istore_n 3, 1) := by decide +kernel
theorem dX9_floorOn_108 : decode cX9_floorOn 108 = .ok (.iload_n 3, 1) := by decide +kernel
theorem dX9_floorOn_109 : decode cX9_floorOn 109 = .ok (.sipush 4096, 3) := by decide +kernel
theorem dX9_floorOn_112 : decode cX9_floorOn 112 = .ok (.if_icmp .ge 21, 3) := by decide +kernel
theorem dX9_floorOn_115 : decode cX9_floorOn 115 = .ok (.aload_n 0, 1) := by decide +kernel
theorem dX9_floorOn_116 : decode cX9_floorOn 116 = .ok (.getfield 131, 3) := by decide +kernel
theorem dX9_floorOn_119 : decode cX9_floorOn 119 = .ok (.iload_n 3, 1) := by decide +kernel
theorem dX9_floorOn_120 : decode cX9_floorOn 120 = .ok (.aload_n 0, 1) := by decide +kernel
theorem dX9_floorOn_121 : decode cX9_floorOn 121 = .ok (.getfield 134, 3) := by decide +kernel
theorem dX9_floorOn_124 : decode cX9_floorOn 124 = .ok (.iload_n 3, 1) := by decide +kernel
theorem dX9_floorOn_125 : decode cX9_floorOn 125 = .ok (.baload, 1) := by decide +kernel
theorem dX9_floorOn_126 : decode cX9_floorOn 126 = .ok (.bastore, 1) := by decide +kernel
theorem dX9_floorOn_127 : decode cX9_floorOn 127 = .ok (.iinc 3 1, 3) := by decide +kernel
theorem dX9_floorOn_130 : decode cX9_floorOn 130 = .ok (.goto (-22), 3) := by decide +kernel
theorem dX9_floorOn_133 : decode cX9_floorOn 133 = .ok (.iload_n 2, 1) := by decide +kernel
theorem dX9_floorOn_134 : decode cX9_floorOn 134 = .ok (.ireturn, 1) := by decide +kernel
theorem dX9_floor_0 : decode cX9_floor 0 = .ok (.iload_n 1, 1) := by decide +kernel
theorem dX9_floor_1 : decode cX9_floor 1 = .ok (.iconst 1, 1) := by decide +kernel
theorem dX9_floor_2 : decode cX9_floor 2 = .ok (.if_icmp .lt 34, 3) := by decide +kernel
theorem dX9_floor_5 : decode cX9_floor 5 = .ok (.iload_n 1, 1) := by decide +kernel
theorem dX9_floor_6 : decode cX9_floor 6 = .ok (.iconst 1, 1) := by decide +kernel
theorem dX9_floor_7 : decode cX9_floor 7 = .ok (.aload_n 0, 1) := by decide +kernel
theorem dX9_floor_8 : decode cX9_floor 8 = .ok (.getfield 45, 3) := by decide +kernel
theorem dX9_floor_11 : decode cX9_floor 11 = .ok (.iconst 1, 1) := by decide +kernel
theorem dX9_floor_12 : decode cX9_floor 12 = .ok (.iaload, 1) := by decide +kernel
theorem dX9_floor_13 : decode cX9_floor 13 = .ok (.ishl, 1) := by decide +kernel
theorem dX9_floor_14 : decode cX9_floor 14 = .ok (.if_icmp .ge 22, 3) := by decide +kernel
theorem dX9_floor_17 : decode cX9_floor 17 = .ok (.iload_n 1, 1) := by decide +kernel
theorem dX9_floor_18 : decode cX9_floor 18 = .ok (.aload_n 0, 1) := by decide +kernel
theorem dX9_floor_19 : decode cX9_floor 19 = .ok (.invokevirtual 490, 3) := by decide +kernel
theorem dX9_floor_22 : decode cX9_floor 22 = .ok (.iconst (-1), 1) := by decide +kernel
theorem dX9_floor_23 : decode cX9_floor 23 = .ok (.ixor, 1) := by decide +kernel
theorem dX9_floor_24 : decode cX9_floor 24 = .ok (.iand, 1) := by decide +kernel
theorem dX9_floor_25 : decode cX9_floor 25 = .ok (.ifCond .ne 11, 3) := by decide +kernel
theorem dX9_floor_28 : decode cX9_floor 28 = .ok (.iload_n 1, 1) := by decide +kernel
theorem dX9_floor_29 : decode cX9_floor 29 = .ok (.invokestatic 442, 3) := by decide +kernel
theorem dX9_floor_32 : decode cX9_floor 32 = .ok (.iconst 3, 1) := by decide +kernel
theorem dX9_floor_33 : decode cX9_floor 33 = .ok (.if_icmp .le 5, 3) := by decide +kernel
theorem dX9_floor_36 : decode cX9_floor 36 = .ok (.iconst (-1), 1) := by decide +kernel
theorem dX9_floor_37 : decode cX9_floor 37 = .ok (.ireturn, 1) := by decide +kernel
theorem dX9_floor_38 : decode cX9_floor 38 = .ok (.iconst 0, 1) := by decide +kernel
theorem dX9_floor_39 : decode cX9_floor 39 = .ok (.istore_n 2, 1) := by decide +kernel
theorem dX9_floor_40 : decode cX9_floor 40 = .ok (.iconst 0, 1) := by decide +kernel
theorem dX9_floor_41 : decode cX9_floor 41 = .ok (.istore_n 3, 1) := by decide +kernel
theorem dX9_floor_42 : decode cX9_floor 42 = .ok (.iconst 1, 1) := by decide +kernel
theorem dX9_floor_43 : decode cX9_floor 43 = .ok (.istore 4, 2) := by decide +kernel
theorem dX9_floor_45 : decode cX9_floor 45 = .ok (.iconst 0, 1) := by decide +kernel
theorem dX9_floor_46 : decode cX9_floor 46 = .ok (.istore 5, 2) := by decide +kernel
theorem dX9_floor_48 : decode cX9_floor 48 = .ok (.iload 5, 2) := by decide +kernel
theorem dX9_floor_50 : decode cX9_floor 50 = .ok (.bipush 6, 2) := by decide +kernel
theorem dX9_floor_52 : decode cX9_floor 52 = .ok (.if_icmp .ge 70, 3) := by decide +kernel
theorem dX9_floor_55 : decode cX9_floor 55 = .ok (.iload_n 1, 1) := by decide +kernel
theorem dX9_floor_56 : decode cX9_floor 56 = .ok (.iload 5, 2) := by decide +kernel
theorem dX9_floor_58 : decode cX9_floor 58 = .ok (.ishr, 1) := by decide +kernel
theorem dX9_floor_59 : decode cX9_floor 59 = .ok (.iconst 1, 1) := by decide +kernel
theorem dX9_floor_60 : decode cX9_floor 60 = .ok (.iand, 1) := by decide +kernel
theorem dX9_floor_61 : decode cX9_floor 61 = .ok (.ifCond .ne 6, 3) := by decide +kernel
theorem dX9_floor_64 : decode cX9_floor 64 = .ok (.goto 52, 3) := by decide +kernel
theorem dX9_floor_67 : decode cX9_floor 67 = .ok (.aload_n 0, 1) := by decide +kernel
theorem dX9_floor_68 : decode cX9_floor 68 = .ok (.getfield 137, 3) := by decide +kernel
theorem dX9_floor_71 : decode cX9_floor 71 = .ok (.iload_n 2, 1) := by decide +kernel
theorem dX9_floor_72 : decode cX9_floor 72 = .ok (.iload 5, 2) := by decide +kernel
theorem dX9_floor_74 : decode cX9_floor 74 = .ok (.iastore, 1) := by decide +kernel
theorem dX9_floor_75 : decode cX9_floor 75 = .ok (.iload_n 3, 1) := by decide +kernel
theorem dX9_floor_76 : decode cX9_floor 76 = .ok (.aload_n 0, 1) := by decide +kernel
theorem dX9_floor_77 : decode cX9_floor 77 = .ok (.getfield 97, 3) := by decide +kernel
theorem dX9_floor_80 : decode cX9_floor 80 = .ok (.iload 5, 2) := by decide +kernel
theorem dX9_floor_82 : decode cX9_floor 82 = .ok (.iaload, 1) := by decide +kernel
theorem dX9_floor_83 : decode cX9_floor 83 = .ok (.iconst 4, 1) := by decide +kernel
theorem dX9_floor_84 : decode cX9_floor 84 = .ok (.iload_n 2, 1) := by decide +kernel
theorem dX9_floor_85 : decode cX9_floor 85 = .ok (.imul, 1) := by decide +kernel
theorem dX9_floor_86 : decode cX9_floor 86 = .ok (.ishl, 1) := by decide +kernel
theorem dX9_floor_87 : decode cX9_floor 87 = .ok (.ior, 1) := by decide +kernel
theorem dX9_floor_88 : decode cX9_floor 88 = .ok (.istore_n 3, 1) := by decide +kernel
theorem dX9_floor_89 : decode cX9_floor 89 = .ok (.iload 4, 2) := by decide +kernel
theorem dX9_floor_91 : decode cX9_floor 91 = .ok (.ifCond .eq 19, 3) := by decide +kernel
theorem dX9_floor_94 : decode cX9_floor 94 = .ok (.aload_n 0, 1) := by decide +kernel
theorem dX9_floor_95 : decode cX9_floor 95 = .ok (.getfield 66, 3) := by decide +kernel
theorem dX9_floor_98 : decode cX9_floor 98 = .ok (.iload 5, 2) := by decide +kernel
theorem dX9_floor_100 : decode cX9_floor 100 = .ok (.iaload, 1) := by decide +kernel
theorem dX9_floor_101 : decode cX9_floor 101 = .ok (.bipush 15, 2) := by decide +kernel
theorem dX9_floor_103 : decode cX9_floor 103 = .ok (.if_icmp .gt 7, 3) := by decide +kernel
theorem dX9_floor_106 : decode cX9_floor 106 = .ok (.iconst 1, 1) := by decide +kernel
theorem dX9_floor_107 : decode cX9_floor 107 = .ok (.goto 4, 3) := by decide +kernel
theorem dX9_floor_110 : decode cX9_floor 110 = .ok (.iconst 0, 1) := by decide +kernel
theorem dX9_floor_111 : decode cX9_floor 111 = .ok (.istore 4, 2) := by decide +kernel
theorem dX9_floor_113 : decode cX9_floor 113 = .ok (.iinc 2 1, 3) := by decide +kernel
theorem dX9_floor_116 : decode cX9_floor 116 = .ok (.iinc 5 1, 3) := by decide +kernel
theorem dX9_floor_119 : decode cX9_floor 119 = .ok (.goto (-71), 3) := by decide +kernel
theorem dX9_floor_122 : decode cX9_floor 122 = .ok (.iload 4, 2) := by decide +kernel
theorem dX9_floor_124 : decode cX9_floor 124 = .ok (.ifCond .ne 5, 3) := by decide +kernel
theorem dX9_floor_127 : decode cX9_floor 127 = .ok (.iconst (-1), 1) := by decide +kernel
theorem dX9_floor_128 : decode cX9_floor 128 = .ok (.ireturn, 1) := by decide +kernel
theorem dX9_floor_129 : decode cX9_floor 129 = .ok (.iconst 0, 1) := by decide +kernel
theorem dX9_floor_130 : decode cX9_floor 130 = .ok (.istore 5, 2) := by decide +kernel
theorem dX9_floor_132 : decode cX9_floor 132 = .ok (.iload 5, 2) := by decide +kernel
theorem dX9_floor_134 : decode cX9_floor 134 = .ok (.sipush 4096, 3) := by decide +kernel
theorem dX9_floor_137 : decode cX9_floor 137 = .ok (.if_icmp .ge 27, 3) := by decide +kernel
theorem dX9_floor_140 : decode cX9_floor 140 = .ok (.aload_n 0, 1) := by decide +kernel
theorem dX9_floor_141 : decode cX9_floor 141 = .ok (.getfield 131, 3) := by decide +kernel
theorem dX9_floor_144 : decode cX9_floor 144 = .ok (.iload 5, 2) := by decide +kernel
theorem dX9_floor_146 : decode cX9_floor 146 = .ok (.iload 5, 2) := by decide +kernel
theorem dX9_floor_148 : decode cX9_floor 148 = .ok (.iload_n 3, 1) := by decide +kernel
theorem dX9_floor_149 : decode cX9_floor 149 = .ok (.if_icmp .ne 7, 3) := by decide +kernel
theorem dX9_floor_152 : decode cX9_floor 152 = .ok (.iconst 1, 1) := by decide +kernel
theorem dX9_floor_153 : decode cX9_floor 153 = .ok (.goto 4, 3) := by decide +kernel
theorem dX9_floor_156 : decode cX9_floor 156 = .ok (.iconst 0, 1) := by decide +kernel
theorem dX9_floor_157 : decode cX9_floor 157 = .ok (.bastore, 1) := by decide +kernel
theorem dX9_floor_158 : decode cX9_floor 158 = .ok (.iinc 5 1, 3) := by decide +kernel
theorem dX9_floor_161 : decode cX9_floor 161 = .ok (.goto (-29), 3) := by decide +kernel
theorem dX9_floor_164 : decode cX9_floor 164 = .ok (.iconst 0, 1) := by decide +kernel
theorem dX9_floor_165 : decode cX9_floor 165 = .ok (.istore 5, 2) := by decide +kernel
theorem dX9_floor_167 : decode cX9_floor 167 = .ok (.iload 5, 2) := by decide +kernel
theorem dX9_floor_169 : decode cX9_floor 169 = .ok (.sipush 200, 3) := by decide +kernel
theorem dX9_floor_172 : decode cX9_floor 172 = .ok (.if_icmp .ge 17, 3) := by decide +kernel
theorem dX9_floor_175 : decode cX9_floor 175 = .ok (.aload_n 0, 1) := by decide +kernel
theorem dX9_floor_176 : decode cX9_floor 176 = .ok (.iload_n 2, 1) := by decide +kernel
theorem dX9_floor_177 : decode cX9_floor 177 = .ok (.invokevirtual 573, 3) := by decide +kernel
theorem dX9_floor_180 : decode cX9_floor 180 = .ok (.ifCond .eq 9, 3) := by decide +kernel
theorem dX9_floor_183 : decode cX9_floor 183 = .ok (.iinc 5 1, 3) := by decide +kernel
theorem dX9_floor_186 : decode cX9_floor 186 = .ok (.goto (-19), 3) := by decide +kernel
theorem dX9_floor_189 : decode cX9_floor 189 = .ok (.iload 5, 2) := by decide +kernel
theorem dX9_floor_191 : decode cX9_floor 191 = .ok (.ireturn, 1) := by decide +kernel
theorem dX9_could_0 : decode cX9_could 0 = .ok (.aload_n 0, 1) := by decide +kernel
theorem dX9_could_1 : decode cX9_could 1 = .ok (.iload_n 1, 1) := by decide +kernel
theorem dX9_could_2 : decode cX9_could 2 = .ok (.invokevirtual 472, 3) := by decide +kernel
theorem dX9_could_5 : decode cX9_could 5 = .ok (.ifCond .eq 22, 3) := by decide +kernel
theorem dX9_could_8 : decode cX9_could 8 = .ok (.iload_n 2, 1) := by decide +kernel
theorem dX9_could_9 : decode cX9_could 9 = .ok (.ifCond .lt 18, 3) := by decide +kernel
theorem dX9_could_12 : decode cX9_could 12 = .ok (.iload_n 3, 1) := by decide +kernel
theorem dX9_could_13 : decode cX9_could 13 = .ok (.ifCond .lt 14, 3) := by decide +kernel
theorem dX9_could_16 : decode cX9_could 16 = .ok (.iload 4, 2) := by decide +kernel
theorem dX9_could_18 : decode cX9_could 18 = .ok (.ifCond .lt 9, 3) := by decide +kernel
theorem dX9_could_21 : decode cX9_could 21 = .ok (.iload 4, 2) := by decide +kernel
theorem dX9_could_23 : decode cX9_could 23 = .ok (.iconst 2, 1) := by decide +kernel
theorem dX9_could_24 : decode cX9_could 24 = .ok (.if_icmp .le 5, 3) := by decide +kernel
theorem dX9_could_27 : decode cX9_could 27 = .ok (.iconst (-1), 1) := by decide +kernel
theorem dX9_could_28 : decode cX9_could 28 = .ok (.ireturn, 1) := by decide +kernel
theorem dX9_could_29 : decode cX9_could 29 = .ok (.iconst 0, 1) := by decide +kernel
theorem dX9_could_30 : decode cX9_could 30 = .ok (.istore 5, 2) := by decide +kernel
theorem dX9_could_32 : decode cX9_could 32 = .ok (.iconst 1, 1) := by decide +kernel
theorem dX9_could_33 : decode cX9_could 33 = .ok (.aload_n 0, 1) := by decide +kernel
theorem dX9_could_34 : decode cX9_could 34 = .ok (.invokevirtual 417, 3) := by decide +kernel
theorem dX9_could_37 : decode cX9_could 37 = .ok (.ishl, 1) := by decide +kernel
theorem dX9_could_38 : decode cX9_could 38 = .ok (.iconst 1, 1) := by decide +kernel
theorem dX9_could_39 : decode cX9_could 39 = .ok (.isub, 1) := by decide +kernel
theorem dX9_could_40 : decode cX9_could 40 = .ok (.istore 6, 2) := by decide +kernel
theorem dX9_could_42 : decode cX9_could 42 = .ok (.iconst 0, 1) := by decide +kernel
theorem dX9_could_43 : decode cX9_could 43 = .ok (.istore 7, 2) := by decide +kernel
theorem dX9_could_45 : decode cX9_could 45 = .ok (.iconst 0, 1) := by decide +kernel
theorem dX9_could_46 : decode cX9_could 46 = .ok (.istore 8, 2) := by decide +kernel
theorem dX9_could_48 : decode cX9_could 48 = .ok (.iload 8, 2) := by decide +kernel
theorem dX9_could_50 : decode cX9_could 50 = .ok (.iconst 1, 1) := by decide +kernel
theorem dX9_could_51 : decode cX9_could 51 = .ok (.aload_n 0, 1) := by decide +kernel
theorem dX9_could_52 : decode cX9_could 52 = .ok (.invokevirtual 417, 3) := by decide +kernel
theorem dX9_could_55 : decode cX9_could 55 = .ok (.ishl, 1) := by decide +kernel
theorem dX9_could_56 : decode cX9_could 56 = .ok (.if_icmp .ge 71, 3) := by decide +kernel
theorem dX9_could_59 : decode cX9_could 59 = .ok (.iload 8, 2) := by decide +kernel
theorem dX9_could_61 : decode cX9_could 61 = .ok (.invokestatic 442, 3) := by decide +kernel
theorem dX9_could_64 : decode cX9_could 64 = .ok (.aload_n 0, 1) := by decide +kernel
theorem dX9_could_65 : decode cX9_could 65 = .ok (.invokevirtual 557, 3) := by decide +kernel
theorem dX9_could_68 : decode cX9_could 68 = .ok (.if_icmp .gt 53, 3) := by decide +kernel
theorem dX9_could_71 : decode cX9_could 71 = .ok (.aload_n 0, 1) := by decide +kernel
theorem dX9_could_72 : decode cX9_could 72 = .ok (.iload 8, 2) := by decide +kernel
theorem dX9_could_74 : decode cX9_could 74 = .ok (.iload_n 1, 1) := by decide +kernel
theorem dX9_could_75 : decode cX9_could 75 = .ok (.iconst 0, 1) := by decide +kernel
theorem dX9_could_76 : decode cX9_could 76 = .ok (.invokevirtual 484, 3) := by decide +kernel
theorem dX9_could_79 : decode cX9_could 79 = .ok (.invokestatic 442, 3) := by decide +kernel
theorem dX9_could_82 : decode cX9_could 82 = .ok (.iload_n 2, 1) := by decide +kernel
theorem dX9_could_83 : decode cX9_could 83 = .ok (.if_icmp .ne 38, 3) := by decide +kernel
theorem dX9_could_86 : decode cX9_could 86 = .ok (.aload_n 0, 1) := by decide +kernel
theorem dX9_could_87 : decode cX9_could 87 = .ok (.iload 8, 2) := by decide +kernel
theorem dX9_could_89 : decode cX9_could 89 = .ok (.iload_n 1, 1) := by decide +kernel
theorem dX9_could_90 : decode cX9_could 90 = .ok (.iconst 0, 1) := by decide +kernel
theorem dX9_could_91 : decode cX9_could 91 = .ok (.invokevirtual 487, 3) := by decide +kernel
theorem dX9_could_94 : decode cX9_could 94 = .ok (.invokestatic 442, 3) := by decide +kernel
theorem dX9_could_97 : decode cX9_could 97 = .ok (.iload_n 3, 1) := by decide +kernel
theorem dX9_could_98 : decode cX9_could 98 = .ok (.if_icmp .eq 6, 3) := by decide +kernel
theorem dX9_could_101 : decode cX9_could 101 = .ok (.goto 20, 3) := by decide +kernel
theorem dX9_could_104 : decode cX9_could 104 = .ok (.iinc 5 1, 3) := by decide +kernel
theorem dX9_could_107 : decode cX9_could 107 = .ok (.iload 6, 2) := by decide +kernel
theorem dX9_could_109 : decode cX9_could 109 = .ok (.iload 8, 2) := by decide +kernel
theorem dX9_could_111 : decode cX9_could 111 = .ok (.iand, 1) := by decide +kernel
theorem dX9_could_112 : decode cX9_could 112 = .ok (.istore 6, 2) := by decide +kernel
theorem dX9_could_114 : decode cX9_could 114 = .ok (.iload 7, 2) := by decide +kernel
theorem dX9_could_116 : decode cX9_could 116 = .ok (.iload 8, 2) := by decide +kernel
theorem dX9_could_118 : decode cX9_could 118 = .ok (.ior, 1) := by decide +kernel
theorem dX9_could_119 : decode cX9_could 119 = .ok (.istore 7, 2) := by decide +kernel
theorem dX9_could_121 : decode cX9_could 121 = .ok (.iinc 8 1, 3) := by decide +kernel
theorem dX9_could_124 : decode cX9_could 124 = .ok (.goto (-76), 3) := by decide +kernel
theorem dX9_could_127 : decode cX9_could 127 = .ok (.iload 4, 2) := by decide +kernel
theorem dX9_could_129 : decode cX9_could 129 = .ok (.ifCond .ne 8, 3) := by decide +kernel
theorem dX9_could_132 : decode cX9_could 132 = .ok (.iload 5, 2) := by decide +kernel
theorem dX9_could_134 : decode cX9_could 134 = .ok (.goto 25, 3) := by decide +kernel
theorem dX9_could_137 : decode cX9_could 137 = .ok (.iload 5, 2) := by decide +kernel
theorem dX9_could_139 : decode cX9_could 139 = .ok (.ifCond .ne 7, 3) := by decide +kernel
theorem dX9_could_142 : decode cX9_could 142 = .ok (.iconst 0, 1) := by decide +kernel
theorem dX9_could_143 : decode cX9_could 143 = .ok (.goto 16, 3) := by decide +kernel
theorem dX9_could_146 : decode cX9_could 146 = .ok (.iload 4, 2) := by decide +kernel
theorem dX9_could_148 : decode cX9_could 148 = .ok (.iconst 1, 1) := by decide +kernel
theorem dX9_could_149 : decode cX9_could 149 = .ok (.if_icmp .ne 8, 3) := by decide +kernel
theorem dX9_could_152 : decode cX9_could 152 = .ok (.iload 6, 2) := by decide +kernel
theorem dX9_could_154 : decode cX9_could 154 = .ok (.goto 5, 3) := by decide +kernel
theorem dX9_could_157 : decode cX9_could 157 = .ok (.iload 7, 2) := by decide +kernel
theorem dX9_could_159 : decode cX9_could 159 = .ok (.ireturn, 1) := by decide +kernel
theorem dX9_entry_0 : decode cX9_entry 0 = .ok (.iload_n 1, 1) := by decide +kernel
theorem dX9_entry_1 : decode cX9_entry 1 = .ok (.ifCond .lt 36, 3) := by decide +kernel
theorem dX9_entry_4 : decode cX9_entry 4 = .ok (.iload_n 1, 1) := by decide +kernel
theorem dX9_entry_5 : decode cX9_entry 5 = .ok (.bipush 100, 2) := by decide +kernel
theorem dX9_entry_7 : decode cX9_entry 7 = .ok (.if_icmp .ge 30, 3) := by decide +kernel
theorem dX9_entry_10 : decode cX9_entry 10 = .ok (.aload_n 0, 1) := by decide +kernel
theorem dX9_entry_11 : decode cX9_entry 11 = .ok (.iload_n 2, 1) := by decide +kernel
theorem dX9_entry_12 : decode cX9_entry 12 = .ok (.invokevirtual 433, 3) := by decide +kernel
theorem dX9_entry_15 : decode cX9_entry 15 = .ok (.ifCond .eq 22, 3) := by decide +kernel
theorem dX9_entry_18 : decode cX9_entry 18 = .ok (.iload_n 3, 1) := by decide +kernel
theorem dX9_entry_19 : decode cX9_entry 19 = .ok (.iconst (-1), 1) := by decide +kernel
theorem dX9_entry_20 : decode cX9_entry 20 = .ok (.if_icmp .lt 17, 3) := by decide +kernel
theorem dX9_entry_23 : decode cX9_entry 23 = .ok (.iload_n 3, 1) := by decide +kernel
theorem dX9_entry_24 : decode cX9_entry 24 = .ok (.iconst 1, 1) := by decide +kernel
theorem dX9_entry_25 : decode cX9_entry 25 = .ok (.if_icmp .gt 12, 3) := by decide +kernel
theorem dX9_entry_28 : decode cX9_entry 28 = .ok (.aload_n 0, 1) := by decide +kernel
theorem dX9_entry_29 : decode cX9_entry 29 = .ok (.getfield 410, 3) := by decide +kernel
theorem dX9_entry_32 : decode cX9_entry 32 = .ok (.bipush 40, 2) := by decide +kernel
theorem dX9_entry_34 : decode cX9_entry 34 = .ok (.if_icmp .ne 5, 3) := by decide +kernel
theorem dX9_entry_37 : decode cX9_entry 37 = .ok (.iconst (-1), 1) := by decide +kernel
theorem dX9_entry_38 : decode cX9_entry 38 = .ok (.ireturn, 1) := by decide +kernel
theorem dX9_entry_39 : decode cX9_entry 39 = .ok (.aload_n 0, 1) := by decide +kernel
theorem dX9_entry_40 : decode cX9_entry 40 = .ok (.getfield 140, 3) := by decide +kernel
theorem dX9_entry_43 : decode cX9_entry 43 = .ok (.aload_n 0, 1) := by decide +kernel
theorem dX9_entry_44 : decode cX9_entry 44 = .ok (.getfield 410, 3) := by decide +kernel
theorem dX9_entry_47 : decode cX9_entry 47 = .ok (.iload_n 1, 1) := by decide +kernel
theorem dX9_entry_48 : decode cX9_entry 48 = .ok (.iastore, 1) := by decide +kernel
theorem dX9_entry_49 : decode cX9_entry 49 = .ok (.aload_n 0, 1) := by decide +kernel
theorem dX9_entry_50 : decode cX9_entry 50 = .ok (.getfield 143, 3) := by decide +kernel
theorem dX9_entry_53 : decode cX9_entry 53 = .ok (.aload_n 0, 1) := by decide +kernel
theorem dX9_entry_54 : decode cX9_entry 54 = .ok (.getfield 410, 3) := by decide +kernel
theorem dX9_entry_57 : decode cX9_entry 57 = .ok (.iload_n 2, 1) := by decide +kernel
theorem dX9_entry_58 : decode cX9_entry 58 = .ok (.iastore, 1) := by decide +kernel
theorem dX9_entry_59 : decode cX9_entry 59 = .ok (.aload_n 0, 1) := by decide +kernel
theorem dX9_entry_60 : decode cX9_entry 60 = .ok (.getfield 146, 3) := by decide +kernel
theorem dX9_entry_63 : decode cX9_entry 63 = .ok (.aload_n 0, 1) := by decide +kernel
theorem dX9_entry_64 : decode cX9_entry 64 = .ok (.getfield 410, 3) := by decide +kernel
theorem dX9_entry_67 : decode cX9_entry 67 = .ok (.iload_n 3, 1) := by decide +kernel
theorem dX9_entry_68 : decode cX9_entry 68 = .ok (.iastore, 1) := by decide +kernel
theorem dX9_entry_69 : decode cX9_entry 69 = .ok (.aload_n 0, 1) := by decide +kernel
theorem dX9_entry_70 : decode cX9_entry 70 = .ok (.getfield 149, 3) := by decide +kernel
theorem dX9_entry_73 : decode cX9_entry 73 = .ok (.aload_n 0, 1) := by decide +kernel
theorem dX9_entry_74 : decode cX9_entry 74 = .ok (.getfield 410, 3) := by decide +kernel
theorem dX9_entry_77 : decode cX9_entry 77 = .ok (.aload_n 0, 1) := by decide +kernel
theorem dX9_entry_78 : decode cX9_entry 78 = .ok (.getfield 576, 3) := by decide +kernel
theorem dX9_entry_81 : decode cX9_entry 81 = .ok (.iastore, 1) := by decide +kernel
theorem dX9_entry_82 : decode cX9_entry 82 = .ok (.aload_n 0, 1) := by decide +kernel
theorem dX9_entry_83 : decode cX9_entry 83 = .ok (.getfield 152, 3) := by decide +kernel
theorem dX9_entry_86 : decode cX9_entry 86 = .ok (.aload_n 0, 1) := by decide +kernel
theorem dX9_entry_87 : decode cX9_entry 87 = .ok (.getfield 410, 3) := by decide +kernel
theorem dX9_entry_90 : decode cX9_entry 90 = .ok (.iconst (-1), 1) := by decide +kernel
theorem dX9_entry_91 : decode cX9_entry 91 = .ok (.iastore, 1) := by decide +kernel
theorem dX9_entry_92 : decode cX9_entry 92 = .ok (.aload_n 0, 1) := by decide +kernel
theorem dX9_entry_93 : decode cX9_entry 93 = .ok (.dup, 1) := by decide +kernel
theorem dX9_entry_94 : decode cX9_entry 94 = .ok (.getfield 410, 3) := by decide +kernel
theorem dX9_entry_97 : decode cX9_entry 97 = .ok (.iconst 1, 1) := by decide +kernel
theorem dX9_entry_98 : decode cX9_entry 98 = .ok (.iadd, 1) := by decide +kernel
theorem dX9_entry_99 : decode cX9_entry 99 = .ok (.putfield 410, 3) := by decide +kernel
theorem dX9_entry_102 : decode cX9_entry 102 = .ok (.aload_n 0, 1) := by decide +kernel
theorem dX9_entry_103 : decode cX9_entry 103 = .ok (.getfield 410, 3) := by decide +kernel
theorem dX9_entry_106 : decode cX9_entry 106 = .ok (.iconst 1, 1) := by decide +kernel
theorem dX9_entry_107 : decode cX9_entry 107 = .ok (.isub, 1) := by decide +kernel
theorem dX9_entry_108 : decode cX9_entry 108 = .ok (.ireturn, 1) := by decide +kernel
theorem dX9_untell_0 : decode cX9_untell 0 = .ok (.iload_n 1, 1) := by decide +kernel
theorem dX9_untell_1 : decode cX9_untell 1 = .ok (.ifCond .lt 20, 3) := by decide +kernel
theorem dX9_untell_4 : decode cX9_untell 4 = .ok (.iload_n 1, 1) := by decide +kernel
theorem dX9_untell_5 : decode cX9_untell 5 = .ok (.aload_n 0, 1) := by decide +kernel
theorem dX9_untell_6 : decode cX9_untell 6 = .ok (.getfield 410, 3) := by decide +kernel
theorem dX9_untell_9 : decode cX9_untell 9 = .ok (.if_icmp .ge 12, 3) := by decide +kernel
theorem dX9_untell_12 : decode cX9_untell 12 = .ok (.aload_n 0, 1) := by decide +kernel
theorem dX9_untell_13 : decode cX9_untell 13 = .ok (.getfield 152, 3) := by decide +kernel
theorem dX9_untell_16 : decode cX9_untell 16 = .ok (.iload_n 1, 1) := by decide +kernel
theorem dX9_untell_17 : decode cX9_untell 17 = .ok (.iaload, 1) := by decide +kernel
theorem dX9_untell_18 : decode cX9_untell 18 = .ok (.ifCond .lt 5, 3) := by decide +kernel
theorem dX9_untell_21 : decode cX9_untell 21 = .ok (.iconst 0, 1) := by decide +kernel
theorem dX9_untell_22 : decode cX9_untell 22 = .ok (.ireturn, 1) := by decide +kernel
theorem dX9_untell_23 : decode cX9_untell 23 = .ok (.aload_n 0, 1) := by decide +kernel
theorem dX9_untell_24 : decode cX9_untell 24 = .ok (.getfield 152, 3) := by decide +kernel
theorem dX9_untell_27 : decode cX9_untell 27 = .ok (.iload_n 1, 1) := by decide +kernel
theorem dX9_untell_28 : decode cX9_untell 28 = .ok (.aload_n 0, 1) := by decide +kernel
theorem dX9_untell_29 : decode cX9_untell 29 = .ok (.getfield 576, 3) := by decide +kernel
theorem dX9_untell_32 : decode cX9_untell 32 = .ok (.iastore, 1) := by decide +kernel
theorem dX9_untell_33 : decode cX9_untell 33 = .ok (.iconst 1, 1) := by decide +kernel
theorem dX9_untell_34 : decode cX9_untell 34 = .ok (.ireturn, 1) := by decide +kernel
theorem dX9_later_0 : decode cX9_later 0 = .ok (.iload_n 1, 1) := by decide +kernel
theorem dX9_later_1 : decode cX9_later 1 = .ok (.ifCond .lt 22, 3) := by decide +kernel
theorem dX9_later_4 : decode cX9_later 4 = .ok (.iload_n 1, 1) := by decide +kernel
theorem dX9_later_5 : decode cX9_later 5 = .ok (.sipush 1000, 3) := by decide +kernel
theorem dX9_later_8 : decode cX9_later 8 = .ok (.if_icmp .gt 15, 3) := by decide +kernel
theorem dX9_later_11 : decode cX9_later 11 = .ok (.aload_n 0, 1) := by decide +kernel
theorem dX9_later_12 : decode cX9_later 12 = .ok (.getfield 576, 3) := by decide +kernel
theorem dX9_later_15 : decode cX9_later 15 = .ok (.iload_n 1, 1) := by decide +kernel
theorem dX9_later_16 : decode cX9_later 16 = .ok (.iadd, 1) := by decide +kernel
theorem dX9_later_17 : decode cX9_later 17 = .ok (.ldc_w 579, 3) := by decide +kernel
theorem dX9_later_20 : decode cX9_later 20 = .ok (.if_icmp .le 5, 3) := by decide +kernel
theorem dX9_later_23 : decode cX9_later 23 = .ok (.iconst (-1), 1) := by decide +kernel
theorem dX9_later_24 : decode cX9_later 24 = .ok (.ireturn, 1) := by decide +kernel
theorem dX9_later_25 : decode cX9_later 25 = .ok (.aload_n 0, 1) := by decide +kernel
theorem dX9_later_26 : decode cX9_later 26 = .ok (.dup, 1) := by decide +kernel
theorem dX9_later_27 : decode cX9_later 27 = .ok (.getfield 576, 3) := by decide +kernel
theorem dX9_later_30 : decode cX9_later 30 = .ok (.iload_n 1, 1) := by decide +kernel
theorem dX9_later_31 : decode cX9_later 31 = .ok (.iadd, 1) := by decide +kernel
theorem dX9_later_32 : decode cX9_later 32 = .ok (.putfield 576, 3) := by decide +kernel
theorem dX9_later_35 : decode cX9_later 35 = .ok (.aload_n 0, 1) := by decide +kernel
theorem dX9_later_36 : decode cX9_later 36 = .ok (.getfield 576, 3) := by decide +kernel
theorem dX9_later_39 : decode cX9_later 39 = .ok (.ireturn, 1) := by decide +kernel
theorem dX9_counts_0 : decode cX9_counts 0 = .ok (.aload_n 0, 1) := by decide +kernel
theorem dX9_counts_1 : decode cX9_counts 1 = .ok (.getfield 149, 3) := by decide +kernel
theorem dX9_counts_4 : decode cX9_counts 4 = .ok (.iload_n 1, 1) := by decide +kernel
theorem dX9_counts_5 : decode cX9_counts 5 = .ok (.iaload, 1) := by decide +kernel
theorem dX9_counts_6 : decode cX9_counts 6 = .ok (.iload_n 2, 1) := by decide +kernel
theorem dX9_counts_7 : decode cX9_counts 7 = .ok (.if_icmp .gt 39, 3) := by decide +kernel
theorem dX9_counts_10 : decode cX9_counts 10 = .ok (.aload_n 0, 1) := by decide +kernel
theorem dX9_counts_11 : decode cX9_counts 11 = .ok (.getfield 152, 3) := by decide +kernel
theorem dX9_counts_14 : decode cX9_counts 14 = .ok (.iload_n 1, 1) := by decide +kernel
theorem dX9_counts_15 : decode cX9_counts 15 = .ok (.iaload, 1) := by decide +kernel
theorem dX9_counts_16 : decode cX9_counts 16 = .ok (.ifCond .lt 13, 3) := by decide +kernel
theorem dX9_counts_19 : decode cX9_counts 19 = .ok (.aload_n 0, 1) := by decide +kernel
theorem dX9_counts_20 : decode cX9_counts 20 = .ok (.getfield 152, 3) := by decide +kernel
theorem dX9_counts_23 : decode cX9_counts 23 = .ok (.iload_n 1, 1) := by decide +kernel
theorem dX9_counts_24 : decode cX9_counts 24 = .ok (.iaload, 1) := by decide +kernel
theorem dX9_counts_25 : decode cX9_counts 25 = .ok (.iload_n 2, 1) := by decide +kernel
theorem dX9_counts_26 : decode cX9_counts 26 = .ok (.if_icmp .le 20, 3) := by decide +kernel
theorem dX9_counts_29 : decode cX9_counts 29 = .ok (.aload_n 0, 1) := by decide +kernel
theorem dX9_counts_30 : decode cX9_counts 30 = .ok (.getfield 140, 3) := by decide +kernel
theorem dX9_counts_33 : decode cX9_counts 33 = .ok (.iload_n 1, 1) := by decide +kernel
theorem dX9_counts_34 : decode cX9_counts 34 = .ok (.iaload, 1) := by decide +kernel
theorem dX9_counts_35 : decode cX9_counts 35 = .ok (.aload_n 0, 1) := by decide +kernel
theorem dX9_counts_36 : decode cX9_counts 36 = .ok (.invokevirtual 505, 3) := by decide +kernel
theorem dX9_counts_39 : decode cX9_counts 39 = .ok (.if_icmp .ge 7, 3) := by decide +kernel
theorem dX9_counts_42 : decode cX9_counts 42 = .ok (.iconst 1, 1) := by decide +kernel
theorem dX9_counts_43 : decode cX9_counts 43 = .ok (.goto 4, 3) := by decide +kernel
theorem dX9_counts_46 : decode cX9_counts 46 = .ok (.iconst 0, 1) := by decide +kernel
theorem dX9_counts_47 : decode cX9_counts 47 = .ok (.ireturn, 1) := by decide +kernel
theorem dX9_isWrong_0 : decode cX9_isWrong 0 = .ok (.bipush 6, 2) := by decide +kernel
theorem dX9_isWrong_2 : decode cX9_isWrong 2 = .ok (.aload_n 0, 1) := by decide +kernel
theorem dX9_isWrong_3 : decode cX9_isWrong 3 = .ok (.getfield 140, 3) := by decide +kernel
theorem dX9_isWrong_6 : decode cX9_isWrong 6 = .ok (.iload_n 1, 1) := by decide +kernel
theorem dX9_isWrong_7 : decode cX9_isWrong 7 = .ok (.iaload, 1) := by decide +kernel
theorem dX9_isWrong_8 : decode cX9_isWrong 8 = .ok (.imul, 1) := by decide +kernel
theorem dX9_isWrong_9 : decode cX9_isWrong 9 = .ok (.istore_n 3, 1) := by decide +kernel
theorem dX9_isWrong_10 : decode cX9_isWrong 10 = .ok (.aload_n 0, 1) := by decide +kernel
theorem dX9_isWrong_11 : decode cX9_isWrong 11 = .ok (.getfield 143, 3) := by decide +kernel
theorem dX9_isWrong_14 : decode cX9_isWrong 14 = .ok (.iload_n 1, 1) := by decide +kernel
theorem dX9_isWrong_15 : decode cX9_isWrong 15 = .ok (.iaload, 1) := by decide +kernel
theorem dX9_isWrong_16 : decode cX9_isWrong 16 = .ok (.istore 4, 2) := by decide +kernel
theorem dX9_isWrong_18 : decode cX9_isWrong 18 = .ok (.iload_n 2, 1) := by decide +kernel
theorem dX9_isWrong_19 : decode cX9_isWrong 19 = .ok (.ifCond .eq 35, 3) := by decide +kernel
theorem dX9_isWrong_22 : decode cX9_isWrong 22 = .ok (.aload_n 0, 1) := by decide +kernel
theorem dX9_isWrong_23 : decode cX9_isWrong 23 = .ok (.getfield 146, 3) := by decide +kernel
theorem dX9_isWrong_26 : decode cX9_isWrong 26 = .ok (.iload_n 1, 1) := by decide +kernel
theorem dX9_isWrong_27 : decode cX9_isWrong 27 = .ok (.iaload, 1) := by decide +kernel
theorem dX9_isWrong_28 : decode cX9_isWrong 28 = .ok (.ifCond .eq 24, 3) := by decide +kernel
theorem dX9_isWrong_31 : decode cX9_isWrong 31 = .ok (.aload_n 0, 1) := by decide +kernel
theorem dX9_isWrong_32 : decode cX9_isWrong 32 = .ok (.getfield 118, 3) := by decide +kernel
theorem dX9_isWrong_35 : decode cX9_isWrong 35 = .ok (.iload_n 3, 1) := by decide +kernel
theorem dX9_isWrong_36 : decode cX9_isWrong 36 = .ok (.iconst 4, 1) := by decide +kernel
theorem dX9_isWrong_37 : decode cX9_isWrong 37 = .ok (.iadd, 1) := by decide +kernel
theorem dX9_isWrong_38 : decode cX9_isWrong 38 = .ok (.iaload, 1) := by decide +kernel
theorem dX9_isWrong_39 : decode cX9_isWrong 39 = .ok (.iload 4, 2) := by decide +kernel
theorem dX9_isWrong_41 : decode cX9_isWrong 41 = .ok (.ishr, 1) := by decide +kernel
theorem dX9_isWrong_42 : decode cX9_isWrong 42 = .ok (.iconst 1, 1) := by decide +kernel
theorem dX9_isWrong_43 : decode cX9_isWrong 43 = .ok (.iand, 1) := by decide +kernel
theorem dX9_isWrong_44 : decode cX9_isWrong 44 = .ok (.iconst 1, 1) := by decide +kernel
theorem dX9_isWrong_45 : decode cX9_isWrong 45 = .ok (.if_icmp .ne 7, 3) := by decide +kernel
theorem dX9_isWrong_48 : decode cX9_isWrong 48 = .ok (.iconst 1, 1) := by decide +kernel
theorem dX9_isWrong_49 : decode cX9_isWrong 49 = .ok (.goto 4, 3) := by decide +kernel
theorem dX9_isWrong_52 : decode cX9_isWrong 52 = .ok (.iconst 0, 1) := by decide +kernel
theorem dX9_isWrong_53 : decode cX9_isWrong 53 = .ok (.ireturn, 1) := by decide +kernel
theorem dX9_isWrong_54 : decode cX9_isWrong 54 = .ok (.aload_n 0, 1) := by decide +kernel
theorem dX9_isWrong_55 : decode cX9_isWrong 55 = .ok (.getfield 118, 3) := by decide +kernel
theorem dX9_isWrong_58 : decode cX9_isWrong 58 = .ok (.iload_n 3, 1) := by decide +kernel
theorem dX9_isWrong_59 : decode cX9_isWrong 59 = .ok (.iconst 2, 1) := by decide +kernel
theorem dX9_isWrong_60 : decode cX9_isWrong 60 = .ok (.iadd, 1) := by decide +kernel
theorem dX9_isWrong_61 : decode cX9_isWrong 61 = .ok (.iaload, 1) := by decide +kernel
theorem dX9_isWrong_62 : decode cX9_isWrong 62 = .ok (.iload 4, 2) := by decide +kernel
theorem dX9_isWrong_64 : decode cX9_isWrong 64 = .ok (.ishr, 1) := by decide +kernel
theorem dX9_isWrong_65 : decode cX9_isWrong 65 = .ok (.iconst 1, 1) := by decide +kernel
theorem dX9_isWrong_66 : decode cX9_isWrong 66 = .ok (.iand, 1) := by decide +kernel
theorem dX9_isWrong_67 : decode cX9_isWrong 67 = .ok (.iconst 1, 1) := by decide +kernel
theorem dX9_isWrong_68 : decode cX9_isWrong 68 = .ok (.if_icmp .ne 7, 3) := by decide +kernel
theorem dX9_isWrong_71 : decode cX9_isWrong 71 = .ok (.iconst 1, 1) := by decide +kernel
theorem dX9_isWrong_72 : decode cX9_isWrong 72 = .ok (.goto 25, 3) := by decide +kernel
theorem dX9_isWrong_75 : decode cX9_isWrong 75 = .ok (.aload_n 0, 1) := by decide +kernel
theorem dX9_isWrong_76 : decode cX9_isWrong 76 = .ok (.getfield 118, 3) := by decide +kernel
theorem dX9_isWrong_79 : decode cX9_isWrong 79 = .ok (.iload_n 3, 1) := by decide +kernel
theorem dX9_isWrong_80 : decode cX9_isWrong 80 = .ok (.iconst 3, 1) := by decide +kernel
theorem dX9_isWrong_81 : decode cX9_isWrong 81 = .ok (.iadd, 1) := by decide +kernel
theorem dX9_isWrong_82 : decode cX9_isWrong 82 = .ok (.iaload, 1) := by decide +kernel
theorem dX9_isWrong_83 : decode cX9_isWrong 83 = .ok (.iload 4, 2) := by decide +kernel
theorem dX9_isWrong_85 : decode cX9_isWrong 85 = .ok (.ishr, 1) := by decide +kernel
theorem dX9_isWrong_86 : decode cX9_isWrong 86 = .ok (.iconst 1, 1) := by decide +kernel
theorem dX9_isWrong_87 : decode cX9_isWrong 87 = .ok (.iand, 1) := by decide +kernel
theorem dX9_isWrong_88 : decode cX9_isWrong 88 = .ok (.iconst 1, 1) := by decide +kernel
theorem dX9_isWrong_89 : decode cX9_isWrong 89 = .ok (.if_icmp .ne 7, 3) := by decide +kernel
theorem dX9_isWrong_92 : decode cX9_isWrong 92 = .ok (.iconst (-1), 1) := by decide +kernel
theorem dX9_isWrong_93 : decode cX9_isWrong 93 = .ok (.goto 4, 3) := by decide +kernel
theorem dX9_isWrong_96 : decode cX9_isWrong 96 = .ok (.iconst 0, 1) := by decide +kernel
theorem dX9_isWrong_97 : decode cX9_isWrong 97 = .ok (.istore 5, 2) := by decide +kernel
theorem dX9_isWrong_99 : decode cX9_isWrong 99 = .ok (.iload 5, 2) := by decide +kernel
theorem dX9_isWrong_101 : decode cX9_isWrong 101 = .ok (.aload_n 0, 1) := by decide +kernel
theorem dX9_isWrong_102 : decode cX9_isWrong 102 = .ok (.getfield 146, 3) := by decide +kernel
theorem dX9_isWrong_105 : decode cX9_isWrong 105 = .ok (.iload_n 1, 1) := by decide +kernel
theorem dX9_isWrong_106 : decode cX9_isWrong 106 = .ok (.iaload, 1) := by decide +kernel
theorem dX9_isWrong_107 : decode cX9_isWrong 107 = .ok (.if_icmp .eq 7, 3) := by decide +kernel
theorem dX9_isWrong_110 : decode cX9_isWrong 110 = .ok (.iconst 1, 1) := by decide +kernel
theorem dX9_isWrong_111 : decode cX9_isWrong 111 = .ok (.goto 4, 3) := by decide +kernel
theorem dX9_isWrong_114 : decode cX9_isWrong 114 = .ok (.iconst 0, 1) := by decide +kernel
theorem dX9_isWrong_115 : decode cX9_isWrong 115 = .ok (.ireturn, 1) := by decide +kernel
theorem dX9_judge_0 : decode cX9_judge 0 = .ok (.iload_n 1, 1) := by decide +kernel
theorem dX9_judge_1 : decode cX9_judge 1 = .ok (.ifCond .lt 8, 3) := by decide +kernel
theorem dX9_judge_4 : decode cX9_judge 4 = .ok (.iload_n 1, 1) := by decide +kernel
theorem dX9_judge_5 : decode cX9_judge 5 = .ok (.iconst 2, 1) := by decide +kernel
theorem dX9_judge_6 : decode cX9_judge 6 = .ok (.if_icmp .le 5, 3) := by decide +kernel
theorem dX9_judge_9 : decode cX9_judge 9 = .ok (.iconst (-1), 1) := by decide +kernel
theorem dX9_judge_10 : decode cX9_judge 10 = .ok (.ireturn, 1) := by decide +kernel
theorem dX9_judge_11 : decode cX9_judge 11 = .ok (.iconst 0, 1) := by decide +kernel
theorem dX9_judge_12 : decode cX9_judge 12 = .ok (.istore_n 3, 1) := by decide +kernel
theorem dX9_judge_13 : decode cX9_judge 13 = .ok (.iconst (-1), 1) := by decide +kernel
theorem dX9_judge_14 : decode cX9_judge 14 = .ok (.istore 4, 2) := by decide +kernel
theorem dX9_judge_16 : decode cX9_judge 16 = .ok (.iconst 0, 1) := by decide +kernel
theorem dX9_judge_17 : decode cX9_judge 17 = .ok (.istore 5, 2) := by decide +kernel
theorem dX9_judge_19 : decode cX9_judge 19 = .ok (.iload 5, 2) := by decide +kernel
theorem dX9_judge_21 : decode cX9_judge 21 = .ok (.aload_n 0, 1) := by decide +kernel
theorem dX9_judge_22 : decode cX9_judge 22 = .ok (.getfield 410, 3) := by decide +kernel
theorem dX9_judge_25 : decode cX9_judge 25 = .ok (.if_icmp .ge 58, 3) := by decide +kernel
theorem dX9_judge_28 : decode cX9_judge 28 = .ok (.aload_n 0, 1) := by decide +kernel
theorem dX9_judge_29 : decode cX9_judge 29 = .ok (.iload 5, 2) := by decide +kernel
theorem dX9_judge_31 : decode cX9_judge 31 = .ok (.iload_n 2, 1) := by decide +kernel
theorem dX9_judge_32 : decode cX9_judge 32 = .ok (.invokevirtual 580, 3) := by decide +kernel
theorem dX9_judge_35 : decode cX9_judge 35 = .ok (.ifCond .eq 42, 3) := by decide +kernel
theorem dX9_judge_38 : decode cX9_judge 38 = .ok (.aload_n 0, 1) := by decide +kernel
theorem dX9_judge_39 : decode cX9_judge 39 = .ok (.iload 5, 2) := by decide +kernel
theorem dX9_judge_41 : decode cX9_judge 41 = .ok (.iload_n 1, 1) := by decide +kernel
theorem dX9_judge_42 : decode cX9_judge 42 = .ok (.iconst 1, 1) := by decide +kernel
theorem dX9_judge_43 : decode cX9_judge 43 = .ok (.if_icmp .ne 7, 3) := by decide +kernel
theorem dX9_judge_46 : decode cX9_judge 46 = .ok (.iconst 1, 1) := by decide +kernel
theorem dX9_judge_47 : decode cX9_judge 47 = .ok (.goto 4, 3) := by decide +kernel
theorem dX9_judge_50 : decode cX9_judge 50 = .ok (.iconst 0, 1) := by decide +kernel
theorem dX9_judge_51 : decode cX9_judge 51 = .ok (.invokevirtual 583, 3) := by decide +kernel
theorem dX9_judge_54 : decode cX9_judge 54 = .ok (.ifCond .ne 6, 3) := by decide +kernel
theorem dX9_judge_57 : decode cX9_judge 57 = .ok (.goto 20, 3) := by decide +kernel
theorem dX9_judge_60 : decode cX9_judge 60 = .ok (.iinc 3 1, 3) := by decide +kernel
theorem dX9_judge_63 : decode cX9_judge 63 = .ok (.iload 4, 2) := by decide +kernel
theorem dX9_judge_65 : decode cX9_judge 65 = .ok (.ifCond .ge 8, 3) := by decide +kernel
theorem dX9_judge_68 : decode cX9_judge 68 = .ok (.iload 5, 2) := by decide +kernel
theorem dX9_judge_70 : decode cX9_judge 70 = .ok (.goto 5, 3) := by decide +kernel
theorem dX9_judge_73 : decode cX9_judge 73 = .ok (.iload 4, 2) := by decide +kernel
theorem dX9_judge_75 : decode cX9_judge 75 = .ok (.istore 4, 2) := by decide +kernel
theorem dX9_judge_77 : decode cX9_judge 77 = .ok (.iinc 5 1, 3) := by decide +kernel
theorem dX9_judge_80 : decode cX9_judge 80 = .ok (.goto (-61), 3) := by decide +kernel
theorem dX9_judge_83 : decode cX9_judge 83 = .ok (.iload_n 1, 1) := by decide +kernel
theorem dX9_judge_84 : decode cX9_judge 84 = .ok (.iconst 2, 1) := by decide +kernel
theorem dX9_judge_85 : decode cX9_judge 85 = .ok (.if_icmp .ne 8, 3) := by decide +kernel
theorem dX9_judge_88 : decode cX9_judge 88 = .ok (.iload 4, 2) := by decide +kernel
theorem dX9_judge_90 : decode cX9_judge 90 = .ok (.goto 4, 3) := by decide +kernel
theorem dX9_judge_93 : decode cX9_judge 93 = .ok (.iload_n 3, 1) := by decide +kernel
theorem dX9_judge_94 : decode cX9_judge 94 = .ok (.ireturn, 1) := by decide +kernel
theorem dX9_isBox_0 : decode cX9_isBox 0 = .ok (.iload_n 0, 1) := by decide +kernel
theorem dX9_isBox_1 : decode cX9_isBox 1 = .ok (.ifCond .lt 12, 3) := by decide +kernel
theorem dX9_isBox_4 : decode cX9_isBox 4 = .ok (.iload_n 0, 1) := by decide +kernel
theorem dX9_isBox_5 : decode cX9_isBox 5 = .ok (.iconst 3, 1) := by decide +kernel
theorem dX9_isBox_6 : decode cX9_isBox 6 = .ok (.if_icmp .ge 7, 3) := by decide +kernel
theorem dX9_isBox_9 : decode cX9_isBox 9 = .ok (.iconst 1, 1) := by decide +kernel
theorem dX9_isBox_10 : decode cX9_isBox 10 = .ok (.goto 4, 3) := by decide +kernel
theorem dX9_isBox_13 : decode cX9_isBox 13 = .ok (.iconst 0, 1) := by decide +kernel
theorem dX9_isBox_14 : decode cX9_isBox 14 = .ok (.ireturn, 1) := by decide +kernel
theorem dX9_image_0 : decode cX9_image 0 = .ok (.iload_n 1, 1) := by decide +kernel
theorem dX9_image_1 : decode cX9_image 1 = .ok (.invokestatic 587, 3) := by decide +kernel
theorem dX9_image_4 : decode cX9_image 4 = .ok (.ifCond .ne 5, 3) := by decide +kernel
theorem dX9_image_7 : decode cX9_image 7 = .ok (.iconst (-1), 1) := by decide +kernel
theorem dX9_image_8 : decode cX9_image 8 = .ok (.ireturn, 1) := by decide +kernel
theorem dX9_image_9 : decode cX9_image 9 = .ok (.aload_n 0, 1) := by decide +kernel
theorem dX9_image_10 : decode cX9_image 10 = .ok (.getfield 155, 3) := by decide +kernel
theorem dX9_image_13 : decode cX9_image 13 = .ok (.iload_n 1, 1) := by decide +kernel
theorem dX9_image_14 : decode cX9_image 14 = .ok (.iconst 1, 1) := by decide +kernel
theorem dX9_image_15 : decode cX9_image 15 = .ok (.bastore, 1) := by decide +kernel
theorem dX9_image_16 : decode cX9_image 16 = .ok (.iconst 0, 1) := by decide +kernel
theorem dX9_image_17 : decode cX9_image 17 = .ok (.istore_n 2, 1) := by decide +kernel
theorem dX9_image_18 : decode cX9_image 18 = .ok (.iload_n 2, 1) := by decide +kernel
theorem dX9_image_19 : decode cX9_image 19 = .ok (.bipush 6, 2) := by decide +kernel
theorem dX9_image_21 : decode cX9_image 21 = .ok (.if_icmp .ge 72, 3) := by decide +kernel
theorem dX9_image_24 : decode cX9_image 24 = .ok (.iconst 5, 1) := by decide +kernel
theorem dX9_image_25 : decode cX9_image 25 = .ok (.bipush 6, 2) := by decide +kernel
theorem dX9_image_27 : decode cX9_image 27 = .ok (.iload_n 1, 1) := by decide +kernel
theorem dX9_image_28 : decode cX9_image 28 = .ok (.imul, 1) := by decide +kernel
theorem dX9_image_29 : decode cX9_image 29 = .ok (.iload_n 2, 1) := by decide +kernel
theorem dX9_image_30 : decode cX9_image 30 = .ok (.iadd, 1) := by decide +kernel
theorem dX9_image_31 : decode cX9_image 31 = .ok (.imul, 1) := by decide +kernel
theorem dX9_image_32 : decode cX9_image 32 = .ok (.istore_n 3, 1) := by decide +kernel
theorem dX9_image_33 : decode cX9_image 33 = .ok (.aload_n 0, 1) := by decide +kernel
theorem dX9_image_34 : decode cX9_image 34 = .ok (.getfield 158, 3) := by decide +kernel
theorem dX9_image_37 : decode cX9_image 37 = .ok (.iload_n 3, 1) := by decide +kernel
theorem dX9_image_38 : decode cX9_image 38 = .ok (.aload_n 0, 1) := by decide +kernel
theorem dX9_image_39 : decode cX9_image 39 = .ok (.getfield 94, 3) := by decide +kernel
theorem dX9_image_42 : decode cX9_image 42 = .ok (.iload_n 2, 1) := by decide +kernel
theorem dX9_image_43 : decode cX9_image 43 = .ok (.iaload, 1) := by decide +kernel
theorem dX9_image_44 : decode cX9_image 44 = .ok (.iastore, 1) := by decide +kernel
theorem dX9_image_45 : decode cX9_image 45 = .ok (.aload_n 0, 1) := by decide +kernel
theorem dX9_image_46 : decode cX9_image 46 = .ok (.getfield 158, 3) := by decide +kernel
theorem dX9_image_49 : decode cX9_image 49 = .ok (.iload_n 3, 1) := by decide +kernel
theorem dX9_image_50 : decode cX9_image 50 = .ok (.iconst 1, 1) := by decide +kernel
theorem dX9_image_51 : decode cX9_image 51 = .ok (.iadd, 1) := by decide +kernel
theorem dX9_image_52 : decode cX9_image 52 = .ok (.aload_n 0, 1) := by decide +kernel
theorem dX9_image_53 : decode cX9_image 53 = .ok (.getfield 97, 3) := by decide +kernel
theorem dX9_image_56 : decode cX9_image 56 = .ok (.iload_n 2, 1) := by decide +kernel
theorem dX9_image_57 : decode cX9_image 57 = .ok (.iaload, 1) := by decide +kernel
theorem dX9_image_58 : decode cX9_image 58 = .ok (.iastore, 1) := by decide +kernel
theorem dX9_image_59 : decode cX9_image 59 = .ok (.aload_n 0, 1) := by decide +kernel
theorem dX9_image_60 : decode cX9_image 60 = .ok (.getfield 158, 3) := by decide +kernel
theorem dX9_image_63 : decode cX9_image 63 = .ok (.iload_n 3, 1) := by decide +kernel
theorem dX9_image_64 : decode cX9_image 64 = .ok (.iconst 2, 1) := by decide +kernel
theorem dX9_image_65 : decode cX9_image 65 = .ok (.iadd, 1) := by decide +kernel
theorem dX9_image_66 : decode cX9_image 66 = .ok (.aload_n 0, 1) := by decide +kernel
theorem dX9_image_67 : decode cX9_image 67 = .ok (.getfield 100, 3) := by decide +kernel
theorem dX9_image_70 : decode cX9_image 70 = .ok (.iload_n 2, 1) := by decide +kernel
theorem dX9_image_71 : decode cX9_image 71 = .ok (.iaload, 1) := by decide +kernel
theorem dX9_image_72 : decode cX9_image 72 = .ok (.iastore, 1) := by decide +kernel
theorem dX9_image_73 : decode cX9_image 73 = .ok (.aload_n 0, 1) := by decide +kernel
theorem dX9_image_74 : decode cX9_image 74 = .ok (.getfield 158, 3) := by decide +kernel
theorem dX9_image_77 : decode cX9_image 77 = .ok (.iload_n 3, 1) := by decide +kernel
theorem dX9_image_78 : decode cX9_image 78 = .ok (.iconst 3, 1) := by decide +kernel
theorem dX9_image_79 : decode cX9_image 79 = .ok (.iadd, 1) := by decide +kernel
theorem dX9_image_80 : decode cX9_image 80 = .ok (.aload_n 0, 1) := by decide +kernel
theorem dX9_image_81 : decode cX9_image 81 = .ok (.getfield 103, 3) := by decide +kernel
theorem dX9_image_84 : decode cX9_image 84 = .ok (.iload_n 2, 1) := by decide +kernel
theorem dX9_image_85 : decode cX9_image 85 = .ok (.iaload, 1) := by decide +kernel
theorem dX9_image_86 : decode cX9_image 86 = .ok (.iastore, 1) := by decide +kernel
theorem dX9_image_87 : decode cX9_image 87 = .ok (.iinc 2 1, 3) := by decide +kernel
theorem dX9_image_90 : decode cX9_image 90 = .ok (.goto (-72), 3) := by decide +kernel
theorem dX9_image_93 : decode cX9_image 93 = .ok (.iconst 0, 1) := by decide +kernel
theorem dX9_image_94 : decode cX9_image 94 = .ok (.istore_n 2, 1) := by decide +kernel
theorem dX9_image_95 : decode cX9_image 95 = .ok (.iload_n 2, 1) := by decide +kernel
theorem dX9_image_96 : decode cX9_image 96 = .ok (.bipush 6, 2) := by decide +kernel
theorem dX9_image_98 : decode cX9_image 98 = .ok (.if_icmp .ge 65, 3) := by decide +kernel
theorem dX9_image_101 : decode cX9_image 101 = .ok (.aload_n 0, 1) := by decide +kernel
theorem dX9_image_102 : decode cX9_image 102 = .ok (.getfield 161, 3) := by decide +kernel
theorem dX9_image_105 : decode cX9_image 105 = .ok (.iconst 2, 1) := by decide +kernel
theorem dX9_image_106 : decode cX9_image 106 = .ok (.bipush 6, 2) := by decide +kernel
theorem dX9_image_108 : decode cX9_image 108 = .ok (.iload_n 1, 1) := by decide +kernel
theorem dX9_image_109 : decode cX9_image 109 = .ok (.imul, 1) := by decide +kernel
theorem dX9_image_110 : decode cX9_image 110 = .ok (.iload_n 2, 1) := by decide +kernel
theorem dX9_image_111 : decode cX9_image 111 = .ok (.iadd, 1) := by decide +kernel
theorem dX9_image_112 : decode cX9_image 112 = .ok (.imul, 1) := by decide +kernel
theorem dX9_image_113 : decode cX9_image 113 = .ok (.aload_n 0, 1) := by decide +kernel
theorem dX9_image_114 : decode cX9_image 114 = .ok (.getfield 112, 3) := by decide +kernel
theorem dX9_image_117 : decode cX9_image 117 = .ok (.iload_n 2, 1) := by decide +kernel
theorem dX9_image_118 : decode cX9_image 118 = .ok (.baload, 1) := by decide +kernel
theorem dX9_image_119 : decode cX9_image 119 = .ok (.ifCond .eq 7, 3) := by decide +kernel
theorem dX9_image_122 : decode cX9_image 122 = .ok (.iconst 1, 1) := by decide +kernel
theorem dX9_image_123 : decode cX9_image 123 = .ok (.goto 4, 3) := by decide +kernel
theorem dX9_image_126 : decode cX9_image 126 = .ok (.iconst 0, 1) := by decide +kernel
theorem dX9_image_127 : decode cX9_image 127 = .ok (.iastore, 1) := by decide +kernel
theorem dX9_image_128 : decode cX9_image 128 = .ok (.aload_n 0, 1) := by decide +kernel
theorem dX9_image_129 : decode cX9_image 129 = .ok (.getfield 161, 3) := by decide +kernel
theorem dX9_image_132 : decode cX9_image 132 = .ok (.iconst 2, 1) := by decide +kernel
theorem dX9_image_133 : decode cX9_image 133 = .ok (.bipush 6, 2) := by decide +kernel
theorem dX9_image_135 : decode cX9_image 135 = .ok (.iload_n 1, 1) := by decide +kernel
theorem dX9_image_136 : decode cX9_image 136 = .ok (.imul, 1) := by decide +kernel
theorem dX9_image_137 : decode cX9_image 137 = .ok (.iload_n 2, 1) := by decide +kernel
theorem dX9_image_138 : decode cX9_image 138 = .ok (.iadd, 1) := by decide +kernel
theorem dX9_image_139 : decode cX9_image 139 = .ok (.imul, 1) := by decide +kernel
theorem dX9_image_140 : decode cX9_image 140 = .ok (.iconst 1, 1) := by decide +kernel
theorem dX9_image_141 : decode cX9_image 141 = .ok (.iadd, 1) := by decide +kernel
theorem dX9_image_142 : decode cX9_image 142 = .ok (.aload_n 0, 1) := by decide +kernel
theorem dX9_image_143 : decode cX9_image 143 = .ok (.getfield 115, 3) := by decide +kernel
theorem dX9_image_146 : decode cX9_image 146 = .ok (.iload_n 2, 1) := by decide +kernel
theorem dX9_image_147 : decode cX9_image 147 = .ok (.baload, 1) := by decide +kernel
theorem dX9_image_148 : decode cX9_image 148 = .ok (.ifCond .eq 7, 3) := by decide +kernel
theorem dX9_image_151 : decode cX9_image 151 = .ok (.iconst 1, 1) := by decide +kernel
theorem dX9_image_152 : decode cX9_image 152 = .ok (.goto 4, 3) := by decide +kernel
theorem dX9_image_155 : decode cX9_image 155 = .ok (.iconst 0, 1) := by decide +kernel
theorem dX9_image_156 : decode cX9_image 156 = .ok (.iastore, 1) := by decide +kernel
theorem dX9_image_157 : decode cX9_image 157 = .ok (.iinc 2 1, 3) := by decide +kernel
theorem dX9_image_160 : decode cX9_image 160 = .ok (.goto (-65), 3) := by decide +kernel
theorem dX9_image_163 : decode cX9_image 163 = .ok (.iconst 0, 1) := by decide +kernel
theorem dX9_image_164 : decode cX9_image 164 = .ok (.istore_n 2, 1) := by decide +kernel
theorem dX9_image_165 : decode cX9_image 165 = .ok (.iload_n 2, 1) := by decide +kernel
theorem dX9_image_166 : decode cX9_image 166 = .ok (.iconst 4, 1) := by decide +kernel
theorem dX9_image_167 : decode cX9_image 167 = .ok (.if_icmp .ge 45, 3) := by decide +kernel
theorem dX9_image_170 : decode cX9_image 170 = .ok (.aload_n 0, 1) := by decide +kernel
theorem dX9_image_171 : decode cX9_image 171 = .ok (.getfield 164, 3) := by decide +kernel
theorem dX9_image_174 : decode cX9_image 174 = .ok (.bipush 8, 2) := by decide +kernel
theorem dX9_image_176 : decode cX9_image 176 = .ok (.iload_n 1, 1) := by decide +kernel
theorem dX9_image_177 : decode cX9_image 177 = .ok (.imul, 1) := by decide +kernel
theorem dX9_image_178 : decode cX9_image 178 = .ok (.iload_n 2, 1) := by decide +kernel
theorem dX9_image_179 : decode cX9_image 179 = .ok (.iadd, 1) := by decide +kernel
theorem dX9_image_180 : decode cX9_image 180 = .ok (.aload_n 0, 1) := by decide +kernel
theorem dX9_image_181 : decode cX9_image 181 = .ok (.getfield 106, 3) := by decide +kernel
theorem dX9_image_184 : decode cX9_image 184 = .ok (.iload_n 2, 1) := by decide +kernel
theorem dX9_image_185 : decode cX9_image 185 = .ok (.iaload, 1) := by decide +kernel
theorem dX9_image_186 : decode cX9_image 186 = .ok (.iastore, 1) := by decide +kernel
theorem dX9_image_187 : decode cX9_image 187 = .ok (.aload_n 0, 1) := by decide +kernel
theorem dX9_image_188 : decode cX9_image 188 = .ok (.getfield 164, 3) := by decide +kernel
theorem dX9_image_191 : decode cX9_image 191 = .ok (.bipush 8, 2) := by decide +kernel
theorem dX9_image_193 : decode cX9_image 193 = .ok (.iload_n 1, 1) := by decide +kernel
theorem dX9_image_194 : decode cX9_image 194 = .ok (.imul, 1) := by decide +kernel
theorem dX9_image_195 : decode cX9_image 195 = .ok (.iconst 4, 1) := by decide +kernel
theorem dX9_image_196 : decode cX9_image 196 = .ok (.iadd, 1) := by decide +kernel
theorem dX9_image_197 : decode cX9_image 197 = .ok (.iload_n 2, 1) := by decide +kernel
theorem dX9_image_198 : decode cX9_image 198 = .ok (.iadd, 1) := by decide +kernel
theorem dX9_image_199 : decode cX9_image 199 = .ok (.aload_n 0, 1) := by decide +kernel
theorem dX9_image_200 : decode cX9_image 200 = .ok (.getfield 109, 3) := by decide +kernel
theorem dX9_image_203 : decode cX9_image 203 = .ok (.iload_n 2, 1) := by decide +kernel
theorem dX9_image_204 : decode cX9_image 204 = .ok (.iaload, 1) := by decide +kernel
theorem dX9_image_205 : decode cX9_image 205 = .ok (.iastore, 1) := by decide +kernel
theorem dX9_image_206 : decode cX9_image 206 = .ok (.iinc 2 1, 3) := by decide +kernel
theorem dX9_image_209 : decode cX9_image 209 = .ok (.goto (-44), 3) := by decide +kernel
theorem dX9_image_212 : decode cX9_image 212 = .ok (.iconst 0, 1) := by decide +kernel
theorem dX9_image_213 : decode cX9_image 213 = .ok (.istore_n 2, 1) := by decide +kernel
theorem dX9_image_214 : decode cX9_image 214 = .ok (.iload_n 2, 1) := by decide +kernel
theorem dX9_image_215 : decode cX9_image 215 = .ok (.sipush 600, 3) := by decide +kernel
theorem dX9_image_218 : decode cX9_image 218 = .ok (.if_icmp .ge 27, 3) := by decide +kernel
theorem dX9_image_221 : decode cX9_image 221 = .ok (.aload_n 0, 1) := by decide +kernel
theorem dX9_image_222 : decode cX9_image 222 = .ok (.getfield 167, 3) := by decide +kernel
theorem dX9_image_225 : decode cX9_image 225 = .ok (.sipush 600, 3) := by decide +kernel
theorem dX9_image_228 : decode cX9_image 228 = .ok (.iload_n 1, 1) := by decide +kernel
theorem dX9_image_229 : decode cX9_image 229 = .ok (.imul, 1) := by decide +kernel
theorem dX9_image_230 : decode cX9_image 230 = .ok (.iload_n 2, 1) := by decide +kernel
theorem dX9_image_231 : decode cX9_image 231 = .ok (.iadd, 1) := by decide +kernel
theorem dX9_image_232 : decode cX9_image 232 = .ok (.aload_n 0, 1) := by decide +kernel
theorem dX9_image_233 : decode cX9_image 233 = .ok (.getfield 118, 3) := by decide +kernel
theorem dX9_image_236 : decode cX9_image 236 = .ok (.iload_n 2, 1) := by decide +kernel
theorem dX9_image_237 : decode cX9_image 237 = .ok (.iaload, 1) := by decide +kernel
theorem dX9_image_238 : decode cX9_image 238 = .ok (.iastore, 1) := by decide +kernel
theorem dX9_image_239 : decode cX9_image 239 = .ok (.iinc 2 1, 3) := by decide +kernel
theorem dX9_image_242 : decode cX9_image 242 = .ok (.goto (-28), 3) := by decide +kernel
theorem dX9_image_245 : decode cX9_image 245 = .ok (.iconst 0, 1) := by decide +kernel
theorem dX9_image_246 : decode cX9_image 246 = .ok (.istore_n 2, 1) := by decide +kernel
theorem dX9_image_247 : decode cX9_image 247 = .ok (.iload_n 2, 1) := by decide +kernel
theorem dX9_image_248 : decode cX9_image 248 = .ok (.sipush 1206, 3) := by decide +kernel
theorem dX9_image_251 : decode cX9_image 251 = .ok (.if_icmp .ge 27, 3) := by decide +kernel
theorem dX9_image_254 : decode cX9_image 254 = .ok (.aload_n 0, 1) := by decide +kernel
theorem dX9_image_255 : decode cX9_image 255 = .ok (.getfield 170, 3) := by decide +kernel
theorem dX9_image_258 : decode cX9_image 258 = .ok (.sipush 1206, 3) := by decide +kernel
theorem dX9_image_261 : decode cX9_image 261 = .ok (.iload_n 1, 1) := by decide +kernel
theorem dX9_image_262 : decode cX9_image 262 = .ok (.imul, 1) := by decide +kernel
theorem dX9_image_263 : decode cX9_image 263 = .ok (.iload_n 2, 1) := by decide +kernel
theorem dX9_image_264 : decode cX9_image 264 = .ok (.iadd, 1) := by decide +kernel
theorem dX9_image_265 : decode cX9_image 265 = .ok (.aload_n 0, 1) := by decide +kernel
theorem dX9_image_266 : decode cX9_image 266 = .ok (.getfield 121, 3) := by decide +kernel
theorem dX9_image_269 : decode cX9_image 269 = .ok (.iload_n 2, 1) := by decide +kernel
theorem dX9_image_270 : decode cX9_image 270 = .ok (.iaload, 1) := by decide +kernel
theorem dX9_image_271 : decode cX9_image 271 = .ok (.iastore, 1) := by decide +kernel
theorem dX9_image_272 : decode cX9_image 272 = .ok (.iinc 2 1, 3) := by decide +kernel
theorem dX9_image_275 : decode cX9_image 275 = .ok (.goto (-28), 3) := by decide +kernel
theorem dX9_image_278 : decode cX9_image 278 = .ok (.aload_n 0, 1) := by decide +kernel
theorem dX9_image_279 : decode cX9_image 279 = .ok (.getfield 173, 3) := by decide +kernel
theorem dX9_image_282 : decode cX9_image 282 = .ok (.iconst 3, 1) := by decide +kernel
theorem dX9_image_283 : decode cX9_image 283 = .ok (.iload_n 1, 1) := by decide +kernel
theorem dX9_image_284 : decode cX9_image 284 = .ok (.imul, 1) := by decide +kernel
theorem dX9_image_285 : decode cX9_image 285 = .ok (.aload_n 0, 1) := by decide +kernel
theorem dX9_image_286 : decode cX9_image 286 = .ok (.getfield 424, 3) := by decide +kernel
theorem dX9_image_289 : decode cX9_image 289 = .ok (.iastore, 1) := by decide +kernel
theorem dX9_image_290 : decode cX9_image 290 = .ok (.aload_n 0, 1) := by decide +kernel
theorem dX9_image_291 : decode cX9_image 291 = .ok (.getfield 173, 3) := by decide +kernel
theorem dX9_image_294 : decode cX9_image 294 = .ok (.iconst 3, 1) := by decide +kernel
theorem dX9_image_295 : decode cX9_image 295 = .ok (.iload_n 1, 1) := by decide +kernel
theorem dX9_image_296 : decode cX9_image 296 = .ok (.imul, 1) := by decide +kernel
theorem dX9_image_297 : decode cX9_image 297 = .ok (.iconst 1, 1) := by decide +kernel
theorem dX9_image_298 : decode cX9_image 298 = .ok (.iadd, 1) := by decide +kernel
theorem dX9_image_299 : decode cX9_image 299 = .ok (.aload_n 0, 1) := by decide +kernel
theorem dX9_image_300 : decode cX9_image 300 = .ok (.getfield 427, 3) := by decide +kernel
theorem dX9_image_303 : decode cX9_image 303 = .ok (.iastore, 1) := by decide +kernel
theorem dX9_image_304 : decode cX9_image 304 = .ok (.aload_n 0, 1) := by decide +kernel
theorem dX9_image_305 : decode cX9_image 305 = .ok (.getfield 173, 3) := by decide +kernel
theorem dX9_image_308 : decode cX9_image 308 = .ok (.iconst 3, 1) := by decide +kernel
theorem dX9_image_309 : decode cX9_image 309 = .ok (.iload_n 1, 1) := by decide +kernel
theorem dX9_image_310 : decode cX9_image 310 = .ok (.imul, 1) := by decide +kernel
theorem dX9_image_311 : decode cX9_image 311 = .ok (.iconst 2, 1) := by decide +kernel
theorem dX9_image_312 : decode cX9_image 312 = .ok (.iadd, 1) := by decide +kernel
theorem dX9_image_313 : decode cX9_image 313 = .ok (.aload_n 0, 1) := by decide +kernel
theorem dX9_image_314 : decode cX9_image 314 = .ok (.getfield 430, 3) := by decide +kernel
theorem dX9_image_317 : decode cX9_image 317 = .ok (.iastore, 1) := by decide +kernel
theorem dX9_image_318 : decode cX9_image 318 = .ok (.aload_n 0, 1) := by decide +kernel
theorem dX9_image_319 : decode cX9_image 319 = .ok (.getfield 424, 3) := by decide +kernel
theorem dX9_image_322 : decode cX9_image 322 = .ok (.ireturn, 1) := by decide +kernel
theorem dX9_back_0 : decode cX9_back 0 = .ok (.iload_n 1, 1) := by decide +kernel
theorem dX9_back_1 : decode cX9_back 1 = .ok (.invokestatic 587, 3) := by decide +kernel
theorem dX9_back_4 : decode cX9_back 4 = .ok (.ifCond .eq 12, 3) := by decide +kernel
theorem dX9_back_7 : decode cX9_back 7 = .ok (.aload_n 0, 1) := by decide +kernel
theorem dX9_back_8 : decode cX9_back 8 = .ok (.getfield 155, 3) := by decide +kernel
theorem dX9_back_11 : decode cX9_back 11 = .ok (.iload_n 1, 1) := by decide +kernel
theorem dX9_back_12 : decode cX9_back 12 = .ok (.baload, 1) := by decide +kernel
theorem dX9_back_13 : decode cX9_back 13 = .ok (.ifCond .ne 5, 3) := by decide +kernel
theorem dX9_back_16 : decode cX9_back 16 = .ok (.iconst (-1), 1) := by decide +kernel
theorem dX9_back_17 : decode cX9_back 17 = .ok (.ireturn, 1) := by decide +kernel
theorem dX9_back_18 : decode cX9_back 18 = .ok (.iconst 0, 1) := by decide +kernel
theorem dX9_back_19 : decode cX9_back 19 = .ok (.istore_n 2, 1) := by decide +kernel
theorem dX9_back_20 : decode cX9_back 20 = .ok (.iload_n 2, 1) := by decide +kernel
theorem dX9_back_21 : decode cX9_back 21 = .ok (.bipush 6, 2) := by decide +kernel
theorem dX9_back_23 : decode cX9_back 23 = .ok (.if_icmp .ge 72, 3) := by decide +kernel
theorem dX9_back_26 : decode cX9_back 26 = .ok (.iconst 5, 1) := by decide +kernel
theorem dX9_back_27 : decode cX9_back 27 = .ok (.bipush 6, 2) := by decide +kernel
theorem dX9_back_29 : decode cX9_back 29 = .ok (.iload_n 1, 1) := by decide +kernel
theorem dX9_back_30 : decode cX9_back 30 = .ok (.imul, 1) := by decide +kernel
theorem dX9_back_31 : decode cX9_back 31 = .ok (.iload_n 2, 1) := by decide +kernel
theorem dX9_back_32 : decode cX9_back 32 = .ok (.iadd, 1) := by decide +kernel
theorem dX9_back_33 : decode cX9_back 33 = .ok (.imul, 1) := by decide +kernel
theorem dX9_back_34 : decode cX9_back 34 = .ok (.istore_n 3, 1) := by decide +kernel
theorem dX9_back_35 : decode cX9_back 35 = .ok (.aload_n 0, 1) := by decide +kernel
theorem dX9_back_36 : decode cX9_back 36 = .ok (.getfield 94, 3) := by decide +kernel
theorem dX9_back_39 : decode cX9_back 39 = .ok (.iload_n 2, 1) := by decide +kernel
theorem dX9_back_40 : decode cX9_back 40 = .ok (.aload_n 0, 1) := by decide +kernel
theorem dX9_back_41 : decode cX9_back 41 = .ok (.getfield 158, 3) := by decide +kernel
theorem dX9_back_44 : decode cX9_back 44 = .ok (.iload_n 3, 1) := by decide +kernel
theorem dX9_back_45 : decode cX9_back 45 = .ok (.iaload, 1) := by decide +kernel
theorem dX9_back_46 : decode cX9_back 46 = .ok (.iastore, 1) := by decide +kernel
theorem dX9_back_47 : decode cX9_back 47 = .ok (.aload_n 0, 1) := by decide +kernel
theorem dX9_back_48 : decode cX9_back 48 = .ok (.getfield 97, 3) := by decide +kernel
theorem dX9_back_51 : decode cX9_back 51 = .ok (.iload_n 2, 1) := by decide +kernel
theorem dX9_back_52 : decode cX9_back 52 = .ok (.aload_n 0, 1) := by decide +kernel
theorem dX9_back_53 : decode cX9_back 53 = .ok (.getfield 158, 3) := by decide +kernel
theorem dX9_back_56 : decode cX9_back 56 = .ok (.iload_n 3, 1) := by decide +kernel
theorem dX9_back_57 : decode cX9_back 57 = .ok (.iconst 1, 1) := by decide +kernel
theorem dX9_back_58 : decode cX9_back 58 = .ok (.iadd, 1) := by decide +kernel
theorem dX9_back_59 : decode cX9_back 59 = .ok (.iaload, 1) := by decide +kernel
theorem dX9_back_60 : decode cX9_back 60 = .ok (.iastore, 1) := by decide +kernel
theorem dX9_back_61 : decode cX9_back 61 = .ok (.aload_n 0, 1) := by decide +kernel
theorem dX9_back_62 : decode cX9_back 62 = .ok (.getfield 100, 3) := by decide +kernel
theorem dX9_back_65 : decode cX9_back 65 = .ok (.iload_n 2, 1) := by decide +kernel
theorem dX9_back_66 : decode cX9_back 66 = .ok (.aload_n 0, 1) := by decide +kernel
theorem dX9_back_67 : decode cX9_back 67 = .ok (.getfield 158, 3) := by decide +kernel
theorem dX9_back_70 : decode cX9_back 70 = .ok (.iload_n 3, 1) := by decide +kernel
theorem dX9_back_71 : decode cX9_back 71 = .ok (.iconst 2, 1) := by decide +kernel
theorem dX9_back_72 : decode cX9_back 72 = .ok (.iadd, 1) := by decide +kernel
theorem dX9_back_73 : decode cX9_back 73 = .ok (.iaload, 1) := by decide +kernel
theorem dX9_back_74 : decode cX9_back 74 = .ok (.iastore, 1) := by decide +kernel
theorem dX9_back_75 : decode cX9_back 75 = .ok (.aload_n 0, 1) := by decide +kernel
theorem dX9_back_76 : decode cX9_back 76 = .ok (.getfield 103, 3) := by decide +kernel
theorem dX9_back_79 : decode cX9_back 79 = .ok (.iload_n 2, 1) := by decide +kernel
theorem dX9_back_80 : decode cX9_back 80 = .ok (.aload_n 0, 1) := by decide +kernel
theorem dX9_back_81 : decode cX9_back 81 = .ok (.getfield 158, 3) := by decide +kernel
theorem dX9_back_84 : decode cX9_back 84 = .ok (.iload_n 3, 1) := by decide +kernel
theorem dX9_back_85 : decode cX9_back 85 = .ok (.iconst 3, 1) := by decide +kernel
theorem dX9_back_86 : decode cX9_back 86 = .ok (.iadd, 1) := by decide +kernel
theorem dX9_back_87 : decode cX9_back 87 = .ok (.iaload, 1) := by decide +kernel
theorem dX9_back_88 : decode cX9_back 88 = .ok (.iastore, 1) := by decide +kernel
theorem dX9_back_89 : decode cX9_back 89 = .ok (.iinc 2 1, 3) := by decide +kernel
theorem dX9_back_92 : decode cX9_back 92 = .ok (.goto (-72), 3) := by decide +kernel
theorem dX9_back_95 : decode cX9_back 95 = .ok (.iconst 0, 1) := by decide +kernel
theorem dX9_back_96 : decode cX9_back 96 = .ok (.istore_n 2, 1) := by decide +kernel
theorem dX9_back_97 : decode cX9_back 97 = .ok (.iload_n 2, 1) := by decide +kernel
theorem dX9_back_98 : decode cX9_back 98 = .ok (.bipush 6, 2) := by decide +kernel
theorem dX9_back_100 : decode cX9_back 100 = .ok (.if_icmp .ge 67, 3) := by decide +kernel
theorem dX9_back_103 : decode cX9_back 103 = .ok (.aload_n 0, 1) := by decide +kernel
theorem dX9_back_104 : decode cX9_back 104 = .ok (.getfield 112, 3) := by decide +kernel
theorem dX9_back_107 : decode cX9_back 107 = .ok (.iload_n 2, 1) := by decide +kernel
theorem dX9_back_108 : decode cX9_back 108 = .ok (.aload_n 0, 1) := by decide +kernel
theorem dX9_back_109 : decode cX9_back 109 = .ok (.getfield 161, 3) := by decide +kernel
theorem dX9_back_112 : decode cX9_back 112 = .ok (.iconst 2, 1) := by decide +kernel
theorem dX9_back_113 : decode cX9_back 113 = .ok (.bipush 6, 2) := by decide +kernel
theorem dX9_back_115 : decode cX9_back 115 = .ok (.iload_n 1, 1) := by decide +kernel
theorem dX9_back_116 : decode cX9_back 116 = .ok (.imul, 1) := by decide +kernel
theorem dX9_back_117 : decode cX9_back 117 = .ok (.iload_n 2, 1) := by decide +kernel
theorem dX9_back_118 : decode cX9_back 118 = .ok (.iadd, 1) := by decide +kernel
theorem dX9_back_119 : decode cX9_back 119 = .ok (.imul, 1) := by decide +kernel
theorem dX9_back_120 : decode cX9_back 120 = .ok (.iaload, 1) := by decide +kernel
theorem dX9_back_121 : decode cX9_back 121 = .ok (.iconst 1, 1) := by decide +kernel
theorem dX9_back_122 : decode cX9_back 122 = .ok (.if_icmp .ne 7, 3) := by decide +kernel
theorem dX9_back_125 : decode cX9_back 125 = .ok (.iconst 1, 1) := by decide +kernel
theorem dX9_back_126 : decode cX9_back 126 = .ok (.goto 4, 3) := by decide +kernel
theorem dX9_back_129 : decode cX9_back 129 = .ok (.iconst 0, 1) := by decide +kernel
theorem dX9_back_130 : decode cX9_back 130 = .ok (.bastore, 1) := by decide +kernel
theorem dX9_back_131 : decode cX9_back 131 = .ok (.aload_n 0, 1) := by decide +kernel
theorem dX9_back_132 : decode cX9_back 132 = .ok (.getfield 115, 3) := by decide +kernel
theorem dX9_back_135 : decode cX9_back 135 = .ok (.iload_n 2, 1) := by decide +kernel
theorem dX9_back_136 : decode cX9_back 136 = .ok (.aload_n 0, 1) := by decide +kernel
theorem dX9_back_137 : decode cX9_back 137 = .ok (.getfield 161, 3) := by decide +kernel
theorem dX9_back_140 : decode cX9_back 140 = .ok (.iconst 2, 1) := by decide +kernel
theorem dX9_back_141 : decode cX9_back 141 = .ok (.bipush 6, 2) := by decide +kernel
theorem dX9_back_143 : decode cX9_back 143 = .ok (.iload_n 1, 1) := by decide +kernel
theorem dX9_back_144 : decode cX9_back 144 = .ok (.imul, 1) := by decide +kernel
theorem dX9_back_145 : decode cX9_back 145 = .ok (.iload_n 2, 1) := by decide +kernel
theorem dX9_back_146 : decode cX9_back 146 = .ok (.iadd, 1) := by decide +kernel
theorem dX9_back_147 : decode cX9_back 147 = .ok (.imul, 1) := by decide +kernel
theorem dX9_back_148 : decode cX9_back 148 = .ok (.iconst 1, 1) := by decide +kernel
theorem dX9_back_149 : decode cX9_back 149 = .ok (.iadd, 1) := by decide +kernel
theorem dX9_back_150 : decode cX9_back 150 = .ok (.iaload, 1) := by decide +kernel
theorem dX9_back_151 : decode cX9_back 151 = .ok (.iconst 1, 1) := by decide +kernel
theorem dX9_back_152 : decode cX9_back 152 = .ok (.if_icmp .ne 7, 3) := by decide +kernel
theorem dX9_back_155 : decode cX9_back 155 = .ok (.iconst 1, 1) := by decide +kernel
theorem dX9_back_156 : decode cX9_back 156 = .ok (.goto 4, 3) := by decide +kernel
theorem dX9_back_159 : decode cX9_back 159 = .ok (.iconst 0, 1) := by decide +kernel
theorem dX9_back_160 : decode cX9_back 160 = .ok (.bastore, 1) := by decide +kernel
theorem dX9_back_161 : decode cX9_back 161 = .ok (.iinc 2 1, 3) := by decide +kernel
theorem dX9_back_164 : decode cX9_back 164 = .ok (.goto (-67), 3) := by decide +kernel
theorem dX9_back_167 : decode cX9_back 167 = .ok (.iconst 0, 1) := by decide +kernel
theorem dX9_back_168 : decode cX9_back 168 = .ok (.istore_n 2, 1) := by decide +kernel
theorem dX9_back_169 : decode cX9_back 169 = .ok (.iload_n 2, 1) := by decide +kernel
theorem dX9_back_170 : decode cX9_back 170 = .ok (.iconst 4, 1) := by decide +kernel
theorem dX9_back_171 : decode cX9_back 171 = .ok (.if_icmp .ge 45, 3) := by decide +kernel
theorem dX9_back_174 : decode cX9_back 174 = .ok (.aload_n 0, 1) := by decide +kernel
theorem dX9_back_175 : decode cX9_back 175 = .ok (.getfield 106, 3) := by decide +kernel
theorem dX9_back_178 : decode cX9_back 178 = .ok (.iload_n 2, 1) := by decide +kernel
theorem dX9_back_179 : decode cX9_back 179 = .ok (.aload_n 0, 1) := by decide +kernel
theorem dX9_back_180 : decode cX9_back 180 = .ok (.getfield 164, 3) := by decide +kernel
theorem dX9_back_183 : decode cX9_back 183 = .ok (.bipush 8, 2) := by decide +kernel
theorem dX9_back_185 : decode cX9_back 185 = .ok (.iload_n 1, 1) := by decide +kernel
theorem dX9_back_186 : decode cX9_back 186 = .ok (.imul, 1) := by decide +kernel
theorem dX9_back_187 : decode cX9_back 187 = .ok (.iload_n 2, 1) := by decide +kernel
theorem dX9_back_188 : decode cX9_back 188 = .ok (.iadd, 1) := by decide +kernel
theorem dX9_back_189 : decode cX9_back 189 = .ok (.iaload, 1) := by decide +kernel
theorem dX9_back_190 : decode cX9_back 190 = .ok (.iastore, 1) := by decide +kernel
theorem dX9_back_191 : decode cX9_back 191 = .ok (.aload_n 0, 1) := by decide +kernel
theorem dX9_back_192 : decode cX9_back 192 = .ok (.getfield 109, 3) := by decide +kernel
theorem dX9_back_195 : decode cX9_back 195 = .ok (.iload_n 2, 1) := by decide +kernel
theorem dX9_back_196 : decode cX9_back 196 = .ok (.aload_n 0, 1) := by decide +kernel
theorem dX9_back_197 : decode cX9_back 197 = .ok (.getfield 164, 3) := by decide +kernel
theorem dX9_back_200 : decode cX9_back 200 = .ok (.bipush 8, 2) := by decide +kernel
theorem dX9_back_202 : decode cX9_back 202 = .ok (.iload_n 1, 1) := by decide +kernel
theorem dX9_back_203 : decode cX9_back 203 = .ok (.imul, 1) := by decide +kernel
theorem dX9_back_204 : decode cX9_back 204 = .ok (.iconst 4, 1) := by decide +kernel
theorem dX9_back_205 : decode cX9_back 205 = .ok (.iadd, 1) := by decide +kernel
theorem dX9_back_206 : decode cX9_back 206 = .ok (.iload_n 2, 1) := by decide +kernel
theorem dX9_back_207 : decode cX9_back 207 = .ok (.iadd, 1) := by decide +kernel
theorem dX9_back_208 : decode cX9_back 208 = .ok (.iaload, 1) := by decide +kernel
theorem dX9_back_209 : decode cX9_back 209 = .ok (.iastore, 1) := by decide +kernel
theorem dX9_back_210 : decode cX9_back 210 = .ok (.iinc 2 1, 3) := by decide +kernel
theorem dX9_back_213 : decode cX9_back 213 = .ok (.goto (-44), 3) := by decide +kernel
theorem dX9_back_216 : decode cX9_back 216 = .ok (.iconst 0, 1) := by decide +kernel
theorem dX9_back_217 : decode cX9_back 217 = .ok (.istore_n 2, 1) := by decide +kernel
theorem dX9_back_218 : decode cX9_back 218 = .ok (.iload_n 2, 1) := by decide +kernel
theorem dX9_back_219 : decode cX9_back 219 = .ok (.sipush 600, 3) := by decide +kernel
theorem dX9_back_222 : decode cX9_back 222 = .ok (.if_icmp .ge 27, 3) := by decide +kernel
theorem dX9_back_225 : decode cX9_back 225 = .ok (.aload_n 0, 1) := by decide +kernel
theorem dX9_back_226 : decode cX9_back 226 = .ok (.getfield 118, 3) := by decide +kernel
theorem dX9_back_229 : decode cX9_back 229 = .ok (.iload_n 2, 1) := by decide +kernel
theorem dX9_back_230 : decode cX9_back 230 = .ok (.aload_n 0, 1) := by decide +kernel
theorem dX9_back_231 : decode cX9_back 231 = .ok (.getfield 167, 3) := by decide +kernel
theorem dX9_back_234 : decode cX9_back 234 = .ok (.sipush 600, 3) := by decide +kernel
theorem dX9_back_237 : decode cX9_back 237 = .ok (.iload_n 1, 1) := by decide +kernel
theorem dX9_back_238 : decode cX9_back 238 = .ok (.imul, 1) := by decide +kernel
theorem dX9_back_239 : decode cX9_back 239 = .ok (.iload_n 2, 1) := by decide +kernel
theorem dX9_back_240 : decode cX9_back 240 = .ok (.iadd, 1) := by decide +kernel
theorem dX9_back_241 : decode cX9_back 241 = .ok (.iaload, 1) := by decide +kernel
theorem dX9_back_242 : decode cX9_back 242 = .ok (.iastore, 1) := by decide +kernel
theorem dX9_back_243 : decode cX9_back 243 = .ok (.iinc 2 1, 3) := by decide +kernel
theorem dX9_back_246 : decode cX9_back 246 = .ok (.goto (-28), 3) := by decide +kernel
theorem dX9_back_249 : decode cX9_back 249 = .ok (.iconst 0, 1) := by decide +kernel
theorem dX9_back_250 : decode cX9_back 250 = .ok (.istore_n 2, 1) := by decide +kernel
theorem dX9_back_251 : decode cX9_back 251 = .ok (.iload_n 2, 1) := by decide +kernel
theorem dX9_back_252 : decode cX9_back 252 = .ok (.sipush 1206, 3) := by decide +kernel
theorem dX9_back_255 : decode cX9_back 255 = .ok (.if_icmp .ge 27, 3) := by decide +kernel
theorem dX9_back_258 : decode cX9_back 258 = .ok (.aload_n 0, 1) := by decide +kernel
theorem dX9_back_259 : decode cX9_back 259 = .ok (.getfield 121, 3) := by decide +kernel
theorem dX9_back_262 : decode cX9_back 262 = .ok (.iload_n 2, 1) := by decide +kernel
theorem dX9_back_263 : decode cX9_back 263 = .ok (.aload_n 0, 1) := by decide +kernel
theorem dX9_back_264 : decode cX9_back 264 = .ok (.getfield 170, 3) := by decide +kernel
theorem dX9_back_267 : decode cX9_back 267 = .ok (.sipush 1206, 3) := by decide +kernel
theorem dX9_back_270 : decode cX9_back 270 = .ok (.iload_n 1, 1) := by decide +kernel
theorem dX9_back_271 : decode cX9_back 271 = .ok (.imul, 1) := by decide +kernel
theorem dX9_back_272 : decode cX9_back 272 = .ok (.iload_n 2, 1) := by decide +kernel
theorem dX9_back_273 : decode cX9_back 273 = .ok (.iadd, 1) := by decide +kernel
theorem dX9_back_274 : decode cX9_back 274 = .ok (.iaload, 1) := by decide +kernel
theorem dX9_back_275 : decode cX9_back 275 = .ok (.iastore, 1) := by decide +kernel
theorem dX9_back_276 : decode cX9_back 276 = .ok (.iinc 2 1, 3) := by decide +kernel
theorem dX9_back_279 : decode cX9_back 279 = .ok (.goto (-28), 3) := by decide +kernel
theorem dX9_back_282 : decode cX9_back 282 = .ok (.aload_n 0, 1) := by decide +kernel
theorem dX9_back_283 : decode cX9_back 283 = .ok (.aload_n 0, 1) := by decide +kernel
theorem dX9_back_284 : decode cX9_back 284 = .ok (.getfield 173, 3) := by decide +kernel
theorem dX9_back_287 : decode cX9_back 287 = .ok (.iconst 3, 1) := by decide +kernel
theorem dX9_back_288 : decode cX9_back 288 = .ok (.iload_n 1, 1) := by decide +kernel
theorem dX9_back_289 : decode cX9_back 289 = .ok (.imul, 1) := by decide +kernel
theorem dX9_back_290 : decode cX9_back 290 = .ok (.iaload, 1) := by decide +kernel
theorem dX9_back_291 : decode cX9_back 291 = .ok (.putfield 424, 3) := by decide +kernel
theorem dX9_back_294 : decode cX9_back 294 = .ok (.aload_n 0, 1) := by decide +kernel
theorem dX9_back_295 : decode cX9_back 295 = .ok (.aload_n 0, 1) := by decide +kernel
theorem dX9_back_296 : decode cX9_back 296 = .ok (.getfield 173, 3) := by decide +kernel
theorem dX9_back_299 : decode cX9_back 299 = .ok (.iconst 3, 1) := by decide +kernel
theorem dX9_back_300 : decode cX9_back 300 = .ok (.iload_n 1, 1) := by decide +kernel
theorem dX9_back_301 : decode cX9_back 301 = .ok (.imul, 1) := by decide +kernel
theorem dX9_back_302 : decode cX9_back 302 = .ok (.iconst 1, 1) := by decide +kernel
theorem dX9_back_303 : decode cX9_back 303 = .ok (.iadd, 1) := by decide +kernel
theorem dX9_back_304 : decode cX9_back 304 = .ok (.iaload, 1) := by decide +kernel
theorem dX9_back_305 : decode cX9_back 305 = .ok (.putfield 427, 3) := by decide +kernel
theorem dX9_back_308 : decode cX9_back 308 = .ok (.aload_n 0, 1) := by decide +kernel
theorem dX9_back_309 : decode cX9_back 309 = .ok (.aload_n 0, 1) := by decide +kernel
theorem dX9_back_310 : decode cX9_back 310 = .ok (.getfield 173, 3) := by decide +kernel
theorem dX9_back_313 : decode cX9_back 313 = .ok (.iconst 3, 1) := by decide +kernel
theorem dX9_back_314 : decode cX9_back 314 = .ok (.iload_n 1, 1) := by decide +kernel
theorem dX9_back_315 : decode cX9_back 315 = .ok (.imul, 1) := by decide +kernel
theorem dX9_back_316 : decode cX9_back 316 = .ok (.iconst 2, 1) := by decide +kernel
theorem dX9_back_317 : decode cX9_back 317 = .ok (.iadd, 1) := by decide +kernel
theorem dX9_back_318 : decode cX9_back 318 = .ok (.iaload, 1) := by decide +kernel
theorem dX9_back_319 : decode cX9_back 319 = .ok (.putfield 430, 3) := by decide +kernel
theorem dX9_back_322 : decode cX9_back 322 = .ok (.aload_n 0, 1) := by decide +kernel
theorem dX9_back_323 : decode cX9_back 323 = .ok (.getfield 424, 3) := by decide +kernel
theorem dX9_back_326 : decode cX9_back 326 = .ok (.ireturn, 1) := by decide +kernel
theorem dX9_about_0 : decode cX9_about 0 = .ok (.iload_n 1, 1) := by decide +kernel
theorem dX9_about_1 : decode cX9_about 1 = .ok (.tableswitch 136 0 12 #[67, 74, 79, 86, 91, 96, 101, 106, 111, 116, 121, 126, 131], 67) := by decide +kernel
theorem dX9_about_68 : decode cX9_about 68 = .ok (.aload_n 0, 1) := by decide +kernel
theorem dX9_about_69 : decode cX9_about 69 = .ok (.getfield 45, 3) := by decide +kernel
theorem dX9_about_72 : decode cX9_about 72 = .ok (.iconst 0, 1) := by decide +kernel
theorem dX9_about_73 : decode cX9_about 73 = .ok (.iaload, 1) := by decide +kernel
theorem dX9_about_74 : decode cX9_about 74 = .ok (.ireturn, 1) := by decide +kernel
theorem dX9_about_75 : decode cX9_about 75 = .ok (.aload_n 0, 1) := by decide +kernel
theorem dX9_about_76 : decode cX9_about 76 = .ok (.invokevirtual 417, 3) := by decide +kernel
theorem dX9_about_79 : decode cX9_about 79 = .ok (.ireturn, 1) := by decide +kernel
theorem dX9_about_80 : decode cX9_about 80 = .ok (.aload_n 0, 1) := by decide +kernel
theorem dX9_about_81 : decode cX9_about 81 = .ok (.getfield 45, 3) := by decide +kernel
theorem dX9_about_84 : decode cX9_about 84 = .ok (.iconst 2, 1) := by decide +kernel
theorem dX9_about_85 : decode cX9_about 85 = .ok (.iaload, 1) := by decide +kernel
theorem dX9_about_86 : decode cX9_about 86 = .ok (.ireturn, 1) := by decide +kernel
theorem dX9_about_87 : decode cX9_about 87 = .ok (.aload_n 0, 1) := by decide +kernel
theorem dX9_about_88 : decode cX9_about 88 = .ok (.getfield 395, 3) := by decide +kernel
theorem dX9_about_91 : decode cX9_about 91 = .ok (.ireturn, 1) := by decide +kernel
theorem dX9_about_92 : decode cX9_about 92 = .ok (.aload_n 0, 1) := by decide +kernel
theorem dX9_about_93 : decode cX9_about 93 = .ok (.getfield 398, 3) := by decide +kernel
theorem dX9_about_96 : decode cX9_about 96 = .ok (.ireturn, 1) := by decide +kernel
theorem dX9_about_97 : decode cX9_about 97 = .ok (.aload_n 0, 1) := by decide +kernel
theorem dX9_about_98 : decode cX9_about 98 = .ok (.getfield 424, 3) := by decide +kernel
theorem dX9_about_101 : decode cX9_about 101 = .ok (.ireturn, 1) := by decide +kernel
theorem dX9_about_102 : decode cX9_about 102 = .ok (.aload_n 0, 1) := by decide +kernel
theorem dX9_about_103 : decode cX9_about 103 = .ok (.getfield 427, 3) := by decide +kernel
theorem dX9_about_106 : decode cX9_about 106 = .ok (.ireturn, 1) := by decide +kernel
theorem dX9_about_107 : decode cX9_about 107 = .ok (.aload_n 0, 1) := by decide +kernel
theorem dX9_about_108 : decode cX9_about 108 = .ok (.getfield 410, 3) := by decide +kernel
theorem dX9_about_111 : decode cX9_about 111 = .ok (.ireturn, 1) := by decide +kernel
theorem dX9_about_112 : decode cX9_about 112 = .ok (.aload_n 0, 1) := by decide +kernel
theorem dX9_about_113 : decode cX9_about 113 = .ok (.getfield 576, 3) := by decide +kernel
theorem dX9_about_116 : decode cX9_about 116 = .ok (.ireturn, 1) := by decide +kernel
theorem dX9_about_117 : decode cX9_about 117 = .ok (.aload_n 0, 1) := by decide +kernel
theorem dX9_about_118 : decode cX9_about 118 = .ok (.getfield 176, 3) := by decide +kernel
theorem dX9_about_121 : decode cX9_about 121 = .ok (.ireturn, 1) := by decide +kernel
theorem dX9_about_122 : decode cX9_about 122 = .ok (.aload_n 0, 1) := by decide +kernel
theorem dX9_about_123 : decode cX9_about 123 = .ok (.getfield 392, 3) := by decide +kernel
theorem dX9_about_126 : decode cX9_about 126 = .ok (.ireturn, 1) := by decide +kernel
theorem dX9_about_127 : decode cX9_about 127 = .ok (.aload_n 0, 1) := by decide +kernel
theorem dX9_about_128 : decode cX9_about 128 = .ok (.invokevirtual 557, 3) := by decide +kernel
theorem dX9_about_131 : decode cX9_about 131 = .ok (.ireturn, 1) := by decide +kernel
theorem dX9_about_132 : decode cX9_about 132 = .ok (.aload_n 0, 1) := by decide +kernel
theorem dX9_about_133 : decode cX9_about 133 = .ok (.getfield 430, 3) := by decide +kernel
theorem dX9_about_136 : decode cX9_about 136 = .ok (.ireturn, 1) := by decide +kernel
theorem dX9_about_137 : decode cX9_about 137 = .ok (.iconst (-1), 1) := by decide +kernel
theorem dX9_about_138 : decode cX9_about 138 = .ok (.ireturn, 1) := by decide +kernel
