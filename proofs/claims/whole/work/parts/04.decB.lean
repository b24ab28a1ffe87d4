theorem dX4_init_0 : decode cX4_init 0 = .ok (.aload_n 0, 1) := by decide +kernel
theorem dX4_init_1 : decode cX4_init 1 = .ok (.invokespecial 3, 3) := by decide +kernel
theorem dX4_init_4 : decode cX4_init 4 = .ok (.aload_n 0, 1) := by decide +kernel
theorem dX4_init_5 : decode cX4_init 5 = .ok (.new 9, 3) := by decide +kernel
theorem dX4_init_8 : decode cX4_init 8 = .ok (.dup, 1) := by decide +kernel
theorem dX4_init_9 : decode cX4_init 9 = .ok (.bipush 21, 2) := by decide +kernel
theorem dX4_init_11 : decode cX4_init 11 = .ok (.invokespecial 13, 3) := by decide +kernel
theorem dX4_init_14 : decode cX4_init 14 = .ok (.putfield 16, 3) := by decide +kernel
theorem dX4_init_17 : decode cX4_init 17 = .ok (.aload_n 0, 1) := by decide +kernel
theorem dX4_init_18 : decode cX4_init 18 = .ok (.iconst (-1), 1) := by decide +kernel
theorem dX4_init_19 : decode cX4_init 19 = .ok (.putfield 20, 3) := by decide +kernel
theorem dX4_init_22 : decode cX4_init 22 = .ok (.aload_n 0, 1) := by decide +kernel
theorem dX4_init_23 : decode cX4_init 23 = .ok (.aload_n 1, 1) := by decide +kernel
theorem dX4_init_24 : decode cX4_init 24 = .ok (.putfield 24, 3) := by decide +kernel
theorem dX4_init_27 : decode cX4_init 27 = .ok (.aload_n 0, 1) := by decide +kernel
theorem dX4_init_28 : decode cX4_init 28 = .ok (.aload_n 2, 1) := by decide +kernel
theorem dX4_init_29 : decode cX4_init 29 = .ok (.putfield 28, 3) := by decide +kernel
theorem dX4_init_32 : decode cX4_init 32 = .ok (.lconst 0, 1) := by decide +kernel
theorem dX4_init_33 : decode cX4_init 33 = .ok (.lstore_n 3, 1) := by decide +kernel
theorem dX4_init_34 : decode cX4_init 34 = .ok (.iconst 0, 1) := by decide +kernel
theorem dX4_init_35 : decode cX4_init 35 = .ok (.istore 5, 2) := by decide +kernel
theorem dX4_init_37 : decode cX4_init 37 = .ok (.iload 5, 2) := by decide +kernel
theorem dX4_init_39 : decode cX4_init 39 = .ok (.ldc 32, 2) := by decide +kernel
theorem dX4_init_41 : decode cX4_init 41 = .ok (.invokevirtual 34, 3) := by decide +kernel
theorem dX4_init_44 : decode cX4_init 44 = .ok (.if_icmp .ge 45, 3) := by decide +kernel
theorem dX4_init_47 : decode cX4_init 47 = .ok (.ldc 32, 2) := by decide +kernel
theorem dX4_init_49 : decode cX4_init 49 = .ok (.iload 5, 2) := by decide +kernel
theorem dX4_init_51 : decode cX4_init 51 = .ok (.invokevirtual 40, 3) := by decide +kernel
theorem dX4_init_54 : decode cX4_init 54 = .ok (.istore 6, 2) := by decide +kernel
theorem dX4_init_56 : decode cX4_init 56 = .ok (.iload 6, 2) := by decide +kernel
theorem dX4_init_58 : decode cX4_init 58 = .ok (.bipush 32, 2) := by decide +kernel
theorem dX4_init_60 : decode cX4_init 60 = .ok (.if_icmp .ne 16, 3) := by decide +kernel
theorem dX4_init_63 : decode cX4_init 63 = .ok (.aload_n 0, 1) := by decide +kernel
theorem dX4_init_64 : decode cX4_init 64 = .ok (.getfield 16, 3) := by decide +kernel
theorem dX4_init_67 : decode cX4_init 67 = .ok (.lload_n 3, 1) := by decide +kernel
theorem dX4_init_68 : decode cX4_init 68 = .ok (.invokevirtual 44, 3) := by decide +kernel
theorem dX4_init_71 : decode cX4_init 71 = .ok (.lconst 0, 1) := by decide +kernel
theorem dX4_init_72 : decode cX4_init 72 = .ok (.lstore_n 3, 1) := by decide +kernel
theorem dX4_init_73 : decode cX4_init 73 = .ok (.goto 10, 3) := by decide +kernel
theorem dX4_init_76 : decode cX4_init 76 = .ok (.lload_n 3, 1) := by decide +kernel
theorem dX4_init_77 : decode cX4_init 77 = .ok (.iload 6, 2) := by decide +kernel
theorem dX4_init_79 : decode cX4_init 79 = .ok (.invokestatic 48, 3) := by decide +kernel
theorem dX4_init_82 : decode cX4_init 82 = .ok (.lstore_n 3, 1) := by decide +kernel
theorem dX4_init_83 : decode cX4_init 83 = .ok (.iinc 5 1, 3) := by decide +kernel
theorem dX4_init_86 : decode cX4_init 86 = .ok (.goto (-49), 3) := by decide +kernel
theorem dX4_init_89 : decode cX4_init 89 = .ok (.return_, 1) := by decide +kernel
theorem dX4_read_0 : decode cX4_read 0 = .ok (.aload_n 0, 1) := by decide +kernel
theorem dX4_read_1 : decode cX4_read 1 = .ok (.aload_n 1, 1) := by decide +kernel
theorem dX4_read_2 : decode cX4_read 2 = .ok (.putfield 28, 3) := by decide +kernel
theorem dX4_read_5 : decode cX4_read 5 = .ok (.aload_n 0, 1) := by decide +kernel
theorem dX4_read_6 : decode cX4_read 6 = .ok (.getfield 28, 3) := by decide +kernel
theorem dX4_read_9 : decode cX4_read 9 = .ok (.invokevirtual 52, 3) := by decide +kernel
theorem dX4_read_12 : decode cX4_read 12 = .ok (.aload_n 0, 1) := by decide +kernel
theorem dX4_read_13 : decode cX4_read 13 = .ok (.iconst 0, 1) := by decide +kernel
theorem dX4_read_14 : decode cX4_read 14 = .ok (.putfield 57, 3) := by decide +kernel
theorem dX4_read_17 : decode cX4_read 17 = .ok (.aload_n 0, 1) := by decide +kernel
theorem dX4_read_18 : decode cX4_read 18 = .ok (.iconst 0, 1) := by decide +kernel
theorem dX4_read_19 : decode cX4_read 19 = .ok (.putfield 60, 3) := by decide +kernel
theorem dX4_read_22 : decode cX4_read 22 = .ok (.aload_n 0, 1) := by decide +kernel
theorem dX4_read_23 : decode cX4_read 23 = .ok (.iconst (-1), 1) := by decide +kernel
theorem dX4_read_24 : decode cX4_read 24 = .ok (.putfield 20, 3) := by decide +kernel
theorem dX4_read_27 : decode cX4_read 27 = .ok (.aload_n 0, 1) := by decide +kernel
theorem dX4_read_28 : decode cX4_read 28 = .ok (.invokevirtual 63, 3) := by decide +kernel
theorem dX4_read_31 : decode cX4_read 31 = .ok (.iconst 0, 1) := by decide +kernel
theorem dX4_read_32 : decode cX4_read 32 = .ok (.istore_n 2, 1) := by decide +kernel
theorem dX4_read_33 : decode cX4_read 33 = .ok (.iload_n 2, 1) := by decide +kernel
theorem dX4_read_34 : decode cX4_read 34 = .ok (.sipush 1700, 3) := by decide +kernel
theorem dX4_read_37 : decode cX4_read 37 = .ok (.if_icmp .gt 27, 3) := by decide +kernel
theorem dX4_read_40 : decode cX4_read 40 = .ok (.aload_n 0, 1) := by decide +kernel
theorem dX4_read_41 : decode cX4_read 41 = .ok (.getfield 60, 3) := by decide +kernel
theorem dX4_read_44 : decode cX4_read 44 = .ok (.ifCond .ne 20, 3) := by decide +kernel
theorem dX4_read_47 : decode cX4_read 47 = .ok (.aload_n 0, 1) := by decide +kernel
theorem dX4_read_48 : decode cX4_read 48 = .ok (.getfield 66, 3) := by decide +kernel
theorem dX4_read_51 : decode cX4_read 51 = .ok (.ifCond .eq 13, 3) := by decide +kernel
theorem dX4_read_54 : decode cX4_read 54 = .ok (.aload_n 0, 1) := by decide +kernel
theorem dX4_read_55 : decode cX4_read 55 = .ok (.invokevirtual 69, 3) := by decide +kernel
theorem dX4_read_58 : decode cX4_read 58 = .ok (.iinc 2 1, 3) := by decide +kernel
theorem dX4_read_61 : decode cX4_read 61 = .ok (.goto (-28), 3) := by decide +kernel
theorem dX4_read_64 : decode cX4_read 64 = .ok (.aload_n 0, 1) := by decide +kernel
theorem dX4_read_65 : decode cX4_read 65 = .ok (.getfield 60, 3) := by decide +kernel
theorem dX4_read_68 : decode cX4_read 68 = .ok (.ifCond .ne 7, 3) := by decide +kernel
theorem dX4_read_71 : decode cX4_read 71 = .ok (.iconst 1, 1) := by decide +kernel
theorem dX4_read_72 : decode cX4_read 72 = .ok (.goto 4, 3) := by decide +kernel
theorem dX4_read_75 : decode cX4_read 75 = .ok (.iconst 0, 1) := by decide +kernel
theorem dX4_read_76 : decode cX4_read 76 = .ok (.ireturn, 1) := by decide +kernel
theorem dX4_withLetter_0 : decode cX4_withLetter 0 = .ok (.lload_n 0, 1) := by decide +kernel
theorem dX4_withLetter_1 : decode cX4_withLetter 1 = .ok (.iconst 5, 1) := by decide +kernel
theorem dX4_withLetter_2 : decode cX4_withLetter 2 = .ok (.lshl, 1) := by decide +kernel
theorem dX4_withLetter_3 : decode cX4_withLetter 3 = .ok (.iload_n 2, 1) := by decide +kernel
theorem dX4_withLetter_4 : decode cX4_withLetter 4 = .ok (.bipush 97, 2) := by decide +kernel
theorem dX4_withLetter_6 : decode cX4_withLetter 6 = .ok (.isub, 1) := by decide +kernel
theorem dX4_withLetter_7 : decode cX4_withLetter 7 = .ok (.iconst 1, 1) := by decide +kernel
theorem dX4_withLetter_8 : decode cX4_withLetter 8 = .ok (.iadd, 1) := by decide +kernel
theorem dX4_withLetter_9 : decode cX4_withLetter 9 = .ok (.i2l, 1) := by decide +kernel
theorem dX4_withLetter_10 : decode cX4_withLetter 10 = .ok (.lor, 1) := by decide +kernel
theorem dX4_withLetter_11 : decode cX4_withLetter 11 = .ok (.lreturn, 1) := by decide +kernel
theorem dX4_byteAt_0 : decode cX4_byteAt 0 = .ok (.iload_n 1, 1) := by decide +kernel
theorem dX4_byteAt_1 : decode cX4_byteAt 1 = .ok (.ifCond .lt 37, 3) := by decide +kernel
theorem dX4_byteAt_4 : decode cX4_byteAt 4 = .ok (.iload_n 1, 1) := by decide +kernel
theorem dX4_byteAt_5 : decode cX4_byteAt 5 = .ok (.aload_n 0, 1) := by decide +kernel
theorem dX4_byteAt_6 : decode cX4_byteAt 6 = .ok (.getfield 24, 3) := by decide +kernel
theorem dX4_byteAt_9 : decode cX4_byteAt 9 = .ok (.getfield 72, 3) := by decide +kernel
theorem dX4_byteAt_12 : decode cX4_byteAt 12 = .ok (.if_icmp .ge 26, 3) := by decide +kernel
theorem dX4_byteAt_15 : decode cX4_byteAt 15 = .ok (.iload_n 1, 1) := by decide +kernel
theorem dX4_byteAt_16 : decode cX4_byteAt 16 = .ok (.sipush 1700, 3) := by decide +kernel
theorem dX4_byteAt_19 : decode cX4_byteAt 19 = .ok (.if_icmp .ge 19, 3) := by decide +kernel
theorem dX4_byteAt_22 : decode cX4_byteAt 22 = .ok (.aload_n 0, 1) := by decide +kernel
theorem dX4_byteAt_23 : decode cX4_byteAt 23 = .ok (.getfield 24, 3) := by decide +kernel
theorem dX4_byteAt_26 : decode cX4_byteAt 26 = .ok (.getfield 76, 3) := by decide +kernel
theorem dX4_byteAt_29 : decode cX4_byteAt 29 = .ok (.iload_n 1, 1) := by decide +kernel
theorem dX4_byteAt_30 : decode cX4_byteAt 30 = .ok (.baload, 1) := by decide +kernel
theorem dX4_byteAt_31 : decode cX4_byteAt 31 = .ok (.sipush 255, 3) := by decide +kernel
theorem dX4_byteAt_34 : decode cX4_byteAt 34 = .ok (.iand, 1) := by decide +kernel
theorem dX4_byteAt_35 : decode cX4_byteAt 35 = .ok (.goto 4, 3) := by decide +kernel
theorem dX4_byteAt_38 : decode cX4_byteAt 38 = .ok (.iconst 0, 1) := by decide +kernel
theorem dX4_byteAt_39 : decode cX4_byteAt 39 = .ok (.ireturn, 1) := by decide +kernel
theorem dX4_next_0 : decode cX4_next 0 = .ok (.aload_n 0, 1) := by decide +kernel
theorem dX4_next_1 : decode cX4_next 1 = .ok (.getfield 60, 3) := by decide +kernel
theorem dX4_next_4 : decode cX4_next 4 = .ok (.ifCond .eq 4, 3) := by decide +kernel
theorem dX4_next_7 : decode cX4_next 7 = .ok (.return_, 1) := by decide +kernel
theorem dX4_next_8 : decode cX4_next 8 = .ok (.aload_n 0, 1) := by decide +kernel
theorem dX4_next_9 : decode cX4_next 9 = .ok (.getfield 57, 3) := by decide +kernel
theorem dX4_next_12 : decode cX4_next 12 = .ok (.aload_n 0, 1) := by decide +kernel
theorem dX4_next_13 : decode cX4_next 13 = .ok (.getfield 24, 3) := by decide +kernel
theorem dX4_next_16 : decode cX4_next 16 = .ok (.getfield 72, 3) := by decide +kernel
theorem dX4_next_19 : decode cX4_next 19 = .ok (.if_icmp .ge 42, 3) := by decide +kernel
theorem dX4_next_22 : decode cX4_next 22 = .ok (.aload_n 0, 1) := by decide +kernel
theorem dX4_next_23 : decode cX4_next 23 = .ok (.aload_n 0, 1) := by decide +kernel
theorem dX4_next_24 : decode cX4_next 24 = .ok (.getfield 57, 3) := by decide +kernel
theorem dX4_next_27 : decode cX4_next 27 = .ok (.invokevirtual 80, 3) := by decide +kernel
theorem dX4_next_30 : decode cX4_next 30 = .ok (.bipush 32, 2) := by decide +kernel
theorem dX4_next_32 : decode cX4_next 32 = .ok (.if_icmp .eq 16, 3) := by decide +kernel
theorem dX4_next_35 : decode cX4_next 35 = .ok (.aload_n 0, 1) := by decide +kernel
theorem dX4_next_36 : decode cX4_next 36 = .ok (.aload_n 0, 1) := by decide +kernel
theorem dX4_next_37 : decode cX4_next 37 = .ok (.getfield 57, 3) := by decide +kernel
theorem dX4_next_40 : decode cX4_next 40 = .ok (.invokevirtual 80, 3) := by decide +kernel
theorem dX4_next_43 : decode cX4_next 43 = .ok (.bipush 10, 2) := by decide +kernel
theorem dX4_next_45 : decode cX4_next 45 = .ok (.if_icmp .ne 16, 3) := by decide +kernel
theorem dX4_next_48 : decode cX4_next 48 = .ok (.aload_n 0, 1) := by decide +kernel
theorem dX4_next_49 : decode cX4_next 49 = .ok (.dup, 1) := by decide +kernel
theorem dX4_next_50 : decode cX4_next 50 = .ok (.getfield 57, 3) := by decide +kernel
theorem dX4_next_53 : decode cX4_next 53 = .ok (.iconst 1, 1) := by decide +kernel
theorem dX4_next_54 : decode cX4_next 54 = .ok (.iadd, 1) := by decide +kernel
theorem dX4_next_55 : decode cX4_next 55 = .ok (.putfield 57, 3) := by decide +kernel
theorem dX4_next_58 : decode cX4_next 58 = .ok (.goto (-50), 3) := by decide +kernel
theorem dX4_next_61 : decode cX4_next 61 = .ok (.aload_n 0, 1) := by decide +kernel
theorem dX4_next_62 : decode cX4_next 62 = .ok (.aload_n 0, 1) := by decide +kernel
theorem dX4_next_63 : decode cX4_next 63 = .ok (.getfield 57, 3) := by decide +kernel
theorem dX4_next_66 : decode cX4_next 66 = .ok (.putfield 84, 3) := by decide +kernel
theorem dX4_next_69 : decode cX4_next 69 = .ok (.aload_n 0, 1) := by decide +kernel
theorem dX4_next_70 : decode cX4_next 70 = .ok (.aload_n 0, 1) := by decide +kernel
theorem dX4_next_71 : decode cX4_next 71 = .ok (.getfield 57, 3) := by decide +kernel
theorem dX4_next_74 : decode cX4_next 74 = .ok (.invokevirtual 80, 3) := by decide +kernel
theorem dX4_next_77 : decode cX4_next 77 = .ok (.istore_n 1, 1) := by decide +kernel
theorem dX4_next_78 : decode cX4_next 78 = .ok (.aload_n 0, 1) := by decide +kernel
theorem dX4_next_79 : decode cX4_next 79 = .ok (.getfield 57, 3) := by decide +kernel
theorem dX4_next_82 : decode cX4_next 82 = .ok (.aload_n 0, 1) := by decide +kernel
theorem dX4_next_83 : decode cX4_next 83 = .ok (.getfield 24, 3) := by decide +kernel
theorem dX4_next_86 : decode cX4_next 86 = .ok (.getfield 72, 3) := by decide +kernel
theorem dX4_next_89 : decode cX4_next 89 = .ok (.if_icmp .lt 11, 3) := by decide +kernel
theorem dX4_next_92 : decode cX4_next 92 = .ok (.aload_n 0, 1) := by decide +kernel
theorem dX4_next_93 : decode cX4_next 93 = .ok (.iconst 0, 1) := by decide +kernel
theorem dX4_next_94 : decode cX4_next 94 = .ok (.putfield 66, 3) := by decide +kernel
theorem dX4_next_97 : decode cX4_next 97 = .ok (.goto 81, 3) := by decide +kernel
theorem dX4_next_100 : decode cX4_next 100 = .ok (.iload_n 1, 1) := by decide +kernel
theorem dX4_next_101 : decode cX4_next 101 = .ok (.bipush 97, 2) := by decide +kernel
theorem dX4_next_103 : decode cX4_next 103 = .ok (.if_icmp .lt 16, 3) := by decide +kernel
theorem dX4_next_106 : decode cX4_next 106 = .ok (.iload_n 1, 1) := by decide +kernel
theorem dX4_next_107 : decode cX4_next 107 = .ok (.bipush 122, 2) := by decide +kernel
theorem dX4_next_109 : decode cX4_next 109 = .ok (.if_icmp .gt 10, 3) := by decide +kernel
theorem dX4_next_112 : decode cX4_next 112 = .ok (.aload_n 0, 1) := by decide +kernel
theorem dX4_next_113 : decode cX4_next 113 = .ok (.invokevirtual 87, 3) := by decide +kernel
theorem dX4_next_116 : decode cX4_next 116 = .ok (.goto 62, 3) := by decide +kernel
theorem dX4_next_119 : decode cX4_next 119 = .ok (.iload_n 1, 1) := by decide +kernel
theorem dX4_next_120 : decode cX4_next 120 = .ok (.bipush 48, 2) := by decide +kernel
theorem dX4_next_122 : decode cX4_next 122 = .ok (.if_icmp .lt 16, 3) := by decide +kernel
theorem dX4_next_125 : decode cX4_next 125 = .ok (.iload_n 1, 1) := by decide +kernel
theorem dX4_next_126 : decode cX4_next 126 = .ok (.bipush 57, 2) := by decide +kernel
theorem dX4_next_128 : decode cX4_next 128 = .ok (.if_icmp .gt 10, 3) := by decide +kernel
theorem dX4_next_131 : decode cX4_next 131 = .ok (.aload_n 0, 1) := by decide +kernel
theorem dX4_next_132 : decode cX4_next 132 = .ok (.invokevirtual 90, 3) := by decide +kernel
theorem dX4_next_135 : decode cX4_next 135 = .ok (.goto 43, 3) := by decide +kernel
theorem dX4_next_138 : decode cX4_next 138 = .ok (.iload_n 1, 1) := by decide +kernel
theorem dX4_next_139 : decode cX4_next 139 = .ok (.sipush 128, 3) := by decide +kernel
theorem dX4_next_142 : decode cX4_next 142 = .ok (.if_icmp .ge 31, 3) := by decide +kernel
theorem dX4_next_145 : decode cX4_next 145 = .ok (.ldc 93, 2) := by decide +kernel
theorem dX4_next_147 : decode cX4_next 147 = .ok (.iload_n 1, 1) := by decide +kernel
theorem dX4_next_148 : decode cX4_next 148 = .ok (.i2c, 1) := by decide +kernel
theorem dX4_next_149 : decode cX4_next 149 = .ok (.invokevirtual 95, 3) := by decide +kernel
theorem dX4_next_152 : decode cX4_next 152 = .ok (.ifCond .lt 21, 3) := by decide +kernel
theorem dX4_next_155 : decode cX4_next 155 = .ok (.aload_n 0, 1) := by decide +kernel
theorem dX4_next_156 : decode cX4_next 156 = .ok (.iload_n 1, 1) := by decide +kernel
theorem dX4_next_157 : decode cX4_next 157 = .ok (.putfield 66, 3) := by decide +kernel
theorem dX4_next_160 : decode cX4_next 160 = .ok (.aload_n 0, 1) := by decide +kernel
theorem dX4_next_161 : decode cX4_next 161 = .ok (.dup, 1) := by decide +kernel
theorem dX4_next_162 : decode cX4_next 162 = .ok (.getfield 57, 3) := by decide +kernel
theorem dX4_next_165 : decode cX4_next 165 = .ok (.iconst 1, 1) := by decide +kernel
theorem dX4_next_166 : decode cX4_next 166 = .ok (.iadd, 1) := by decide +kernel
theorem dX4_next_167 : decode cX4_next 167 = .ok (.putfield 57, 3) := by decide +kernel
theorem dX4_next_170 : decode cX4_next 170 = .ok (.goto 8, 3) := by decide +kernel
theorem dX4_next_173 : decode cX4_next 173 = .ok (.aload_n 0, 1) := by decide +kernel
theorem dX4_next_174 : decode cX4_next 174 = .ok (.iconst 1, 1) := by decide +kernel
theorem dX4_next_175 : decode cX4_next 175 = .ok (.invokevirtual 98, 3) := by decide +kernel
theorem dX4_next_178 : decode cX4_next 178 = .ok (.return_, 1) := by decide +kernel
theorem dX4_readWord_0 : decode cX4_readWord 0 = .ok (.aload_n 0, 1) := by decide +kernel
theorem dX4_readWord_1 : decode cX4_readWord 1 = .ok (.lconst 0, 1) := by decide +kernel
theorem dX4_readWord_2 : decode cX4_readWord 2 = .ok (.putfield 101, 3) := by decide +kernel
theorem dX4_readWord_5 : decode cX4_readWord 5 = .ok (.aload_n 0, 1) := by decide +kernel
theorem dX4_readWord_6 : decode cX4_readWord 6 = .ok (.aload_n 0, 1) := by decide +kernel
theorem dX4_readWord_7 : decode cX4_readWord 7 = .ok (.getfield 57, 3) := by decide +kernel
theorem dX4_readWord_10 : decode cX4_readWord 10 = .ok (.invokevirtual 80, 3) := by decide +kernel
theorem dX4_readWord_13 : decode cX4_readWord 13 = .ok (.istore_n 1, 1) := by decide +kernel
theorem dX4_readWord_14 : decode cX4_readWord 14 = .ok (.aload_n 0, 1) := by decide +kernel
theorem dX4_readWord_15 : decode cX4_readWord 15 = .ok (.getfield 57, 3) := by decide +kernel
theorem dX4_readWord_18 : decode cX4_readWord 18 = .ok (.aload_n 0, 1) := by decide +kernel
theorem dX4_readWord_19 : decode cX4_readWord 19 = .ok (.getfield 24, 3) := by decide +kernel
theorem dX4_readWord_22 : decode cX4_readWord 22 = .ok (.getfield 72, 3) := by decide +kernel
theorem dX4_readWord_25 : decode cX4_readWord 25 = .ok (.if_icmp .ge 49, 3) := by decide +kernel
theorem dX4_readWord_28 : decode cX4_readWord 28 = .ok (.iload_n 1, 1) := by decide +kernel
theorem dX4_readWord_29 : decode cX4_readWord 29 = .ok (.bipush 97, 2) := by decide +kernel
theorem dX4_readWord_31 : decode cX4_readWord 31 = .ok (.if_icmp .lt 43, 3) := by decide +kernel
theorem dX4_readWord_34 : decode cX4_readWord 34 = .ok (.iload_n 1, 1) := by decide +kernel
theorem dX4_readWord_35 : decode cX4_readWord 35 = .ok (.bipush 122, 2) := by decide +kernel
theorem dX4_readWord_37 : decode cX4_readWord 37 = .ok (.if_icmp .gt 37, 3) := by decide +kernel
theorem dX4_readWord_40 : decode cX4_readWord 40 = .ok (.aload_n 0, 1) := by decide +kernel
theorem dX4_readWord_41 : decode cX4_readWord 41 = .ok (.aload_n 0, 1) := by decide +kernel
theorem dX4_readWord_42 : decode cX4_readWord 42 = .ok (.getfield 101, 3) := by decide +kernel
theorem dX4_readWord_45 : decode cX4_readWord 45 = .ok (.iload_n 1, 1) := by decide +kernel
theorem dX4_readWord_46 : decode cX4_readWord 46 = .ok (.invokestatic 48, 3) := by decide +kernel
theorem dX4_readWord_49 : decode cX4_readWord 49 = .ok (.putfield 101, 3) := by decide +kernel
theorem dX4_readWord_52 : decode cX4_readWord 52 = .ok (.aload_n 0, 1) := by decide +kernel
theorem dX4_readWord_53 : decode cX4_readWord 53 = .ok (.dup, 1) := by decide +kernel
theorem dX4_readWord_54 : decode cX4_readWord 54 = .ok (.getfield 57, 3) := by decide +kernel
theorem dX4_readWord_57 : decode cX4_readWord 57 = .ok (.iconst 1, 1) := by decide +kernel
theorem dX4_readWord_58 : decode cX4_readWord 58 = .ok (.iadd, 1) := by decide +kernel
theorem dX4_readWord_59 : decode cX4_readWord 59 = .ok (.putfield 57, 3) := by decide +kernel
theorem dX4_readWord_62 : decode cX4_readWord 62 = .ok (.aload_n 0, 1) := by decide +kernel
theorem dX4_readWord_63 : decode cX4_readWord 63 = .ok (.aload_n 0, 1) := by decide +kernel
theorem dX4_readWord_64 : decode cX4_readWord 64 = .ok (.getfield 57, 3) := by decide +kernel
theorem dX4_readWord_67 : decode cX4_readWord 67 = .ok (.invokevirtual 80, 3) := by decide +kernel
theorem dX4_readWord_70 : decode cX4_readWord 70 = .ok (.istore_n 1, 1) := by decide +kernel
theorem dX4_readWord_71 : decode cX4_readWord 71 = .ok (.goto (-57), 3) := by decide +kernel
theorem dX4_readWord_74 : decode cX4_readWord 74 = .ok (.aload_n 0, 1) := by decide +kernel
theorem dX4_readWord_75 : decode cX4_readWord 75 = .ok (.getfield 57, 3) := by decide +kernel
theorem dX4_readWord_78 : decode cX4_readWord 78 = .ok (.aload_n 0, 1) := by decide +kernel
theorem dX4_readWord_79 : decode cX4_readWord 79 = .ok (.getfield 84, 3) := by decide +kernel
theorem dX4_readWord_82 : decode cX4_readWord 82 = .ok (.isub, 1) := by decide +kernel
theorem dX4_readWord_83 : decode cX4_readWord 83 = .ok (.bipush 8, 2) := by decide +kernel
theorem dX4_readWord_85 : decode cX4_readWord 85 = .ok (.if_icmp .le 13, 3) := by decide +kernel
theorem dX4_readWord_88 : decode cX4_readWord 88 = .ok (.aload_n 0, 1) := by decide +kernel
theorem dX4_readWord_89 : decode cX4_readWord 89 = .ok (.iconst 1, 1) := by decide +kernel
theorem dX4_readWord_90 : decode cX4_readWord 90 = .ok (.aload_n 0, 1) := by decide +kernel
theorem dX4_readWord_91 : decode cX4_readWord 91 = .ok (.getfield 84, 3) := by decide +kernel
theorem dX4_readWord_94 : decode cX4_readWord 94 = .ok (.invokevirtual 105, 3) := by decide +kernel
theorem dX4_readWord_97 : decode cX4_readWord 97 = .ok (.return_, 1) := by decide +kernel
theorem dX4_readWord_98 : decode cX4_readWord 98 = .ok (.aload_n 0, 1) := by decide +kernel
theorem dX4_readWord_99 : decode cX4_readWord 99 = .ok (.getfield 16, 3) := by decide +kernel
theorem dX4_readWord_102 : decode cX4_readWord 102 = .ok (.aload_n 0, 1) := by decide +kernel
theorem dX4_readWord_103 : decode cX4_readWord 103 = .ok (.getfield 101, 3) := by decide +kernel
theorem dX4_readWord_106 : decode cX4_readWord 106 = .ok (.invokevirtual 109, 3) := by decide +kernel
theorem dX4_readWord_109 : decode cX4_readWord 109 = .ok (.istore_n 2, 1) := by decide +kernel
theorem dX4_readWord_110 : decode cX4_readWord 110 = .ok (.aload_n 0, 1) := by decide +kernel
theorem dX4_readWord_111 : decode cX4_readWord 111 = .ok (.iload_n 2, 1) := by decide +kernel
theorem dX4_readWord_112 : decode cX4_readWord 112 = .ok (.ifCond .lt 11, 3) := by decide +kernel
theorem dX4_readWord_115 : decode cX4_readWord 115 = .ok (.sipush 128, 3) := by decide +kernel
theorem dX4_readWord_118 : decode cX4_readWord 118 = .ok (.iload_n 2, 1) := by decide +kernel
theorem dX4_readWord_119 : decode cX4_readWord 119 = .ok (.iadd, 1) := by decide +kernel
theorem dX4_readWord_120 : decode cX4_readWord 120 = .ok (.goto 4, 3) := by decide +kernel
theorem dX4_readWord_123 : decode cX4_readWord 123 = .ok (.iconst 1, 1) := by decide +kernel
theorem dX4_readWord_124 : decode cX4_readWord 124 = .ok (.putfield 66, 3) := by decide +kernel
theorem dX4_readWord_127 : decode cX4_readWord 127 = .ok (.return_, 1) := by decide +kernel
theorem dX4_readNumber_0 : decode cX4_readNumber 0 = .ok (.aload_n 0, 1) := by decide +kernel
theorem dX4_readNumber_1 : decode cX4_readNumber 1 = .ok (.iconst 0, 1) := by decide +kernel
theorem dX4_readNumber_2 : decode cX4_readNumber 2 = .ok (.putfield 113, 3) := by decide +kernel
theorem dX4_readNumber_5 : decode cX4_readNumber 5 = .ok (.aload_n 0, 1) := by decide +kernel
theorem dX4_readNumber_6 : decode cX4_readNumber 6 = .ok (.aload_n 0, 1) := by decide +kernel
theorem dX4_readNumber_7 : decode cX4_readNumber 7 = .ok (.getfield 57, 3) := by decide +kernel
theorem dX4_readNumber_10 : decode cX4_readNumber 10 = .ok (.invokevirtual 80, 3) := by decide +kernel
theorem dX4_readNumber_13 : decode cX4_readNumber 13 = .ok (.istore_n 1, 1) := by decide +kernel
theorem dX4_readNumber_14 : decode cX4_readNumber 14 = .ok (.aload_n 0, 1) := by decide +kernel
theorem dX4_readNumber_15 : decode cX4_readNumber 15 = .ok (.getfield 57, 3) := by decide +kernel
theorem dX4_readNumber_18 : decode cX4_readNumber 18 = .ok (.aload_n 0, 1) := by decide +kernel
theorem dX4_readNumber_19 : decode cX4_readNumber 19 = .ok (.getfield 24, 3) := by decide +kernel
theorem dX4_readNumber_22 : decode cX4_readNumber 22 = .ok (.getfield 72, 3) := by decide +kernel
theorem dX4_readNumber_25 : decode cX4_readNumber 25 = .ok (.if_icmp .ge 53, 3) := by decide +kernel
theorem dX4_readNumber_28 : decode cX4_readNumber 28 = .ok (.iload_n 1, 1) := by decide +kernel
theorem dX4_readNumber_29 : decode cX4_readNumber 29 = .ok (.bipush 48, 2) := by decide +kernel
theorem dX4_readNumber_31 : decode cX4_readNumber 31 = .ok (.if_icmp .lt 47, 3) := by decide +kernel
theorem dX4_readNumber_34 : decode cX4_readNumber 34 = .ok (.iload_n 1, 1) := by decide +kernel
theorem dX4_readNumber_35 : decode cX4_readNumber 35 = .ok (.bipush 57, 2) := by decide +kernel
theorem dX4_readNumber_37 : decode cX4_readNumber 37 = .ok (.if_icmp .gt 41, 3) := by decide +kernel
theorem dX4_readNumber_40 : decode cX4_readNumber 40 = .ok (.aload_n 0, 1) := by decide +kernel
theorem dX4_readNumber_41 : decode cX4_readNumber 41 = .ok (.aload_n 0, 1) := by decide +kernel
theorem dX4_readNumber_42 : decode cX4_readNumber 42 = .ok (.getfield 113, 3) := by decide +kernel
theorem dX4_readNumber_45 : decode cX4_readNumber 45 = .ok (.bipush 10, 2) := by decide +kernel
theorem dX4_readNumber_47 : decode cX4_readNumber 47 = .ok (.imul, 1) := by decide +kernel
theorem dX4_readNumber_48 : decode cX4_readNumber 48 = .ok (.iload_n 1, 1) := by decide +kernel
theorem dX4_readNumber_49 : decode cX4_readNumber 49 = .ok (.iadd, 1) := by decide +kernel
theorem dX4_readNumber_50 : decode cX4_readNumber 50 = .ok (.bipush 48, 2) := by decide +kernel
theorem dX4_readNumber_52 : decode cX4_readNumber 52 = .ok (.isub, 1) := by decide +kernel
theorem dX4_readNumber_53 : decode cX4_readNumber 53 = .ok (.putfield 113, 3) := by decide +kernel
theorem dX4_readNumber_56 : decode cX4_readNumber 56 = .ok (.aload_n 0, 1) := by decide +kernel
theorem dX4_readNumber_57 : decode cX4_readNumber 57 = .ok (.dup, 1) := by decide +kernel
theorem dX4_readNumber_58 : decode cX4_readNumber 58 = .ok (.getfield 57, 3) := by decide +kernel
theorem dX4_readNumber_61 : decode cX4_readNumber 61 = .ok (.iconst 1, 1) := by decide +kernel
theorem dX4_readNumber_62 : decode cX4_readNumber 62 = .ok (.iadd, 1) := by decide +kernel
theorem dX4_readNumber_63 : decode cX4_readNumber 63 = .ok (.putfield 57, 3) := by decide +kernel
theorem dX4_readNumber_66 : decode cX4_readNumber 66 = .ok (.aload_n 0, 1) := by decide +kernel
theorem dX4_readNumber_67 : decode cX4_readNumber 67 = .ok (.aload_n 0, 1) := by decide +kernel
theorem dX4_readNumber_68 : decode cX4_readNumber 68 = .ok (.getfield 57, 3) := by decide +kernel
theorem dX4_readNumber_71 : decode cX4_readNumber 71 = .ok (.invokevirtual 80, 3) := by decide +kernel
theorem dX4_readNumber_74 : decode cX4_readNumber 74 = .ok (.istore_n 1, 1) := by decide +kernel
theorem dX4_readNumber_75 : decode cX4_readNumber 75 = .ok (.goto (-61), 3) := by decide +kernel
theorem dX4_readNumber_78 : decode cX4_readNumber 78 = .ok (.aload_n 0, 1) := by decide +kernel
theorem dX4_readNumber_79 : decode cX4_readNumber 79 = .ok (.iconst 2, 1) := by decide +kernel
theorem dX4_readNumber_80 : decode cX4_readNumber 80 = .ok (.putfield 66, 3) := by decide +kernel
theorem dX4_readNumber_83 : decode cX4_readNumber 83 = .ok (.aload_n 0, 1) := by decide +kernel
theorem dX4_readNumber_84 : decode cX4_readNumber 84 = .ok (.getfield 57, 3) := by decide +kernel
theorem dX4_readNumber_87 : decode cX4_readNumber 87 = .ok (.aload_n 0, 1) := by decide +kernel
theorem dX4_readNumber_88 : decode cX4_readNumber 88 = .ok (.getfield 84, 3) := by decide +kernel
theorem dX4_readNumber_91 : decode cX4_readNumber 91 = .ok (.isub, 1) := by decide +kernel
theorem dX4_readNumber_92 : decode cX4_readNumber 92 = .ok (.iconst 4, 1) := by decide +kernel
theorem dX4_readNumber_93 : decode cX4_readNumber 93 = .ok (.if_icmp .gt 15, 3) := by decide +kernel
theorem dX4_readNumber_96 : decode cX4_readNumber 96 = .ok (.iload_n 1, 1) := by decide +kernel
theorem dX4_readNumber_97 : decode cX4_readNumber 97 = .ok (.bipush 97, 2) := by decide +kernel
theorem dX4_readNumber_99 : decode cX4_readNumber 99 = .ok (.if_icmp .lt 18, 3) := by decide +kernel
theorem dX4_readNumber_102 : decode cX4_readNumber 102 = .ok (.iload_n 1, 1) := by decide +kernel
theorem dX4_readNumber_103 : decode cX4_readNumber 103 = .ok (.bipush 122, 2) := by decide +kernel
theorem dX4_readNumber_105 : decode cX4_readNumber 105 = .ok (.if_icmp .gt 12, 3) := by decide +kernel
theorem dX4_readNumber_108 : decode cX4_readNumber 108 = .ok (.aload_n 0, 1) := by decide +kernel
theorem dX4_readNumber_109 : decode cX4_readNumber 109 = .ok (.iconst 1, 1) := by decide +kernel
theorem dX4_readNumber_110 : decode cX4_readNumber 110 = .ok (.aload_n 0, 1) := by decide +kernel
theorem dX4_readNumber_111 : decode cX4_readNumber 111 = .ok (.getfield 84, 3) := by decide +kernel
theorem dX4_readNumber_114 : decode cX4_readNumber 114 = .ok (.invokevirtual 105, 3) := by decide +kernel
theorem dX4_readNumber_117 : decode cX4_readNumber 117 = .ok (.return_, 1) := by decide +kernel
theorem dX4_refuse_0 : decode cX4_refuse 0 = .ok (.aload_n 0, 1) := by decide +kernel
theorem dX4_refuse_1 : decode cX4_refuse 1 = .ok (.iload_n 1, 1) := by decide +kernel
theorem dX4_refuse_2 : decode cX4_refuse 2 = .ok (.aload_n 0, 1) := by decide +kernel
theorem dX4_refuse_3 : decode cX4_refuse 3 = .ok (.getfield 84, 3) := by decide +kernel
theorem dX4_refuse_6 : decode cX4_refuse 6 = .ok (.invokevirtual 105, 3) := by decide +kernel
theorem dX4_refuse_9 : decode cX4_refuse 9 = .ok (.return_, 1) := by decide +kernel
theorem dX4_refuseAt_0 : decode cX4_refuseAt 0 = .ok (.aload_n 0, 1) := by decide +kernel
theorem dX4_refuseAt_1 : decode cX4_refuseAt 1 = .ok (.getfield 60, 3) := by decide +kernel
theorem dX4_refuseAt_4 : decode cX4_refuseAt 4 = .ok (.ifCond .ne 13, 3) := by decide +kernel
theorem dX4_refuseAt_7 : decode cX4_refuseAt 7 = .ok (.aload_n 0, 1) := by decide +kernel
theorem dX4_refuseAt_8 : decode cX4_refuseAt 8 = .ok (.iload_n 1, 1) := by decide +kernel
theorem dX4_refuseAt_9 : decode cX4_refuseAt 9 = .ok (.putfield 60, 3) := by decide +kernel
theorem dX4_refuseAt_12 : decode cX4_refuseAt 12 = .ok (.aload_n 0, 1) := by decide +kernel
theorem dX4_refuseAt_13 : decode cX4_refuseAt 13 = .ok (.iload_n 2, 1) := by decide +kernel
theorem dX4_refuseAt_14 : decode cX4_refuseAt 14 = .ok (.putfield 20, 3) := by decide +kernel
theorem dX4_refuseAt_17 : decode cX4_refuseAt 17 = .ok (.return_, 1) := by decide +kernel
theorem dX4_take_0 : decode cX4_take 0 = .ok (.aload_n 0, 1) := by decide +kernel
theorem dX4_take_1 : decode cX4_take 1 = .ok (.getfield 66, 3) := by decide +kernel
theorem dX4_take_4 : decode cX4_take 4 = .ok (.iload_n 1, 1) := by decide +kernel
theorem dX4_take_5 : decode cX4_take 5 = .ok (.if_icmp .ne 10, 3) := by decide +kernel
theorem dX4_take_8 : decode cX4_take 8 = .ok (.aload_n 0, 1) := by decide +kernel
theorem dX4_take_9 : decode cX4_take 9 = .ok (.invokevirtual 63, 3) := by decide +kernel
theorem dX4_take_12 : decode cX4_take 12 = .ok (.goto 8, 3) := by decide +kernel
theorem dX4_take_15 : decode cX4_take 15 = .ok (.aload_n 0, 1) := by decide +kernel
theorem dX4_take_16 : decode cX4_take 16 = .ok (.iconst 2, 1) := by decide +kernel
theorem dX4_take_17 : decode cX4_take 17 = .ok (.invokevirtual 98, 3) := by decide +kernel
theorem dX4_take_20 : decode cX4_take 20 = .ok (.return_, 1) := by decide +kernel
theorem dX4_takeIf_0 : decode cX4_takeIf 0 = .ok (.aload_n 0, 1) := by decide +kernel
theorem dX4_takeIf_1 : decode cX4_takeIf 1 = .ok (.getfield 66, 3) := by decide +kernel
theorem dX4_takeIf_4 : decode cX4_takeIf 4 = .ok (.iload_n 1, 1) := by decide +kernel
theorem dX4_takeIf_5 : decode cX4_takeIf 5 = .ok (.if_icmp .eq 5, 3) := by decide +kernel
theorem dX4_takeIf_8 : decode cX4_takeIf 8 = .ok (.iconst 0, 1) := by decide +kernel
theorem dX4_takeIf_9 : decode cX4_takeIf 9 = .ok (.ireturn, 1) := by decide +kernel
theorem dX4_takeIf_10 : decode cX4_takeIf 10 = .ok (.aload_n 0, 1) := by decide +kernel
theorem dX4_takeIf_11 : decode cX4_takeIf 11 = .ok (.invokevirtual 63, 3) := by decide +kernel
theorem dX4_takeIf_14 : decode cX4_takeIf 14 = .ok (.iconst 1, 1) := by decide +kernel
theorem dX4_takeIf_15 : decode cX4_takeIf 15 = .ok (.ireturn, 1) := by decide +kernel
theorem dX4_takeNumber_0 : decode cX4_takeNumber 0 = .ok (.aload_n 0, 1) := by decide +kernel
theorem dX4_takeNumber_1 : decode cX4_takeNumber 1 = .ok (.getfield 66, 3) := by decide +kernel
theorem dX4_takeNumber_4 : decode cX4_takeNumber 4 = .ok (.iconst 2, 1) := by decide +kernel
theorem dX4_takeNumber_5 : decode cX4_takeNumber 5 = .ok (.if_icmp .eq 11, 3) := by decide +kernel
theorem dX4_takeNumber_8 : decode cX4_takeNumber 8 = .ok (.aload_n 0, 1) := by decide +kernel
theorem dX4_takeNumber_9 : decode cX4_takeNumber 9 = .ok (.iconst 2, 1) := by decide +kernel
theorem dX4_takeNumber_10 : decode cX4_takeNumber 10 = .ok (.invokevirtual 98, 3) := by decide +kernel
theorem dX4_takeNumber_13 : decode cX4_takeNumber 13 = .ok (.goto 24, 3) := by decide +kernel
theorem dX4_takeNumber_16 : decode cX4_takeNumber 16 = .ok (.aload_n 0, 1) := by decide +kernel
theorem dX4_takeNumber_17 : decode cX4_takeNumber 17 = .ok (.getfield 113, 3) := by decide +kernel
theorem dX4_takeNumber_20 : decode cX4_takeNumber 20 = .ok (.iload_n 1, 1) := by decide +kernel
theorem dX4_takeNumber_21 : decode cX4_takeNumber 21 = .ok (.if_icmp .lt 11, 3) := by decide +kernel
theorem dX4_takeNumber_24 : decode cX4_takeNumber 24 = .ok (.aload_n 0, 1) := by decide +kernel
theorem dX4_takeNumber_25 : decode cX4_takeNumber 25 = .ok (.getfield 113, 3) := by decide +kernel
theorem dX4_takeNumber_28 : decode cX4_takeNumber 28 = .ok (.iload_n 2, 1) := by decide +kernel
theorem dX4_takeNumber_29 : decode cX4_takeNumber 29 = .ok (.if_icmp .le 8, 3) := by decide +kernel
theorem dX4_takeNumber_32 : decode cX4_takeNumber 32 = .ok (.aload_n 0, 1) := by decide +kernel
theorem dX4_takeNumber_33 : decode cX4_takeNumber 33 = .ok (.iconst 4, 1) := by decide +kernel
theorem dX4_takeNumber_34 : decode cX4_takeNumber 34 = .ok (.invokevirtual 98, 3) := by decide +kernel
theorem dX4_takeNumber_37 : decode cX4_takeNumber 37 = .ok (.aload_n 0, 1) := by decide +kernel
theorem dX4_takeNumber_38 : decode cX4_takeNumber 38 = .ok (.getfield 113, 3) := by decide +kernel
theorem dX4_takeNumber_41 : decode cX4_takeNumber 41 = .ok (.istore_n 3, 1) := by decide +kernel
theorem dX4_takeNumber_42 : decode cX4_takeNumber 42 = .ok (.aload_n 0, 1) := by decide +kernel
theorem dX4_takeNumber_43 : decode cX4_takeNumber 43 = .ok (.invokevirtual 63, 3) := by decide +kernel
theorem dX4_takeNumber_46 : decode cX4_takeNumber 46 = .ok (.iload_n 3, 1) := by decide +kernel
theorem dX4_takeNumber_47 : decode cX4_takeNumber 47 = .ok (.ireturn, 1) := by decide +kernel
theorem dX4_takeWorth_0 : decode cX4_takeWorth 0 = .ok (.aload_n 0, 1) := by decide +kernel
theorem dX4_takeWorth_1 : decode cX4_takeWorth 1 = .ok (.getfield 84, 3) := by decide +kernel
theorem dX4_takeWorth_4 : decode cX4_takeWorth 4 = .ok (.istore_n 1, 1) := by decide +kernel
theorem dX4_takeWorth_5 : decode cX4_takeWorth 5 = .ok (.aload_n 0, 1) := by decide +kernel
theorem dX4_takeWorth_6 : decode cX4_takeWorth 6 = .ok (.getfield 66, 3) := by decide +kernel
theorem dX4_takeWorth_9 : decode cX4_takeWorth 9 = .ok (.bipush 45, 2) := by decide +kernel
theorem dX4_takeWorth_11 : decode cX4_takeWorth 11 = .ok (.if_icmp .ne 7, 3) := by decide +kernel
theorem dX4_takeWorth_14 : decode cX4_takeWorth 14 = .ok (.iconst 1, 1) := by decide +kernel
theorem dX4_takeWorth_15 : decode cX4_takeWorth 15 = .ok (.goto 4, 3) := by decide +kernel
theorem dX4_takeWorth_18 : decode cX4_takeWorth 18 = .ok (.iconst 0, 1) := by decide +kernel
theorem dX4_takeWorth_19 : decode cX4_takeWorth 19 = .ok (.istore_n 2, 1) := by decide +kernel
theorem dX4_takeWorth_20 : decode cX4_takeWorth 20 = .ok (.iload_n 2, 1) := by decide +kernel
theorem dX4_takeWorth_21 : decode cX4_takeWorth 21 = .ok (.ifCond .eq 7, 3) := by decide +kernel
theorem dX4_takeWorth_24 : decode cX4_takeWorth 24 = .ok (.aload_n 0, 1) := by decide +kernel
theorem dX4_takeWorth_25 : decode cX4_takeWorth 25 = .ok (.invokevirtual 63, 3) := by decide +kernel
theorem dX4_takeWorth_28 : decode cX4_takeWorth 28 = .ok (.aload_n 0, 1) := by decide +kernel
theorem dX4_takeWorth_29 : decode cX4_takeWorth 29 = .ok (.getfield 66, 3) := by decide +kernel
theorem dX4_takeWorth_32 : decode cX4_takeWorth 32 = .ok (.iconst 2, 1) := by decide +kernel
theorem dX4_takeWorth_33 : decode cX4_takeWorth 33 = .ok (.if_icmp .eq 11, 3) := by decide +kernel
theorem dX4_takeWorth_36 : decode cX4_takeWorth 36 = .ok (.aload_n 0, 1) := by decide +kernel
theorem dX4_takeWorth_37 : decode cX4_takeWorth 37 = .ok (.iconst 2, 1) := by decide +kernel
theorem dX4_takeWorth_38 : decode cX4_takeWorth 38 = .ok (.invokevirtual 98, 3) := by decide +kernel
theorem dX4_takeWorth_41 : decode cX4_takeWorth 41 = .ok (.goto 18, 3) := by decide +kernel
theorem dX4_takeWorth_44 : decode cX4_takeWorth 44 = .ok (.aload_n 0, 1) := by decide +kernel
theorem dX4_takeWorth_45 : decode cX4_takeWorth 45 = .ok (.getfield 113, 3) := by decide +kernel
theorem dX4_takeWorth_48 : decode cX4_takeWorth 48 = .ok (.bipush 99, 2) := by decide +kernel
theorem dX4_takeWorth_50 : decode cX4_takeWorth 50 = .ok (.if_icmp .le 9, 3) := by decide +kernel
theorem dX4_takeWorth_53 : decode cX4_takeWorth 53 = .ok (.aload_n 0, 1) := by decide +kernel
theorem dX4_takeWorth_54 : decode cX4_takeWorth 54 = .ok (.iconst 4, 1) := by decide +kernel
theorem dX4_takeWorth_55 : decode cX4_takeWorth 55 = .ok (.iload_n 1, 1) := by decide +kernel
theorem dX4_takeWorth_56 : decode cX4_takeWorth 56 = .ok (.invokevirtual 105, 3) := by decide +kernel
theorem dX4_takeWorth_59 : decode cX4_takeWorth 59 = .ok (.aload_n 0, 1) := by decide +kernel
theorem dX4_takeWorth_60 : decode cX4_takeWorth 60 = .ok (.getfield 113, 3) := by decide +kernel
theorem dX4_takeWorth_63 : decode cX4_takeWorth 63 = .ok (.istore_n 3, 1) := by decide +kernel
theorem dX4_takeWorth_64 : decode cX4_takeWorth 64 = .ok (.aload_n 0, 1) := by decide +kernel
theorem dX4_takeWorth_65 : decode cX4_takeWorth 65 = .ok (.invokevirtual 63, 3) := by decide +kernel
theorem dX4_takeWorth_68 : decode cX4_takeWorth 68 = .ok (.iload_n 2, 1) := by decide +kernel
theorem dX4_takeWorth_69 : decode cX4_takeWorth 69 = .ok (.ifCond .eq 8, 3) := by decide +kernel
theorem dX4_takeWorth_72 : decode cX4_takeWorth 72 = .ok (.iload_n 3, 1) := by decide +kernel
theorem dX4_takeWorth_73 : decode cX4_takeWorth 73 = .ok (.ineg, 1) := by decide +kernel
theorem dX4_takeWorth_74 : decode cX4_takeWorth 74 = .ok (.goto 4, 3) := by decide +kernel
theorem dX4_takeWorth_77 : decode cX4_takeWorth 77 = .ok (.iload_n 3, 1) := by decide +kernel
theorem dX4_takeWorth_78 : decode cX4_takeWorth 78 = .ok (.ireturn, 1) := by decide +kernel
theorem dX4_takeNewName_0 : decode cX4_takeNewName 0 = .ok (.aload_n 0, 1) := by decide +kernel
theorem dX4_takeNewName_1 : decode cX4_takeNewName 1 = .ok (.getfield 66, 3) := by decide +kernel
theorem dX4_takeNewName_4 : decode cX4_takeNewName 4 = .ok (.iconst 1, 1) := by decide +kernel
theorem dX4_takeNewName_5 : decode cX4_takeNewName 5 = .ok (.if_icmp .eq 11, 3) := by decide +kernel
theorem dX4_takeNewName_8 : decode cX4_takeNewName 8 = .ok (.aload_n 0, 1) := by decide +kernel
theorem dX4_takeNewName_9 : decode cX4_takeNewName 9 = .ok (.iconst 2, 1) := by decide +kernel
theorem dX4_takeNewName_10 : decode cX4_takeNewName 10 = .ok (.invokevirtual 98, 3) := by decide +kernel
theorem dX4_takeNewName_13 : decode cX4_takeNewName 13 = .ok (.goto 19, 3) := by decide +kernel
theorem dX4_takeNewName_16 : decode cX4_takeNewName 16 = .ok (.aload_n 1, 1) := by decide +kernel
theorem dX4_takeNewName_17 : decode cX4_takeNewName 17 = .ok (.aload_n 0, 1) := by decide +kernel
theorem dX4_takeNewName_18 : decode cX4_takeNewName 18 = .ok (.getfield 101, 3) := by decide +kernel
theorem dX4_takeNewName_21 : decode cX4_takeNewName 21 = .ok (.invokevirtual 109, 3) := by decide +kernel
theorem dX4_takeNewName_24 : decode cX4_takeNewName 24 = .ok (.ifCond .lt 8, 3) := by decide +kernel
theorem dX4_takeNewName_27 : decode cX4_takeNewName 27 = .ok (.aload_n 0, 1) := by decide +kernel
theorem dX4_takeNewName_28 : decode cX4_takeNewName 28 = .ok (.iconst 3, 1) := by decide +kernel
theorem dX4_takeNewName_29 : decode cX4_takeNewName 29 = .ok (.invokevirtual 98, 3) := by decide +kernel
theorem dX4_takeNewName_32 : decode cX4_takeNewName 32 = .ok (.aload_n 0, 1) := by decide +kernel
theorem dX4_takeNewName_33 : decode cX4_takeNewName 33 = .ok (.getfield 101, 3) := by decide +kernel
theorem dX4_takeNewName_36 : decode cX4_takeNewName 36 = .ok (.lstore_n 2, 1) := by decide +kernel
theorem dX4_takeNewName_37 : decode cX4_takeNewName 37 = .ok (.aload_n 0, 1) := by decide +kernel
theorem dX4_takeNewName_38 : decode cX4_takeNewName 38 = .ok (.invokevirtual 63, 3) := by decide +kernel
theorem dX4_takeNewName_41 : decode cX4_takeNewName 41 = .ok (.lload_n 2, 1) := by decide +kernel
theorem dX4_takeNewName_42 : decode cX4_takeNewName 42 = .ok (.lreturn, 1) := by decide +kernel
theorem dX4_toldName_0 : decode cX4_toldName 0 = .ok (.aload_n 0, 1) := by decide +kernel
theorem dX4_toldName_1 : decode cX4_toldName 1 = .ok (.getfield 66, 3) := by decide +kernel
theorem dX4_toldName_4 : decode cX4_toldName 4 = .ok (.iconst 1, 1) := by decide +kernel
theorem dX4_toldName_5 : decode cX4_toldName 5 = .ok (.if_icmp .eq 10, 3) := by decide +kernel
theorem dX4_toldName_8 : decode cX4_toldName 8 = .ok (.aload_n 0, 1) := by decide +kernel
theorem dX4_toldName_9 : decode cX4_toldName 9 = .ok (.iconst 2, 1) := by decide +kernel
theorem dX4_toldName_10 : decode cX4_toldName 10 = .ok (.invokevirtual 98, 3) := by decide +kernel
theorem dX4_toldName_13 : decode cX4_toldName 13 = .ok (.iconst (-1), 1) := by decide +kernel
theorem dX4_toldName_14 : decode cX4_toldName 14 = .ok (.ireturn, 1) := by decide +kernel
theorem dX4_toldName_15 : decode cX4_toldName 15 = .ok (.aload_n 1, 1) := by decide +kernel
theorem dX4_toldName_16 : decode cX4_toldName 16 = .ok (.aload_n 0, 1) := by decide +kernel
theorem dX4_toldName_17 : decode cX4_toldName 17 = .ok (.getfield 101, 3) := by decide +kernel
theorem dX4_toldName_20 : decode cX4_toldName 20 = .ok (.invokevirtual 109, 3) := by decide +kernel
theorem dX4_toldName_23 : decode cX4_toldName 23 = .ok (.istore_n 2, 1) := by decide +kernel
theorem dX4_toldName_24 : decode cX4_toldName 24 = .ok (.iload_n 2, 1) := by decide +kernel
theorem dX4_toldName_25 : decode cX4_toldName 25 = .ok (.ifCond .ge 8, 3) := by decide +kernel
theorem dX4_toldName_28 : decode cX4_toldName 28 = .ok (.aload_n 0, 1) := by decide +kernel
theorem dX4_toldName_29 : decode cX4_toldName 29 = .ok (.iconst 5, 1) := by decide +kernel
theorem dX4_toldName_30 : decode cX4_toldName 30 = .ok (.invokevirtual 98, 3) := by decide +kernel
theorem dX4_toldName_33 : decode cX4_toldName 33 = .ok (.iload_n 2, 1) := by decide +kernel
theorem dX4_toldName_34 : decode cX4_toldName 34 = .ok (.ireturn, 1) := by decide +kernel
theorem dX4_line_0 : decode cX4_line 0 = .ok (.aload_n 0, 1) := by decide +kernel
theorem dX4_line_1 : decode cX4_line 1 = .ok (.getfield 66, 3) := by decide +kernel
theorem dX4_line_4 : decode cX4_line 4 = .ok (.tableswitch 143 128 140 #[68, 143, 143, 75, 143, 143, 82, 143, 89, 96, 143, 103, 110], 68) := by decide +kernel
theorem dX4_line_72 : decode cX4_line 72 = .ok (.aload_n 0, 1) := by decide +kernel
theorem dX4_line_73 : decode cX4_line 73 = .ok (.invokevirtual 116, 3) := by decide +kernel
theorem dX4_line_76 : decode cX4_line 76 = .ok (.goto 76, 3) := by decide +kernel
theorem dX4_line_79 : decode cX4_line 79 = .ok (.aload_n 0, 1) := by decide +kernel
theorem dX4_line_80 : decode cX4_line 80 = .ok (.invokevirtual 119, 3) := by decide +kernel
theorem dX4_line_83 : decode cX4_line 83 = .ok (.goto 69, 3) := by decide +kernel
theorem dX4_line_86 : decode cX4_line 86 = .ok (.aload_n 0, 1) := by decide +kernel
theorem dX4_line_87 : decode cX4_line 87 = .ok (.invokevirtual 122, 3) := by decide +kernel
theorem dX4_line_90 : decode cX4_line 90 = .ok (.goto 62, 3) := by decide +kernel
theorem dX4_line_93 : decode cX4_line 93 = .ok (.aload_n 0, 1) := by decide +kernel
theorem dX4_line_94 : decode cX4_line 94 = .ok (.invokevirtual 125, 3) := by decide +kernel
theorem dX4_line_97 : decode cX4_line 97 = .ok (.goto 55, 3) := by decide +kernel
theorem dX4_line_100 : decode cX4_line 100 = .ok (.aload_n 0, 1) := by decide +kernel
theorem dX4_line_101 : decode cX4_line 101 = .ok (.invokevirtual 128, 3) := by decide +kernel
theorem dX4_line_104 : decode cX4_line 104 = .ok (.goto 48, 3) := by decide +kernel
theorem dX4_line_107 : decode cX4_line 107 = .ok (.aload_n 0, 1) := by decide +kernel
theorem dX4_line_108 : decode cX4_line 108 = .ok (.invokevirtual 131, 3) := by decide +kernel
theorem dX4_line_111 : decode cX4_line 111 = .ok (.goto 41, 3) := by decide +kernel
theorem dX4_line_114 : decode cX4_line 114 = .ok (.aload_n 0, 1) := by decide +kernel
theorem dX4_line_115 : decode cX4_line 115 = .ok (.aload_n 0, 1) := by decide +kernel
theorem dX4_line_116 : decode cX4_line 116 = .ok (.getfield 28, 3) := by decide +kernel
theorem dX4_line_119 : decode cX4_line 119 = .ok (.getfield 134, 3) := by decide +kernel
theorem dX4_line_122 : decode cX4_line 122 = .ok (.getfield 138, 3) := by decide +kernel
theorem dX4_line_125 : decode cX4_line 125 = .ok (.invokevirtual 144, 3) := by decide +kernel
theorem dX4_line_128 : decode cX4_line 128 = .ok (.aload_n 0, 1) := by decide +kernel
theorem dX4_line_129 : decode cX4_line 129 = .ok (.getfield 28, 3) := by decide +kernel
theorem dX4_line_132 : decode cX4_line 132 = .ok (.getfield 134, 3) := by decide +kernel
theorem dX4_line_135 : decode cX4_line 135 = .ok (.invokevirtual 148, 3) := by decide +kernel
theorem dX4_line_138 : decode cX4_line 138 = .ok (.aload_n 0, 1) := by decide +kernel
theorem dX4_line_139 : decode cX4_line 139 = .ok (.iconst 0, 1) := by decide +kernel
theorem dX4_line_140 : decode cX4_line 140 = .ok (.iconst 0, 1) := by decide +kernel
theorem dX4_line_141 : decode cX4_line 141 = .ok (.invokevirtual 151, 3) := by decide +kernel
theorem dX4_line_144 : decode cX4_line 144 = .ok (.goto 8, 3) := by decide +kernel
theorem dX4_line_147 : decode cX4_line 147 = .ok (.aload_n 0, 1) := by decide +kernel
theorem dX4_line_148 : decode cX4_line 148 = .ok (.iconst 2, 1) := by decide +kernel
theorem dX4_line_149 : decode cX4_line 149 = .ok (.invokevirtual 98, 3) := by decide +kernel
theorem dX4_line_152 : decode cX4_line 152 = .ok (.aload_n 0, 1) := by decide +kernel
theorem dX4_line_153 : decode cX4_line 153 = .ok (.bipush 59, 2) := by decide +kernel
theorem dX4_line_155 : decode cX4_line 155 = .ok (.invokevirtual 154, 3) := by decide +kernel
theorem dX4_line_158 : decode cX4_line 158 = .ok (.return_, 1) := by decide +kernel
theorem dX4_startLine_0 : decode cX4_startLine 0 = .ok (.iload_n 1, 1) := by decide +kernel
theorem dX4_startLine_1 : decode cX4_startLine 1 = .ok (.ifCond .eq 8, 3) := by decide +kernel
theorem dX4_startLine_4 : decode cX4_startLine 4 = .ok (.aload_n 0, 1) := by decide +kernel
theorem dX4_startLine_5 : decode cX4_startLine 5 = .ok (.iconst 2, 1) := by decide +kernel
theorem dX4_startLine_6 : decode cX4_startLine 6 = .ok (.invokevirtual 98, 3) := by decide +kernel
theorem dX4_startLine_9 : decode cX4_startLine 9 = .ok (.aload_n 0, 1) := by decide +kernel
theorem dX4_startLine_10 : decode cX4_startLine 10 = .ok (.invokevirtual 63, 3) := by decide +kernel
theorem dX4_startLine_13 : decode cX4_startLine 13 = .ok (.return_, 1) := by decide +kernel
theorem dX4_chairLine_0 : decode cX4_chairLine 0 = .ok (.aload_n 0, 1) := by decide +kernel
theorem dX4_chairLine_1 : decode cX4_chairLine 1 = .ok (.aload_n 0, 1) := by decide +kernel
theorem dX4_chairLine_2 : decode cX4_chairLine 2 = .ok (.getfield 28, 3) := by decide +kernel
theorem dX4_chairLine_5 : decode cX4_chairLine 5 = .ok (.getfield 157, 3) := by decide +kernel
theorem dX4_chairLine_8 : decode cX4_chairLine 8 = .ok (.invokevirtual 160, 3) := by decide +kernel
theorem dX4_chairLine_11 : decode cX4_chairLine 11 = .ok (.invokevirtual 144, 3) := by decide +kernel
theorem dX4_chairLine_14 : decode cX4_chairLine 14 = .ok (.aload_n 0, 1) := by decide +kernel
theorem dX4_chairLine_15 : decode cX4_chairLine 15 = .ok (.aload_n 0, 1) := by decide +kernel
theorem dX4_chairLine_16 : decode cX4_chairLine 16 = .ok (.getfield 28, 3) := by decide +kernel
theorem dX4_chairLine_19 : decode cX4_chairLine 19 = .ok (.getfield 157, 3) := by decide +kernel
theorem dX4_chairLine_22 : decode cX4_chairLine 22 = .ok (.invokevirtual 164, 3) := by decide +kernel
theorem dX4_chairLine_25 : decode cX4_chairLine 25 = .ok (.lstore_n 1, 1) := by decide +kernel
theorem dX4_chairLine_26 : decode cX4_chairLine 26 = .ok (.aload_n 0, 1) := by decide +kernel
theorem dX4_chairLine_27 : decode cX4_chairLine 27 = .ok (.sipush 129, 3) := by decide +kernel
theorem dX4_chairLine_30 : decode cX4_chairLine 30 = .ok (.invokevirtual 154, 3) := by decide +kernel
theorem dX4_chairLine_33 : decode cX4_chairLine 33 = .ok (.aload_n 0, 1) := by decide +kernel
theorem dX4_chairLine_34 : decode cX4_chairLine 34 = .ok (.iconst 1, 1) := by decide +kernel
theorem dX4_chairLine_35 : decode cX4_chairLine 35 = .ok (.iconst 2, 1) := by decide +kernel
theorem dX4_chairLine_36 : decode cX4_chairLine 36 = .ok (.invokevirtual 168, 3) := by decide +kernel
theorem dX4_chairLine_39 : decode cX4_chairLine 39 = .ok (.istore_n 3, 1) := by decide +kernel
theorem dX4_chairLine_40 : decode cX4_chairLine 40 = .ok (.aload_n 0, 1) := by decide +kernel
theorem dX4_chairLine_41 : decode cX4_chairLine 41 = .ok (.sipush 130, 3) := by decide +kernel
theorem dX4_chairLine_44 : decode cX4_chairLine 44 = .ok (.invokevirtual 172, 3) := by decide +kernel
theorem dX4_chairLine_47 : decode cX4_chairLine 47 = .ok (.istore 4, 2) := by decide +kernel
theorem dX4_chairLine_49 : decode cX4_chairLine 49 = .ok (.aload_n 0, 1) := by decide +kernel
theorem dX4_chairLine_50 : decode cX4_chairLine 50 = .ok (.getfield 60, 3) := by decide +kernel
theorem dX4_chairLine_53 : decode cX4_chairLine 53 = .ok (.ifCond .ne 14, 3) := by decide +kernel
theorem dX4_chairLine_56 : decode cX4_chairLine 56 = .ok (.aload_n 0, 1) := by decide +kernel
theorem dX4_chairLine_57 : decode cX4_chairLine 57 = .ok (.getfield 28, 3) := by decide +kernel
theorem dX4_chairLine_60 : decode cX4_chairLine 60 = .ok (.lload_n 1, 1) := by decide +kernel
theorem dX4_chairLine_61 : decode cX4_chairLine 61 = .ok (.iload_n 3, 1) := by decide +kernel
theorem dX4_chairLine_62 : decode cX4_chairLine 62 = .ok (.iload 4, 2) := by decide +kernel
theorem dX4_chairLine_64 : decode cX4_chairLine 64 = .ok (.invokevirtual 176, 3) := by decide +kernel
theorem dX4_chairLine_67 : decode cX4_chairLine 67 = .ok (.return_, 1) := by decide +kernel
theorem dX4_manLine_0 : decode cX4_manLine 0 = .ok (.aload_n 0, 1) := by decide +kernel
theorem dX4_manLine_1 : decode cX4_manLine 1 = .ok (.aload_n 0, 1) := by decide +kernel
theorem dX4_manLine_2 : decode cX4_manLine 2 = .ok (.getfield 28, 3) := by decide +kernel
theorem dX4_manLine_5 : decode cX4_manLine 5 = .ok (.getfield 180, 3) := by decide +kernel
theorem dX4_manLine_8 : decode cX4_manLine 8 = .ok (.invokevirtual 160, 3) := by decide +kernel
theorem dX4_manLine_11 : decode cX4_manLine 11 = .ok (.invokevirtual 144, 3) := by decide +kernel
theorem dX4_manLine_14 : decode cX4_manLine 14 = .ok (.aload_n 0, 1) := by decide +kernel
theorem dX4_manLine_15 : decode cX4_manLine 15 = .ok (.aload_n 0, 1) := by decide +kernel
theorem dX4_manLine_16 : decode cX4_manLine 16 = .ok (.getfield 28, 3) := by decide +kernel
theorem dX4_manLine_19 : decode cX4_manLine 19 = .ok (.getfield 180, 3) := by decide +kernel
theorem dX4_manLine_22 : decode cX4_manLine 22 = .ok (.invokevirtual 164, 3) := by decide +kernel
theorem dX4_manLine_25 : decode cX4_manLine 25 = .ok (.lstore_n 1, 1) := by decide +kernel
theorem dX4_manLine_26 : decode cX4_manLine 26 = .ok (.aload_n 0, 1) := by decide +kernel
theorem dX4_manLine_27 : decode cX4_manLine 27 = .ok (.sipush 132, 3) := by decide +kernel
theorem dX4_manLine_30 : decode cX4_manLine 30 = .ok (.invokevirtual 154, 3) := by decide +kernel
theorem dX4_manLine_33 : decode cX4_manLine 33 = .ok (.aload_n 0, 1) := by decide +kernel
theorem dX4_manLine_34 : decode cX4_manLine 34 = .ok (.iconst 1, 1) := by decide +kernel
theorem dX4_manLine_35 : decode cX4_manLine 35 = .ok (.bipush 30, 2) := by decide +kernel
theorem dX4_manLine_37 : decode cX4_manLine 37 = .ok (.invokevirtual 168, 3) := by decide +kernel
theorem dX4_manLine_40 : decode cX4_manLine 40 = .ok (.istore_n 3, 1) := by decide +kernel
theorem dX4_manLine_41 : decode cX4_manLine 41 = .ok (.aload_n 0, 1) := by decide +kernel
theorem dX4_manLine_42 : decode cX4_manLine 42 = .ok (.sipush 133, 3) := by decide +kernel
theorem dX4_manLine_45 : decode cX4_manLine 45 = .ok (.invokevirtual 172, 3) := by decide +kernel
theorem dX4_manLine_48 : decode cX4_manLine 48 = .ok (.istore 4, 2) := by decide +kernel
theorem dX4_manLine_50 : decode cX4_manLine 50 = .ok (.aload_n 0, 1) := by decide +kernel
theorem dX4_manLine_51 : decode cX4_manLine 51 = .ok (.getfield 60, 3) := by decide +kernel
theorem dX4_manLine_54 : decode cX4_manLine 54 = .ok (.ifCond .ne 14, 3) := by decide +kernel
theorem dX4_manLine_57 : decode cX4_manLine 57 = .ok (.aload_n 0, 1) := by decide +kernel
theorem dX4_manLine_58 : decode cX4_manLine 58 = .ok (.getfield 28, 3) := by decide +kernel
theorem dX4_manLine_61 : decode cX4_manLine 61 = .ok (.lload_n 1, 1) := by decide +kernel
theorem dX4_manLine_62 : decode cX4_manLine 62 = .ok (.iload_n 3, 1) := by decide +kernel
theorem dX4_manLine_63 : decode cX4_manLine 63 = .ok (.iload 4, 2) := by decide +kernel
theorem dX4_manLine_65 : decode cX4_manLine 65 = .ok (.invokevirtual 183, 3) := by decide +kernel
theorem dX4_manLine_68 : decode cX4_manLine 68 = .ok (.return_, 1) := by decide +kernel
theorem dX4_matterLine_0 : decode cX4_matterLine 0 = .ok (.aload_n 0, 1) := by decide +kernel
theorem dX4_matterLine_1 : decode cX4_matterLine 1 = .ok (.aload_n 0, 1) := by decide +kernel
theorem dX4_matterLine_2 : decode cX4_matterLine 2 = .ok (.getfield 28, 3) := by decide +kernel
theorem dX4_matterLine_5 : decode cX4_matterLine 5 = .ok (.getfield 186, 3) := by decide +kernel
theorem dX4_matterLine_8 : decode cX4_matterLine 8 = .ok (.invokevirtual 160, 3) := by decide +kernel
theorem dX4_matterLine_11 : decode cX4_matterLine 11 = .ok (.invokevirtual 144, 3) := by decide +kernel
theorem dX4_matterLine_14 : decode cX4_matterLine 14 = .ok (.aload_n 0, 1) := by decide +kernel
theorem dX4_matterLine_15 : decode cX4_matterLine 15 = .ok (.aload_n 0, 1) := by decide +kernel
theorem dX4_matterLine_16 : decode cX4_matterLine 16 = .ok (.getfield 28, 3) := by decide +kernel
theorem dX4_matterLine_19 : decode cX4_matterLine 19 = .ok (.getfield 186, 3) := by decide +kernel
theorem dX4_matterLine_22 : decode cX4_matterLine 22 = .ok (.invokevirtual 164, 3) := by decide +kernel
theorem dX4_matterLine_25 : decode cX4_matterLine 25 = .ok (.lstore_n 1, 1) := by decide +kernel
theorem dX4_matterLine_26 : decode cX4_matterLine 26 = .ok (.aload_n 0, 1) := by decide +kernel
theorem dX4_matterLine_27 : decode cX4_matterLine 27 = .ok (.sipush 135, 3) := by decide +kernel
theorem dX4_matterLine_30 : decode cX4_matterLine 30 = .ok (.invokevirtual 154, 3) := by decide +kernel
theorem dX4_matterLine_33 : decode cX4_matterLine 33 = .ok (.aload_n 0, 1) := by decide +kernel
theorem dX4_matterLine_34 : decode cX4_matterLine 34 = .ok (.iconst 1, 1) := by decide +kernel
theorem dX4_matterLine_35 : decode cX4_matterLine 35 = .ok (.sipush 999, 3) := by decide +kernel
theorem dX4_matterLine_38 : decode cX4_matterLine 38 = .ok (.invokevirtual 168, 3) := by decide +kernel
theorem dX4_matterLine_41 : decode cX4_matterLine 41 = .ok (.istore_n 3, 1) := by decide +kernel
theorem dX4_matterLine_42 : decode cX4_matterLine 42 = .ok (.aload_n 0, 1) := by decide +kernel
theorem dX4_matterLine_43 : decode cX4_matterLine 43 = .ok (.getfield 60, 3) := by decide +kernel
theorem dX4_matterLine_46 : decode cX4_matterLine 46 = .ok (.ifCond .ne 12, 3) := by decide +kernel
theorem dX4_matterLine_49 : decode cX4_matterLine 49 = .ok (.aload_n 0, 1) := by decide +kernel
theorem dX4_matterLine_50 : decode cX4_matterLine 50 = .ok (.getfield 28, 3) := by decide +kernel
theorem dX4_matterLine_53 : decode cX4_matterLine 53 = .ok (.lload_n 1, 1) := by decide +kernel
theorem dX4_matterLine_54 : decode cX4_matterLine 54 = .ok (.iload_n 3, 1) := by decide +kernel
theorem dX4_matterLine_55 : decode cX4_matterLine 55 = .ok (.invokevirtual 189, 3) := by decide +kernel
theorem dX4_matterLine_58 : decode cX4_matterLine 58 = .ok (.return_, 1) := by decide +kernel
theorem dX4_wishLine_0 : decode cX4_wishLine 0 = .ok (.aload_n 0, 1) := by decide +kernel
theorem dX4_wishLine_1 : decode cX4_wishLine 1 = .ok (.aload_n 0, 1) := by decide +kernel
theorem dX4_wishLine_2 : decode cX4_wishLine 2 = .ok (.getfield 28, 3) := by decide +kernel
theorem dX4_wishLine_5 : decode cX4_wishLine 5 = .ok (.getfield 193, 3) := by decide +kernel
theorem dX4_wishLine_8 : decode cX4_wishLine 8 = .ok (.bipush 24, 2) := by decide +kernel
theorem dX4_wishLine_10 : decode cX4_wishLine 10 = .ok (.if_icmp .lt 7, 3) := by decide +kernel
theorem dX4_wishLine_13 : decode cX4_wishLine 13 = .ok (.iconst 1, 1) := by decide +kernel
theorem dX4_wishLine_14 : decode cX4_wishLine 14 = .ok (.goto 4, 3) := by decide +kernel
theorem dX4_wishLine_17 : decode cX4_wishLine 17 = .ok (.iconst 0, 1) := by decide +kernel
theorem dX4_wishLine_18 : decode cX4_wishLine 18 = .ok (.invokevirtual 144, 3) := by decide +kernel
theorem dX4_wishLine_21 : decode cX4_wishLine 21 = .ok (.aload_n 0, 1) := by decide +kernel
theorem dX4_wishLine_22 : decode cX4_wishLine 22 = .ok (.aload_n 0, 1) := by decide +kernel
theorem dX4_wishLine_23 : decode cX4_wishLine 23 = .ok (.getfield 28, 3) := by decide +kernel
theorem dX4_wishLine_26 : decode cX4_wishLine 26 = .ok (.getfield 180, 3) := by decide +kernel
theorem dX4_wishLine_29 : decode cX4_wishLine 29 = .ok (.invokevirtual 196, 3) := by decide +kernel
theorem dX4_wishLine_32 : decode cX4_wishLine 32 = .ok (.istore_n 1, 1) := by decide +kernel
theorem dX4_wishLine_33 : decode cX4_wishLine 33 = .ok (.aload_n 0, 1) := by decide +kernel
theorem dX4_wishLine_34 : decode cX4_wishLine 34 = .ok (.invokevirtual 63, 3) := by decide +kernel
theorem dX4_wishLine_37 : decode cX4_wishLine 37 = .ok (.aload_n 0, 1) := by decide +kernel
theorem dX4_wishLine_38 : decode cX4_wishLine 38 = .ok (.aload_n 0, 1) := by decide +kernel
theorem dX4_wishLine_39 : decode cX4_wishLine 39 = .ok (.getfield 28, 3) := by decide +kernel
theorem dX4_wishLine_42 : decode cX4_wishLine 42 = .ok (.getfield 186, 3) := by decide +kernel
theorem dX4_wishLine_45 : decode cX4_wishLine 45 = .ok (.invokevirtual 196, 3) := by decide +kernel
theorem dX4_wishLine_48 : decode cX4_wishLine 48 = .ok (.istore_n 2, 1) := by decide +kernel
theorem dX4_wishLine_49 : decode cX4_wishLine 49 = .ok (.aload_n 0, 1) := by decide +kernel
theorem dX4_wishLine_50 : decode cX4_wishLine 50 = .ok (.getfield 28, 3) := by decide +kernel
theorem dX4_wishLine_53 : decode cX4_wishLine 53 = .ok (.iload_n 1, 1) := by decide +kernel
theorem dX4_wishLine_54 : decode cX4_wishLine 54 = .ok (.iload_n 2, 1) := by decide +kernel
theorem dX4_wishLine_55 : decode cX4_wishLine 55 = .ok (.invokevirtual 200, 3) := by decide +kernel
theorem dX4_wishLine_58 : decode cX4_wishLine 58 = .ok (.ifCond .eq 8, 3) := by decide +kernel
theorem dX4_wishLine_61 : decode cX4_wishLine 61 = .ok (.aload_n 0, 1) := by decide +kernel
theorem dX4_wishLine_62 : decode cX4_wishLine 62 = .ok (.iconst 3, 1) := by decide +kernel
theorem dX4_wishLine_63 : decode cX4_wishLine 63 = .ok (.invokevirtual 98, 3) := by decide +kernel
theorem dX4_wishLine_66 : decode cX4_wishLine 66 = .ok (.aload_n 0, 1) := by decide +kernel
theorem dX4_wishLine_67 : decode cX4_wishLine 67 = .ok (.invokevirtual 63, 3) := by decide +kernel
theorem dX4_wishLine_70 : decode cX4_wishLine 70 = .ok (.aload_n 0, 1) := by decide +kernel
theorem dX4_wishLine_71 : decode cX4_wishLine 71 = .ok (.invokevirtual 204, 3) := by decide +kernel
theorem dX4_wishLine_74 : decode cX4_wishLine 74 = .ok (.istore_n 3, 1) := by decide +kernel
theorem dX4_wishLine_75 : decode cX4_wishLine 75 = .ok (.aload_n 0, 1) := by decide +kernel
theorem dX4_wishLine_76 : decode cX4_wishLine 76 = .ok (.getfield 60, 3) := by decide +kernel
theorem dX4_wishLine_79 : decode cX4_wishLine 79 = .ok (.ifCond .ne 13, 3) := by decide +kernel
theorem dX4_wishLine_82 : decode cX4_wishLine 82 = .ok (.aload_n 0, 1) := by decide +kernel
theorem dX4_wishLine_83 : decode cX4_wishLine 83 = .ok (.getfield 28, 3) := by decide +kernel
theorem dX4_wishLine_86 : decode cX4_wishLine 86 = .ok (.iload_n 1, 1) := by decide +kernel
theorem dX4_wishLine_87 : decode cX4_wishLine 87 = .ok (.iload_n 2, 1) := by decide +kernel
theorem dX4_wishLine_88 : decode cX4_wishLine 88 = .ok (.iload_n 3, 1) := by decide +kernel
theorem dX4_wishLine_89 : decode cX4_wishLine 89 = .ok (.invokevirtual 207, 3) := by decide +kernel
theorem dX4_wishLine_92 : decode cX4_wishLine 92 = .ok (.return_, 1) := by decide +kernel
theorem dX4_dealLine_0 : decode cX4_dealLine 0 = .ok (.aload_n 0, 1) := by decide +kernel
theorem dX4_dealLine_1 : decode cX4_dealLine 1 = .ok (.aload_n 0, 1) := by decide +kernel
theorem dX4_dealLine_2 : decode cX4_dealLine 2 = .ok (.getfield 28, 3) := by decide +kernel
theorem dX4_dealLine_5 : decode cX4_dealLine 5 = .ok (.getfield 211, 3) := by decide +kernel
theorem dX4_dealLine_8 : decode cX4_dealLine 8 = .ok (.iconst 4, 1) := by decide +kernel
theorem dX4_dealLine_9 : decode cX4_dealLine 9 = .ok (.if_icmp .lt 7, 3) := by decide +kernel
theorem dX4_dealLine_12 : decode cX4_dealLine 12 = .ok (.iconst 1, 1) := by decide +kernel
theorem dX4_dealLine_13 : decode cX4_dealLine 13 = .ok (.goto 4, 3) := by decide +kernel
theorem dX4_dealLine_16 : decode cX4_dealLine 16 = .ok (.iconst 0, 1) := by decide +kernel
theorem dX4_dealLine_17 : decode cX4_dealLine 17 = .ok (.invokevirtual 144, 3) := by decide +kernel
theorem dX4_dealLine_20 : decode cX4_dealLine 20 = .ok (.aload_n 0, 1) := by decide +kernel
theorem dX4_dealLine_21 : decode cX4_dealLine 21 = .ok (.aload_n 0, 1) := by decide +kernel
theorem dX4_dealLine_22 : decode cX4_dealLine 22 = .ok (.getfield 28, 3) := by decide +kernel
theorem dX4_dealLine_25 : decode cX4_dealLine 25 = .ok (.getfield 180, 3) := by decide +kernel
theorem dX4_dealLine_28 : decode cX4_dealLine 28 = .ok (.invokevirtual 196, 3) := by decide +kernel
theorem dX4_dealLine_31 : decode cX4_dealLine 31 = .ok (.istore_n 1, 1) := by decide +kernel
theorem dX4_dealLine_32 : decode cX4_dealLine 32 = .ok (.aload_n 0, 1) := by decide +kernel
theorem dX4_dealLine_33 : decode cX4_dealLine 33 = .ok (.invokevirtual 63, 3) := by decide +kernel
theorem dX4_dealLine_36 : decode cX4_dealLine 36 = .ok (.aload_n 0, 1) := by decide +kernel
theorem dX4_dealLine_37 : decode cX4_dealLine 37 = .ok (.aload_n 0, 1) := by decide +kernel
theorem dX4_dealLine_38 : decode cX4_dealLine 38 = .ok (.getfield 28, 3) := by decide +kernel
theorem dX4_dealLine_41 : decode cX4_dealLine 41 = .ok (.getfield 186, 3) := by decide +kernel
theorem dX4_dealLine_44 : decode cX4_dealLine 44 = .ok (.invokevirtual 196, 3) := by decide +kernel
theorem dX4_dealLine_47 : decode cX4_dealLine 47 = .ok (.istore_n 2, 1) := by decide +kernel
theorem dX4_dealLine_48 : decode cX4_dealLine 48 = .ok (.aload_n 0, 1) := by decide +kernel
theorem dX4_dealLine_49 : decode cX4_dealLine 49 = .ok (.invokevirtual 63, 3) := by decide +kernel
theorem dX4_dealLine_52 : decode cX4_dealLine 52 = .ok (.aload_n 0, 1) := by decide +kernel
theorem dX4_dealLine_53 : decode cX4_dealLine 53 = .ok (.sipush 138, 3) := by decide +kernel
theorem dX4_dealLine_56 : decode cX4_dealLine 56 = .ok (.invokevirtual 154, 3) := by decide +kernel
theorem dX4_dealLine_59 : decode cX4_dealLine 59 = .ok (.aload_n 0, 1) := by decide +kernel
theorem dX4_dealLine_60 : decode cX4_dealLine 60 = .ok (.aload_n 0, 1) := by decide +kernel
theorem dX4_dealLine_61 : decode cX4_dealLine 61 = .ok (.getfield 28, 3) := by decide +kernel
theorem dX4_dealLine_64 : decode cX4_dealLine 64 = .ok (.getfield 180, 3) := by decide +kernel
theorem dX4_dealLine_67 : decode cX4_dealLine 67 = .ok (.invokevirtual 196, 3) := by decide +kernel
theorem dX4_dealLine_70 : decode cX4_dealLine 70 = .ok (.istore_n 3, 1) := by decide +kernel
theorem dX4_dealLine_71 : decode cX4_dealLine 71 = .ok (.iload_n 3, 1) := by decide +kernel
theorem dX4_dealLine_72 : decode cX4_dealLine 72 = .ok (.iload_n 1, 1) := by decide +kernel
theorem dX4_dealLine_73 : decode cX4_dealLine 73 = .ok (.if_icmp .ne 8, 3) := by decide +kernel
theorem dX4_dealLine_76 : decode cX4_dealLine 76 = .ok (.aload_n 0, 1) := by decide +kernel
theorem dX4_dealLine_77 : decode cX4_dealLine 77 = .ok (.iconst 3, 1) := by decide +kernel
theorem dX4_dealLine_78 : decode cX4_dealLine 78 = .ok (.invokevirtual 98, 3) := by decide +kernel
theorem dX4_dealLine_81 : decode cX4_dealLine 81 = .ok (.aload_n 0, 1) := by decide +kernel
theorem dX4_dealLine_82 : decode cX4_dealLine 82 = .ok (.invokevirtual 63, 3) := by decide +kernel
theorem dX4_dealLine_85 : decode cX4_dealLine 85 = .ok (.aload_n 0, 1) := by decide +kernel
theorem dX4_dealLine_86 : decode cX4_dealLine 86 = .ok (.aload_n 0, 1) := by decide +kernel
theorem dX4_dealLine_87 : decode cX4_dealLine 87 = .ok (.getfield 28, 3) := by decide +kernel
theorem dX4_dealLine_90 : decode cX4_dealLine 90 = .ok (.getfield 186, 3) := by decide +kernel
theorem dX4_dealLine_93 : decode cX4_dealLine 93 = .ok (.invokevirtual 196, 3) := by decide +kernel
theorem dX4_dealLine_96 : decode cX4_dealLine 96 = .ok (.istore 4, 2) := by decide +kernel
theorem dX4_dealLine_98 : decode cX4_dealLine 98 = .ok (.iload 4, 2) := by decide +kernel
theorem dX4_dealLine_100 : decode cX4_dealLine 100 = .ok (.iload_n 2, 1) := by decide +kernel
theorem dX4_dealLine_101 : decode cX4_dealLine 101 = .ok (.if_icmp .ne 8, 3) := by decide +kernel
theorem dX4_dealLine_104 : decode cX4_dealLine 104 = .ok (.aload_n 0, 1) := by decide +kernel
theorem dX4_dealLine_105 : decode cX4_dealLine 105 = .ok (.iconst 3, 1) := by decide +kernel
theorem dX4_dealLine_106 : decode cX4_dealLine 106 = .ok (.invokevirtual 98, 3) := by decide +kernel
theorem dX4_dealLine_109 : decode cX4_dealLine 109 = .ok (.aload_n 0, 1) := by decide +kernel
theorem dX4_dealLine_110 : decode cX4_dealLine 110 = .ok (.invokevirtual 63, 3) := by decide +kernel
theorem dX4_dealLine_113 : decode cX4_dealLine 113 = .ok (.aload_n 0, 1) := by decide +kernel
theorem dX4_dealLine_114 : decode cX4_dealLine 114 = .ok (.getfield 60, 3) := by decide +kernel
theorem dX4_dealLine_117 : decode cX4_dealLine 117 = .ok (.ifCond .ne 15, 3) := by decide +kernel
theorem dX4_dealLine_120 : decode cX4_dealLine 120 = .ok (.aload_n 0, 1) := by decide +kernel
theorem dX4_dealLine_121 : decode cX4_dealLine 121 = .ok (.getfield 28, 3) := by decide +kernel
theorem dX4_dealLine_124 : decode cX4_dealLine 124 = .ok (.iload_n 1, 1) := by decide +kernel
theorem dX4_dealLine_125 : decode cX4_dealLine 125 = .ok (.iload_n 2, 1) := by decide +kernel
theorem dX4_dealLine_126 : decode cX4_dealLine 126 = .ok (.iload_n 3, 1) := by decide +kernel
theorem dX4_dealLine_127 : decode cX4_dealLine 127 = .ok (.iload 4, 2) := by decide +kernel
theorem dX4_dealLine_129 : decode cX4_dealLine 129 = .ok (.invokevirtual 214, 3) := by decide +kernel
theorem dX4_dealLine_132 : decode cX4_dealLine 132 = .ok (.return_, 1) := by decide +kernel
theorem dX4_napLine_0 : decode cX4_napLine 0 = .ok (.aload_n 0, 1) := by decide +kernel
theorem dX4_napLine_1 : decode cX4_napLine 1 = .ok (.aload_n 0, 1) := by decide +kernel
theorem dX4_napLine_2 : decode cX4_napLine 2 = .ok (.getfield 28, 3) := by decide +kernel
theorem dX4_napLine_5 : decode cX4_napLine 5 = .ok (.getfield 218, 3) := by decide +kernel
theorem dX4_napLine_8 : decode cX4_napLine 8 = .ok (.ifCond .eq 7, 3) := by decide +kernel
theorem dX4_napLine_11 : decode cX4_napLine 11 = .ok (.iconst 1, 1) := by decide +kernel
theorem dX4_napLine_12 : decode cX4_napLine 12 = .ok (.goto 4, 3) := by decide +kernel
theorem dX4_napLine_15 : decode cX4_napLine 15 = .ok (.iconst 0, 1) := by decide +kernel
theorem dX4_napLine_16 : decode cX4_napLine 16 = .ok (.invokevirtual 144, 3) := by decide +kernel
theorem dX4_napLine_19 : decode cX4_napLine 19 = .ok (.aload_n 0, 1) := by decide +kernel
theorem dX4_napLine_20 : decode cX4_napLine 20 = .ok (.iconst 1, 1) := by decide +kernel
theorem dX4_napLine_21 : decode cX4_napLine 21 = .ok (.bipush 99, 2) := by decide +kernel
theorem dX4_napLine_23 : decode cX4_napLine 23 = .ok (.invokevirtual 168, 3) := by decide +kernel
theorem dX4_napLine_26 : decode cX4_napLine 26 = .ok (.istore_n 1, 1) := by decide +kernel
theorem dX4_napLine_27 : decode cX4_napLine 27 = .ok (.aload_n 0, 1) := by decide +kernel
theorem dX4_napLine_28 : decode cX4_napLine 28 = .ok (.getfield 60, 3) := by decide +kernel
theorem dX4_napLine_31 : decode cX4_napLine 31 = .ok (.ifCond .ne 11, 3) := by decide +kernel
theorem dX4_napLine_34 : decode cX4_napLine 34 = .ok (.aload_n 0, 1) := by decide +kernel
theorem dX4_napLine_35 : decode cX4_napLine 35 = .ok (.getfield 28, 3) := by decide +kernel
theorem dX4_napLine_38 : decode cX4_napLine 38 = .ok (.iload_n 1, 1) := by decide +kernel
theorem dX4_napLine_39 : decode cX4_napLine 39 = .ok (.putfield 218, 3) := by decide +kernel
theorem dX4_napLine_42 : decode cX4_napLine 42 = .ok (.return_, 1) := by decide +kernel
theorem dX4_expression_0 : decode cX4_expression 0 = .ok (.aload_n 0, 1) := by decide +kernel
theorem dX4_expression_1 : decode cX4_expression 1 = .ok (.getfield 60, 3) := by decide +kernel
theorem dX4_expression_4 : decode cX4_expression 4 = .ok (.ifCond .eq 4, 3) := by decide +kernel
theorem dX4_expression_7 : decode cX4_expression 7 = .ok (.return_, 1) := by decide +kernel
theorem dX4_expression_8 : decode cX4_expression 8 = .ok (.iload_n 1, 1) := by decide +kernel
theorem dX4_expression_9 : decode cX4_expression 9 = .ok (.iconst 5, 1) := by decide +kernel
theorem dX4_expression_10 : decode cX4_expression 10 = .ok (.if_icmp .lt 9, 3) := by decide +kernel
theorem dX4_expression_13 : decode cX4_expression 13 = .ok (.aload_n 0, 1) := by decide +kernel
theorem dX4_expression_14 : decode cX4_expression 14 = .ok (.iload_n 2, 1) := by decide +kernel
theorem dX4_expression_15 : decode cX4_expression 15 = .ok (.invokevirtual 221, 3) := by decide +kernel
theorem dX4_expression_18 : decode cX4_expression 18 = .ok (.return_, 1) := by decide +kernel
theorem dX4_expression_19 : decode cX4_expression 19 = .ok (.iload_n 1, 1) := by decide +kernel
theorem dX4_expression_20 : decode cX4_expression 20 = .ok (.iconst 2, 1) := by decide +kernel
theorem dX4_expression_21 : decode cX4_expression 21 = .ok (.if_icmp .ne 19, 3) := by decide +kernel
theorem dX4_expression_24 : decode cX4_expression 24 = .ok (.aload_n 0, 1) := by decide +kernel
theorem dX4_expression_25 : decode cX4_expression 25 = .ok (.getfield 66, 3) := by decide +kernel
theorem dX4_expression_28 : decode cX4_expression 28 = .ok (.sipush 143, 3) := by decide +kernel
theorem dX4_expression_31 : decode cX4_expression 31 = .ok (.if_icmp .ne 9, 3) := by decide +kernel
theorem dX4_expression_34 : decode cX4_expression 34 = .ok (.aload_n 0, 1) := by decide +kernel
theorem dX4_expression_35 : decode cX4_expression 35 = .ok (.iload_n 2, 1) := by decide +kernel
theorem dX4_expression_36 : decode cX4_expression 36 = .ok (.invokevirtual 224, 3) := by decide +kernel
theorem dX4_expression_39 : decode cX4_expression 39 = .ok (.return_, 1) := by decide +kernel
theorem dX4_expression_40 : decode cX4_expression 40 = .ok (.aload_n 0, 1) := by decide +kernel
theorem dX4_expression_41 : decode cX4_expression 41 = .ok (.iload_n 1, 1) := by decide +kernel
theorem dX4_expression_42 : decode cX4_expression 42 = .ok (.iconst 1, 1) := by decide +kernel
theorem dX4_expression_43 : decode cX4_expression 43 = .ok (.iadd, 1) := by decide +kernel
theorem dX4_expression_44 : decode cX4_expression 44 = .ok (.iload_n 2, 1) := by decide +kernel
theorem dX4_expression_45 : decode cX4_expression 45 = .ok (.invokevirtual 151, 3) := by decide +kernel
theorem dX4_expression_48 : decode cX4_expression 48 = .ok (.aload_n 0, 1) := by decide +kernel
theorem dX4_expression_49 : decode cX4_expression 49 = .ok (.iload_n 1, 1) := by decide +kernel
theorem dX4_expression_50 : decode cX4_expression 50 = .ok (.invokevirtual 227, 3) := by decide +kernel
theorem dX4_expression_53 : decode cX4_expression 53 = .ok (.istore_n 3, 1) := by decide +kernel
theorem dX4_expression_54 : decode cX4_expression 54 = .ok (.iconst 0, 1) := by decide +kernel
theorem dX4_expression_55 : decode cX4_expression 55 = .ok (.istore 4, 2) := by decide +kernel
theorem dX4_expression_57 : decode cX4_expression 57 = .ok (.iload 4, 2) := by decide +kernel
theorem dX4_expression_59 : decode cX4_expression 59 = .ok (.bipush 40, 2) := by decide +kernel
theorem dX4_expression_61 : decode cX4_expression 61 = .ok (.if_icmp .gt 69, 3) := by decide +kernel
theorem dX4_expression_64 : decode cX4_expression 64 = .ok (.iload_n 3, 1) := by decide +kernel
theorem dX4_expression_65 : decode cX4_expression 65 = .ok (.ifCond .eq 65, 3) := by decide +kernel
theorem dX4_expression_68 : decode cX4_expression 68 = .ok (.aload_n 0, 1) := by decide +kernel
theorem dX4_expression_69 : decode cX4_expression 69 = .ok (.getfield 60, 3) := by decide +kernel
theorem dX4_expression_72 : decode cX4_expression 72 = .ok (.ifCond .ne 58, 3) := by decide +kernel
theorem dX4_expression_75 : decode cX4_expression 75 = .ok (.aload_n 0, 1) := by decide +kernel
theorem dX4_expression_76 : decode cX4_expression 76 = .ok (.getfield 66, 3) := by decide +kernel
theorem dX4_expression_79 : decode cX4_expression 79 = .ok (.istore 5, 2) := by decide +kernel
theorem dX4_expression_81 : decode cX4_expression 81 = .ok (.aload_n 0, 1) := by decide +kernel
theorem dX4_expression_82 : decode cX4_expression 82 = .ok (.invokevirtual 63, 3) := by decide +kernel
theorem dX4_expression_85 : decode cX4_expression 85 = .ok (.aload_n 0, 1) := by decide +kernel
theorem dX4_expression_86 : decode cX4_expression 86 = .ok (.iload_n 1, 1) := by decide +kernel
theorem dX4_expression_87 : decode cX4_expression 87 = .ok (.iconst 1, 1) := by decide +kernel
theorem dX4_expression_88 : decode cX4_expression 88 = .ok (.iadd, 1) := by decide +kernel
theorem dX4_expression_89 : decode cX4_expression 89 = .ok (.iload_n 2, 1) := by decide +kernel
theorem dX4_expression_90 : decode cX4_expression 90 = .ok (.invokevirtual 151, 3) := by decide +kernel
theorem dX4_expression_93 : decode cX4_expression 93 = .ok (.aload_n 0, 1) := by decide +kernel
theorem dX4_expression_94 : decode cX4_expression 94 = .ok (.getfield 28, 3) := by decide +kernel
theorem dX4_expression_97 : decode cX4_expression 97 = .ok (.getfield 134, 3) := by decide +kernel
theorem dX4_expression_100 : decode cX4_expression 100 = .ok (.iload 5, 2) := by decide +kernel
theorem dX4_expression_102 : decode cX4_expression 102 = .ok (.invokevirtual 230, 3) := by decide +kernel
theorem dX4_expression_105 : decode cX4_expression 105 = .ok (.iload_n 1, 1) := by decide +kernel
theorem dX4_expression_106 : decode cX4_expression 106 = .ok (.iconst 2, 1) := by decide +kernel
theorem dX4_expression_107 : decode cX4_expression 107 = .ok (.if_icmp .eq 15, 3) := by decide +kernel
theorem dX4_expression_110 : decode cX4_expression 110 = .ok (.aload_n 0, 1) := by decide +kernel
theorem dX4_expression_111 : decode cX4_expression 111 = .ok (.iload_n 1, 1) := by decide +kernel
theorem dX4_expression_112 : decode cX4_expression 112 = .ok (.invokevirtual 227, 3) := by decide +kernel
theorem dX4_expression_115 : decode cX4_expression 115 = .ok (.ifCond .eq 7, 3) := by decide +kernel
theorem dX4_expression_118 : decode cX4_expression 118 = .ok (.iconst 1, 1) := by decide +kernel
theorem dX4_expression_119 : decode cX4_expression 119 = .ok (.goto 4, 3) := by decide +kernel
theorem dX4_expression_122 : decode cX4_expression 122 = .ok (.iconst 0, 1) := by decide +kernel
theorem dX4_expression_123 : decode cX4_expression 123 = .ok (.istore_n 3, 1) := by decide +kernel
theorem dX4_expression_124 : decode cX4_expression 124 = .ok (.iinc 4 1, 3) := by decide +kernel
theorem dX4_expression_127 : decode cX4_expression 127 = .ok (.goto (-70), 3) := by decide +kernel
theorem dX4_expression_130 : decode cX4_expression 130 = .ok (.return_, 1) := by decide +kernel
theorem dX4_isJoint_0 : decode cX4_isJoint 0 = .ok (.iload_n 1, 1) := by decide +kernel
theorem dX4_isJoint_1 : decode cX4_isJoint 1 = .ok (.tableswitch 120 0 3 #[31, 47, 63, 96], 31) := by decide +kernel
theorem dX4_isJoint_32 : decode cX4_isJoint 32 = .ok (.aload_n 0, 1) := by decide +kernel
theorem dX4_isJoint_33 : decode cX4_isJoint 33 = .ok (.getfield 66, 3) := by decide +kernel
theorem dX4_isJoint_36 : decode cX4_isJoint 36 = .ok (.sipush 141, 3) := by decide +kernel
theorem dX4_isJoint_39 : decode cX4_isJoint 39 = .ok (.if_icmp .ne 7, 3) := by decide +kernel
theorem dX4_isJoint_42 : decode cX4_isJoint 42 = .ok (.iconst 1, 1) := by decide +kernel
theorem dX4_isJoint_43 : decode cX4_isJoint 43 = .ok (.goto 4, 3) := by decide +kernel
theorem dX4_isJoint_46 : decode cX4_isJoint 46 = .ok (.iconst 0, 1) := by decide +kernel
theorem dX4_isJoint_47 : decode cX4_isJoint 47 = .ok (.ireturn, 1) := by decide +kernel
theorem dX4_isJoint_48 : decode cX4_isJoint 48 = .ok (.aload_n 0, 1) := by decide +kernel
theorem dX4_isJoint_49 : decode cX4_isJoint 49 = .ok (.getfield 66, 3) := by decide +kernel
theorem dX4_isJoint_52 : decode cX4_isJoint 52 = .ok (.sipush 142, 3) := by decide +kernel
theorem dX4_isJoint_55 : decode cX4_isJoint 55 = .ok (.if_icmp .ne 7, 3) := by decide +kernel
theorem dX4_isJoint_58 : decode cX4_isJoint 58 = .ok (.iconst 1, 1) := by decide +kernel
theorem dX4_isJoint_59 : decode cX4_isJoint 59 = .ok (.goto 4, 3) := by decide +kernel
theorem dX4_isJoint_62 : decode cX4_isJoint 62 = .ok (.iconst 0, 1) := by decide +kernel
theorem dX4_isJoint_63 : decode cX4_isJoint 63 = .ok (.ireturn, 1) := by decide +kernel
theorem dX4_isJoint_64 : decode cX4_isJoint 64 = .ok (.aload_n 0, 1) := by decide +kernel
theorem dX4_isJoint_65 : decode cX4_isJoint 65 = .ok (.getfield 66, 3) := by decide +kernel
theorem dX4_isJoint_68 : decode cX4_isJoint 68 = .ok (.bipush 60, 2) := by decide +kernel
theorem dX4_isJoint_70 : decode cX4_isJoint 70 = .ok (.if_icmp .eq 21, 3) := by decide +kernel
theorem dX4_isJoint_73 : decode cX4_isJoint 73 = .ok (.aload_n 0, 1) := by decide +kernel
theorem dX4_isJoint_74 : decode cX4_isJoint 74 = .ok (.getfield 66, 3) := by decide +kernel
theorem dX4_isJoint_77 : decode cX4_isJoint 77 = .ok (.bipush 62, 2) := by decide +kernel
theorem dX4_isJoint_79 : decode cX4_isJoint 79 = .ok (.if_icmp .eq 12, 3) := by decide +kernel
theorem dX4_isJoint_82 : decode cX4_isJoint 82 = .ok (.aload_n 0, 1) := by decide +kernel
theorem dX4_isJoint_83 : decode cX4_isJoint 83 = .ok (.getfield 66, 3) := by decide +kernel
theorem dX4_isJoint_86 : decode cX4_isJoint 86 = .ok (.bipush 61, 2) := by decide +kernel
theorem dX4_isJoint_88 : decode cX4_isJoint 88 = .ok (.if_icmp .ne 7, 3) := by decide +kernel
theorem dX4_isJoint_91 : decode cX4_isJoint 91 = .ok (.iconst 1, 1) := by decide +kernel
theorem dX4_isJoint_92 : decode cX4_isJoint 92 = .ok (.goto 4, 3) := by decide +kernel
theorem dX4_isJoint_95 : decode cX4_isJoint 95 = .ok (.iconst 0, 1) := by decide +kernel
theorem dX4_isJoint_96 : decode cX4_isJoint 96 = .ok (.ireturn, 1) := by decide +kernel
theorem dX4_isJoint_97 : decode cX4_isJoint 97 = .ok (.aload_n 0, 1) := by decide +kernel
theorem dX4_isJoint_98 : decode cX4_isJoint 98 = .ok (.getfield 66, 3) := by decide +kernel
theorem dX4_isJoint_101 : decode cX4_isJoint 101 = .ok (.bipush 43, 2) := by decide +kernel
theorem dX4_isJoint_103 : decode cX4_isJoint 103 = .ok (.if_icmp .eq 12, 3) := by decide +kernel
theorem dX4_isJoint_106 : decode cX4_isJoint 106 = .ok (.aload_n 0, 1) := by decide +kernel
theorem dX4_isJoint_107 : decode cX4_isJoint 107 = .ok (.getfield 66, 3) := by decide +kernel
theorem dX4_isJoint_110 : decode cX4_isJoint 110 = .ok (.bipush 45, 2) := by decide +kernel
theorem dX4_isJoint_112 : decode cX4_isJoint 112 = .ok (.if_icmp .ne 7, 3) := by decide +kernel
theorem dX4_isJoint_115 : decode cX4_isJoint 115 = .ok (.iconst 1, 1) := by decide +kernel
theorem dX4_isJoint_116 : decode cX4_isJoint 116 = .ok (.goto 4, 3) := by decide +kernel
theorem dX4_isJoint_119 : decode cX4_isJoint 119 = .ok (.iconst 0, 1) := by decide +kernel
theorem dX4_isJoint_120 : decode cX4_isJoint 120 = .ok (.ireturn, 1) := by decide +kernel
theorem dX4_isJoint_121 : decode cX4_isJoint 121 = .ok (.aload_n 0, 1) := by decide +kernel
theorem dX4_isJoint_122 : decode cX4_isJoint 122 = .ok (.getfield 66, 3) := by decide +kernel
theorem dX4_isJoint_125 : decode cX4_isJoint 125 = .ok (.bipush 42, 2) := by decide +kernel
theorem dX4_isJoint_127 : decode cX4_isJoint 127 = .ok (.if_icmp .ne 7, 3) := by decide +kernel
theorem dX4_isJoint_130 : decode cX4_isJoint 130 = .ok (.iconst 1, 1) := by decide +kernel
theorem dX4_isJoint_131 : decode cX4_isJoint 131 = .ok (.goto 4, 3) := by decide +kernel
theorem dX4_isJoint_134 : decode cX4_isJoint 134 = .ok (.iconst 0, 1) := by decide +kernel
theorem dX4_isJoint_135 : decode cX4_isJoint 135 = .ok (.ireturn, 1) := by decide +kernel
theorem dX4_negation_0 : decode cX4_negation 0 = .ok (.iload_n 1, 1) := by decide +kernel
theorem dX4_negation_1 : decode cX4_negation 1 = .ok (.bipush 6, 2) := by decide +kernel
theorem dX4_negation_3 : decode cX4_negation 3 = .ok (.if_icmp .le 9, 3) := by decide +kernel
theorem dX4_negation_6 : decode cX4_negation 6 = .ok (.aload_n 0, 1) := by decide +kernel
theorem dX4_negation_7 : decode cX4_negation 7 = .ok (.iconst 2, 1) := by decide +kernel
theorem dX4_negation_8 : decode cX4_negation 8 = .ok (.invokevirtual 98, 3) := by decide +kernel
theorem dX4_negation_11 : decode cX4_negation 11 = .ok (.return_, 1) := by decide +kernel
theorem dX4_negation_12 : decode cX4_negation 12 = .ok (.aload_n 0, 1) := by decide +kernel
theorem dX4_negation_13 : decode cX4_negation 13 = .ok (.invokevirtual 63, 3) := by decide +kernel
theorem dX4_negation_16 : decode cX4_negation 16 = .ok (.aload_n 0, 1) := by decide +kernel
theorem dX4_negation_17 : decode cX4_negation 17 = .ok (.iconst 2, 1) := by decide +kernel
theorem dX4_negation_18 : decode cX4_negation 18 = .ok (.iload_n 1, 1) := by decide +kernel
theorem dX4_negation_19 : decode cX4_negation 19 = .ok (.iconst 1, 1) := by decide +kernel
theorem dX4_negation_20 : decode cX4_negation 20 = .ok (.iadd, 1) := by decide +kernel
theorem dX4_negation_21 : decode cX4_negation 21 = .ok (.invokevirtual 151, 3) := by decide +kernel
theorem dX4_negation_24 : decode cX4_negation 24 = .ok (.aload_n 0, 1) := by decide +kernel
theorem dX4_negation_25 : decode cX4_negation 25 = .ok (.getfield 28, 3) := by decide +kernel
theorem dX4_negation_28 : decode cX4_negation 28 = .ok (.getfield 134, 3) := by decide +kernel
theorem dX4_negation_31 : decode cX4_negation 31 = .ok (.sipush 143, 3) := by decide +kernel
theorem dX4_negation_34 : decode cX4_negation 34 = .ok (.invokevirtual 230, 3) := by decide +kernel
theorem dX4_negation_37 : decode cX4_negation 37 = .ok (.return_, 1) := by decide +kernel
theorem dX4_unit_0 : decode cX4_unit 0 = .ok (.aload_n 0, 1) := by decide +kernel
theorem dX4_unit_1 : decode cX4_unit 1 = .ok (.getfield 66, 3) := by decide +kernel
theorem dX4_unit_4 : decode cX4_unit 4 = .ok (.sipush 144, 3) := by decide +kernel
theorem dX4_unit_7 : decode cX4_unit 7 = .ok (.if_icmp .lt 17, 3) := by decide +kernel
theorem dX4_unit_10 : decode cX4_unit 10 = .ok (.aload_n 0, 1) := by decide +kernel
theorem dX4_unit_11 : decode cX4_unit 11 = .ok (.getfield 66, 3) := by decide +kernel
theorem dX4_unit_14 : decode cX4_unit 14 = .ok (.sipush 148, 3) := by decide +kernel
theorem dX4_unit_17 : decode cX4_unit 17 = .ok (.if_icmp .gt 7, 3) := by decide +kernel
theorem dX4_unit_20 : decode cX4_unit 20 = .ok (.iconst 1, 1) := by decide +kernel
theorem dX4_unit_21 : decode cX4_unit 21 = .ok (.goto 4, 3) := by decide +kernel
theorem dX4_unit_24 : decode cX4_unit 24 = .ok (.iconst 0, 1) := by decide +kernel
theorem dX4_unit_25 : decode cX4_unit 25 = .ok (.istore_n 2, 1) := by decide +kernel
theorem dX4_unit_26 : decode cX4_unit 26 = .ok (.aload_n 0, 1) := by decide +kernel
theorem dX4_unit_27 : decode cX4_unit 27 = .ok (.getfield 28, 3) := by decide +kernel
theorem dX4_unit_30 : decode cX4_unit 30 = .ok (.getfield 134, 3) := by decide +kernel
theorem dX4_unit_33 : decode cX4_unit 33 = .ok (.getfield 233, 3) := by decide +kernel
theorem dX4_unit_36 : decode cX4_unit 36 = .ok (.bipush 40, 2) := by decide +kernel
theorem dX4_unit_38 : decode cX4_unit 38 = .ok (.if_icmp .ge 22, 3) := by decide +kernel
theorem dX4_unit_41 : decode cX4_unit 41 = .ok (.aload_n 0, 1) := by decide +kernel
theorem dX4_unit_42 : decode cX4_unit 42 = .ok (.getfield 66, 3) := by decide +kernel
theorem dX4_unit_45 : decode cX4_unit 45 = .ok (.bipush 40, 2) := by decide +kernel
theorem dX4_unit_47 : decode cX4_unit 47 = .ok (.if_icmp .ne 9, 3) := by decide +kernel
theorem dX4_unit_50 : decode cX4_unit 50 = .ok (.iload_n 1, 1) := by decide +kernel
theorem dX4_unit_51 : decode cX4_unit 51 = .ok (.bipush 6, 2) := by decide +kernel
theorem dX4_unit_53 : decode cX4_unit 53 = .ok (.if_icmp .gt 7, 3) := by decide +kernel
theorem dX4_unit_56 : decode cX4_unit 56 = .ok (.iconst 1, 1) := by decide +kernel
theorem dX4_unit_57 : decode cX4_unit 57 = .ok (.goto 4, 3) := by decide +kernel
theorem dX4_unit_60 : decode cX4_unit 60 = .ok (.iconst 0, 1) := by decide +kernel
theorem dX4_unit_61 : decode cX4_unit 61 = .ok (.istore_n 3, 1) := by decide +kernel
theorem dX4_unit_62 : decode cX4_unit 62 = .ok (.iload_n 3, 1) := by decide +kernel
theorem dX4_unit_63 : decode cX4_unit 63 = .ok (.ifCond .eq 24, 3) := by decide +kernel
theorem dX4_unit_66 : decode cX4_unit 66 = .ok (.aload_n 0, 1) := by decide +kernel
theorem dX4_unit_67 : decode cX4_unit 67 = .ok (.getfield 66, 3) := by decide +kernel
theorem dX4_unit_70 : decode cX4_unit 70 = .ok (.iconst 2, 1) := by decide +kernel
theorem dX4_unit_71 : decode cX4_unit 71 = .ok (.if_icmp .eq 22, 3) := by decide +kernel
theorem dX4_unit_74 : decode cX4_unit 74 = .ok (.aload_n 0, 1) := by decide +kernel
theorem dX4_unit_75 : decode cX4_unit 75 = .ok (.getfield 66, 3) := by decide +kernel
theorem dX4_unit_78 : decode cX4_unit 78 = .ok (.bipush 40, 2) := by decide +kernel
theorem dX4_unit_80 : decode cX4_unit 80 = .ok (.if_icmp .eq 13, 3) := by decide +kernel
theorem dX4_unit_83 : decode cX4_unit 83 = .ok (.iload_n 2, 1) := by decide +kernel
theorem dX4_unit_84 : decode cX4_unit 84 = .ok (.ifCond .ne 9, 3) := by decide +kernel
theorem dX4_unit_87 : decode cX4_unit 87 = .ok (.aload_n 0, 1) := by decide +kernel
theorem dX4_unit_88 : decode cX4_unit 88 = .ok (.iconst 2, 1) := by decide +kernel
theorem dX4_unit_89 : decode cX4_unit 89 = .ok (.invokevirtual 98, 3) := by decide +kernel
theorem dX4_unit_92 : decode cX4_unit 92 = .ok (.return_, 1) := by decide +kernel
theorem dX4_unit_93 : decode cX4_unit 93 = .ok (.aload_n 0, 1) := by decide +kernel
theorem dX4_unit_94 : decode cX4_unit 94 = .ok (.getfield 28, 3) := by decide +kernel
theorem dX4_unit_97 : decode cX4_unit 97 = .ok (.getfield 134, 3) := by decide +kernel
theorem dX4_unit_100 : decode cX4_unit 100 = .ok (.dup, 1) := by decide +kernel
theorem dX4_unit_101 : decode cX4_unit 101 = .ok (.getfield 233, 3) := by decide +kernel
theorem dX4_unit_104 : decode cX4_unit 104 = .ok (.iconst 1, 1) := by decide +kernel
theorem dX4_unit_105 : decode cX4_unit 105 = .ok (.iadd, 1) := by decide +kernel
theorem dX4_unit_106 : decode cX4_unit 106 = .ok (.putfield 233, 3) := by decide +kernel
theorem dX4_unit_109 : decode cX4_unit 109 = .ok (.aload_n 0, 1) := by decide +kernel
theorem dX4_unit_110 : decode cX4_unit 110 = .ok (.getfield 66, 3) := by decide +kernel
theorem dX4_unit_113 : decode cX4_unit 113 = .ok (.bipush 40, 2) := by decide +kernel
theorem dX4_unit_115 : decode cX4_unit 115 = .ok (.if_icmp .ne 32, 3) := by decide +kernel
theorem dX4_unit_118 : decode cX4_unit 118 = .ok (.aload_n 0, 1) := by decide +kernel
theorem dX4_unit_119 : decode cX4_unit 119 = .ok (.invokevirtual 63, 3) := by decide +kernel
theorem dX4_unit_122 : decode cX4_unit 122 = .ok (.aload_n 0, 1) := by decide +kernel
theorem dX4_unit_123 : decode cX4_unit 123 = .ok (.iconst 0, 1) := by decide +kernel
theorem dX4_unit_124 : decode cX4_unit 124 = .ok (.iload_n 1, 1) := by decide +kernel
theorem dX4_unit_125 : decode cX4_unit 125 = .ok (.iconst 1, 1) := by decide +kernel
theorem dX4_unit_126 : decode cX4_unit 126 = .ok (.iadd, 1) := by decide +kernel
theorem dX4_unit_127 : decode cX4_unit 127 = .ok (.invokevirtual 151, 3) := by decide +kernel
theorem dX4_unit_130 : decode cX4_unit 130 = .ok (.aload_n 0, 1) := by decide +kernel
theorem dX4_unit_131 : decode cX4_unit 131 = .ok (.getfield 66, 3) := by decide +kernel
theorem dX4_unit_134 : decode cX4_unit 134 = .ok (.bipush 41, 2) := by decide +kernel
theorem dX4_unit_136 : decode cX4_unit 136 = .ok (.if_icmp .eq 46, 3) := by decide +kernel
theorem dX4_unit_139 : decode cX4_unit 139 = .ok (.aload_n 0, 1) := by decide +kernel
theorem dX4_unit_140 : decode cX4_unit 140 = .ok (.iconst 2, 1) := by decide +kernel
theorem dX4_unit_141 : decode cX4_unit 141 = .ok (.invokevirtual 98, 3) := by decide +kernel
theorem dX4_unit_144 : decode cX4_unit 144 = .ok (.goto 38, 3) := by decide +kernel
theorem dX4_unit_147 : decode cX4_unit 147 = .ok (.iload_n 2, 1) := by decide +kernel
theorem dX4_unit_148 : decode cX4_unit 148 = .ok (.ifCond .eq 20, 3) := by decide +kernel
theorem dX4_unit_151 : decode cX4_unit 151 = .ok (.aload_n 0, 1) := by decide +kernel
theorem dX4_unit_152 : decode cX4_unit 152 = .ok (.getfield 28, 3) := by decide +kernel
theorem dX4_unit_155 : decode cX4_unit 155 = .ok (.getfield 134, 3) := by decide +kernel
theorem dX4_unit_158 : decode cX4_unit 158 = .ok (.aload_n 0, 1) := by decide +kernel
theorem dX4_unit_159 : decode cX4_unit 159 = .ok (.getfield 66, 3) := by decide +kernel
theorem dX4_unit_162 : decode cX4_unit 162 = .ok (.invokevirtual 230, 3) := by decide +kernel
theorem dX4_unit_165 : decode cX4_unit 165 = .ok (.goto 17, 3) := by decide +kernel
theorem dX4_unit_168 : decode cX4_unit 168 = .ok (.aload_n 0, 1) := by decide +kernel
theorem dX4_unit_169 : decode cX4_unit 169 = .ok (.getfield 28, 3) := by decide +kernel
theorem dX4_unit_172 : decode cX4_unit 172 = .ok (.getfield 134, 3) := by decide +kernel
theorem dX4_unit_175 : decode cX4_unit 175 = .ok (.aload_n 0, 1) := by decide +kernel
theorem dX4_unit_176 : decode cX4_unit 176 = .ok (.getfield 113, 3) := by decide +kernel
theorem dX4_unit_179 : decode cX4_unit 179 = .ok (.invokevirtual 236, 3) := by decide +kernel
theorem dX4_unit_182 : decode cX4_unit 182 = .ok (.aload_n 0, 1) := by decide +kernel
theorem dX4_unit_183 : decode cX4_unit 183 = .ok (.invokevirtual 63, 3) := by decide +kernel
theorem dX4_unit_186 : decode cX4_unit 186 = .ok (.return_, 1) := by decide +kernel
theorem dX8_init_0 : decode cX8_init 0 = .ok (.aload_n 0, 1) := by decide +kernel
theorem dX8_init_1 : decode cX8_init 1 = .ok (.invokespecial 1, 3) := by decide +kernel
theorem dX8_init_4 : decode cX8_init 4 = .ok (.aload_n 0, 1) := by decide +kernel
theorem dX8_init_5 : decode cX8_init 5 = .ok (.new 7, 3) := by decide +kernel
theorem dX8_init_8 : decode cX8_init 8 = .ok (.dup, 1) := by decide +kernel
theorem dX8_init_9 : decode cX8_init 9 = .ok (.invokespecial 9, 3) := by decide +kernel
theorem dX8_init_12 : decode cX8_init 12 = .ok (.putfield 10, 3) := by decide +kernel
theorem dX8_init_15 : decode cX8_init 15 = .ok (.aload_n 0, 1) := by decide +kernel
theorem dX8_init_16 : decode cX8_init 16 = .ok (.iconst 3, 1) := by decide +kernel
theorem dX8_init_17 : decode cX8_init 17 = .ok (.anewarray 16, 3) := by decide +kernel
theorem dX8_init_20 : decode cX8_init 20 = .ok (.putfield 18, 3) := by decide +kernel
theorem dX8_init_23 : decode cX8_init 23 = .ok (.aload_n 0, 1) := by decide +kernel
theorem dX8_init_24 : decode cX8_init 24 = .ok (.iconst 3, 1) := by decide +kernel
theorem dX8_init_25 : decode cX8_init 25 = .ok (.newarray .boolean, 2) := by decide +kernel
theorem dX8_init_27 : decode cX8_init 27 = .ok (.putfield 22, 3) := by decide +kernel
theorem dX8_init_30 : decode cX8_init 30 = .ok (.aload_n 0, 1) := by decide +kernel
theorem dX8_init_31 : decode cX8_init 31 = .ok (.new 26, 3) := by decide +kernel
theorem dX8_init_34 : decode cX8_init 34 = .ok (.dup, 1) := by decide +kernel
theorem dX8_init_35 : decode cX8_init 35 = .ok (.invokespecial 28, 3) := by decide +kernel
theorem dX8_init_38 : decode cX8_init 38 = .ok (.putfield 29, 3) := by decide +kernel
theorem dX8_init_41 : decode cX8_init 41 = .ok (.aload_n 0, 1) := by decide +kernel
theorem dX8_init_42 : decode cX8_init 42 = .ok (.new 33, 3) := by decide +kernel
theorem dX8_init_45 : decode cX8_init 45 = .ok (.dup, 1) := by decide +kernel
theorem dX8_init_46 : decode cX8_init 46 = .ok (.invokespecial 35, 3) := by decide +kernel
theorem dX8_init_49 : decode cX8_init 49 = .ok (.putfield 36, 3) := by decide +kernel
theorem dX8_init_52 : decode cX8_init 52 = .ok (.aload_n 0, 1) := by decide +kernel
theorem dX8_init_53 : decode cX8_init 53 = .ok (.new 33, 3) := by decide +kernel
theorem dX8_init_56 : decode cX8_init 56 = .ok (.dup, 1) := by decide +kernel
theorem dX8_init_57 : decode cX8_init 57 = .ok (.invokespecial 35, 3) := by decide +kernel
theorem dX8_init_60 : decode cX8_init 60 = .ok (.putfield 40, 3) := by decide +kernel
theorem dX8_init_63 : decode cX8_init 63 = .ok (.aload_n 0, 1) := by decide +kernel
theorem dX8_init_64 : decode cX8_init 64 = .ok (.new 43, 3) := by decide +kernel
theorem dX8_init_67 : decode cX8_init 67 = .ok (.dup, 1) := by decide +kernel
theorem dX8_init_68 : decode cX8_init 68 = .ok (.aload_n 0, 1) := by decide +kernel
theorem dX8_init_69 : decode cX8_init 69 = .ok (.getfield 10, 3) := by decide +kernel
theorem dX8_init_72 : decode cX8_init 72 = .ok (.aload_n 0, 1) := by decide +kernel
theorem dX8_init_73 : decode cX8_init 73 = .ok (.getfield 40, 3) := by decide +kernel
theorem dX8_init_76 : decode cX8_init 76 = .ok (.invokespecial 45, 3) := by decide +kernel
theorem dX8_init_79 : decode cX8_init 79 = .ok (.putfield 48, 3) := by decide +kernel
theorem dX8_init_82 : decode cX8_init 82 = .ok (.aload_n 0, 1) := by decide +kernel
theorem dX8_init_83 : decode cX8_init 83 = .ok (.new 16, 3) := by decide +kernel
theorem dX8_init_86 : decode cX8_init 86 = .ok (.dup, 1) := by decide +kernel
theorem dX8_init_87 : decode cX8_init 87 = .ok (.aload_n 0, 1) := by decide +kernel
theorem dX8_init_88 : decode cX8_init 88 = .ok (.getfield 36, 3) := by decide +kernel
theorem dX8_init_91 : decode cX8_init 91 = .ok (.invokespecial 52, 3) := by decide +kernel
theorem dX8_init_94 : decode cX8_init 94 = .ok (.putfield 55, 3) := by decide +kernel
theorem dX8_init_97 : decode cX8_init 97 = .ok (.aload_n 0, 1) := by decide +kernel
theorem dX8_init_98 : decode cX8_init 98 = .ok (.new 59, 3) := by decide +kernel
theorem dX8_init_101 : decode cX8_init 101 = .ok (.dup, 1) := by decide +kernel
theorem dX8_init_102 : decode cX8_init 102 = .ok (.aload_n 0, 1) := by decide +kernel
theorem dX8_init_103 : decode cX8_init 103 = .ok (.getfield 36, 3) := by decide +kernel
theorem dX8_init_106 : decode cX8_init 106 = .ok (.invokespecial 61, 3) := by decide +kernel
theorem dX8_init_109 : decode cX8_init 109 = .ok (.putfield 62, 3) := by decide +kernel
theorem dX8_init_112 : decode cX8_init 112 = .ok (.iconst 0, 1) := by decide +kernel
theorem dX8_init_113 : decode cX8_init 113 = .ok (.istore_n 1, 1) := by decide +kernel
theorem dX8_init_114 : decode cX8_init 114 = .ok (.iload_n 1, 1) := by decide +kernel
theorem dX8_init_115 : decode cX8_init 115 = .ok (.iconst 3, 1) := by decide +kernel
theorem dX8_init_116 : decode cX8_init 116 = .ok (.if_icmp .ge 26, 3) := by decide +kernel
theorem dX8_init_119 : decode cX8_init 119 = .ok (.aload_n 0, 1) := by decide +kernel
theorem dX8_init_120 : decode cX8_init 120 = .ok (.getfield 18, 3) := by decide +kernel
theorem dX8_init_123 : decode cX8_init 123 = .ok (.iload_n 1, 1) := by decide +kernel
theorem dX8_init_124 : decode cX8_init 124 = .ok (.new 16, 3) := by decide +kernel
theorem dX8_init_127 : decode cX8_init 127 = .ok (.dup, 1) := by decide +kernel
theorem dX8_init_128 : decode cX8_init 128 = .ok (.aload_n 0, 1) := by decide +kernel
theorem dX8_init_129 : decode cX8_init 129 = .ok (.getfield 36, 3) := by decide +kernel
theorem dX8_init_132 : decode cX8_init 132 = .ok (.invokespecial 52, 3) := by decide +kernel
theorem dX8_init_135 : decode cX8_init 135 = .ok (.aastore, 1) := by decide +kernel
theorem dX8_init_136 : decode cX8_init 136 = .ok (.iinc 1 1, 3) := by decide +kernel
theorem dX8_init_139 : decode cX8_init 139 = .ok (.goto (-25), 3) := by decide +kernel
theorem dX8_init_142 : decode cX8_init 142 = .ok (.return_, 1) := by decide +kernel
theorem dX8_feed_0 : decode cX8_feed 0 = .ok (.aload_n 0, 1) := by decide +kernel
theorem dX8_feed_1 : decode cX8_feed 1 = .ok (.getfield 10, 3) := by decide +kernel
theorem dX8_feed_4 : decode cX8_feed 4 = .ok (.invokevirtual 66, 3) := by decide +kernel
theorem dX8_feed_7 : decode cX8_feed 7 = .ok (.ifCond .ne 5, 3) := by decide +kernel
theorem dX8_feed_10 : decode cX8_feed 10 = .ok (.iconst (-1), 1) := by decide +kernel
theorem dX8_feed_11 : decode cX8_feed 11 = .ok (.ireturn, 1) := by decide +kernel
theorem dX8_feed_12 : decode cX8_feed 12 = .ok (.aload_n 0, 1) := by decide +kernel
theorem dX8_feed_13 : decode cX8_feed 13 = .ok (.getfield 10, 3) := by decide +kernel
theorem dX8_feed_16 : decode cX8_feed 16 = .ok (.iload_n 1, 1) := by decide +kernel
theorem dX8_feed_17 : decode cX8_feed 17 = .ok (.invokevirtual 70, 3) := by decide +kernel
theorem dX8_feed_20 : decode cX8_feed 20 = .ok (.aload_n 0, 1) := by decide +kernel
theorem dX8_feed_21 : decode cX8_feed 21 = .ok (.getfield 10, 3) := by decide +kernel
theorem dX8_feed_24 : decode cX8_feed 24 = .ok (.iload_n 2, 1) := by decide +kernel
theorem dX8_feed_25 : decode cX8_feed 25 = .ok (.invokevirtual 70, 3) := by decide +kernel
theorem dX8_feed_28 : decode cX8_feed 28 = .ok (.aload_n 0, 1) := by decide +kernel
theorem dX8_feed_29 : decode cX8_feed 29 = .ok (.getfield 10, 3) := by decide +kernel
theorem dX8_feed_32 : decode cX8_feed 32 = .ok (.iload_n 3, 1) := by decide +kernel
theorem dX8_feed_33 : decode cX8_feed 33 = .ok (.invokevirtual 70, 3) := by decide +kernel
theorem dX8_feed_36 : decode cX8_feed 36 = .ok (.aload_n 0, 1) := by decide +kernel
theorem dX8_feed_37 : decode cX8_feed 37 = .ok (.getfield 10, 3) := by decide +kernel
theorem dX8_feed_40 : decode cX8_feed 40 = .ok (.iload 4, 2) := by decide +kernel
theorem dX8_feed_42 : decode cX8_feed 42 = .ok (.invokevirtual 70, 3) := by decide +kernel
theorem dX8_feed_45 : decode cX8_feed 45 = .ok (.aload_n 0, 1) := by decide +kernel
theorem dX8_feed_46 : decode cX8_feed 46 = .ok (.getfield 10, 3) := by decide +kernel
theorem dX8_feed_49 : decode cX8_feed 49 = .ok (.iload 5, 2) := by decide +kernel
theorem dX8_feed_51 : decode cX8_feed 51 = .ok (.invokevirtual 70, 3) := by decide +kernel
theorem dX8_feed_54 : decode cX8_feed 54 = .ok (.aload_n 0, 1) := by decide +kernel
theorem dX8_feed_55 : decode cX8_feed 55 = .ok (.getfield 10, 3) := by decide +kernel
theorem dX8_feed_58 : decode cX8_feed 58 = .ok (.getfield 74, 3) := by decide +kernel
theorem dX8_feed_61 : decode cX8_feed 61 = .ok (.ireturn, 1) := by decide +kernel
theorem dX8_end_0 : decode cX8_end 0 = .ok (.iload_n 1, 1) := by decide +kernel
theorem dX8_end_1 : decode cX8_end 1 = .ok (.ifCond .lt 14, 3) := by decide +kernel
theorem dX8_end_4 : decode cX8_end 4 = .ok (.iload_n 1, 1) := by decide +kernel
theorem dX8_end_5 : decode cX8_end 5 = .ok (.aload_n 0, 1) := by decide +kernel
theorem dX8_end_6 : decode cX8_end 6 = .ok (.getfield 10, 3) := by decide +kernel
theorem dX8_end_9 : decode cX8_end 9 = .ok (.getfield 74, 3) := by decide +kernel
theorem dX8_end_12 : decode cX8_end 12 = .ok (.if_icmp .le 5, 3) := by decide +kernel
theorem dX8_end_15 : decode cX8_end 15 = .ok (.iconst (-1), 1) := by decide +kernel
theorem dX8_end_16 : decode cX8_end 16 = .ok (.ireturn, 1) := by decide +kernel
theorem dX8_end_17 : decode cX8_end 17 = .ok (.aload_n 0, 1) := by decide +kernel
theorem dX8_end_18 : decode cX8_end 18 = .ok (.getfield 10, 3) := by decide +kernel
theorem dX8_end_21 : decode cX8_end 21 = .ok (.iload_n 1, 1) := by decide +kernel
theorem dX8_end_22 : decode cX8_end 22 = .ok (.putfield 74, 3) := by decide +kernel
theorem dX8_end_25 : decode cX8_end 25 = .ok (.iload_n 1, 1) := by decide +kernel
theorem dX8_end_26 : decode cX8_end 26 = .ok (.ireturn, 1) := by decide +kernel
theorem dX8_hall_0 : decode cX8_hall 0 = .ok (.aload_n 0, 1) := by decide +kernel
theorem dX8_hall_1 : decode cX8_hall 1 = .ok (.getfield 48, 3) := by decide +kernel
theorem dX8_hall_4 : decode cX8_hall 4 = .ok (.aload_n 0, 1) := by decide +kernel
theorem dX8_hall_5 : decode cX8_hall 5 = .ok (.getfield 40, 3) := by decide +kernel
theorem dX8_hall_8 : decode cX8_hall 8 = .ok (.invokevirtual 78, 3) := by decide +kernel
theorem dX8_hall_11 : decode cX8_hall 11 = .ok (.istore_n 1, 1) := by decide +kernel
theorem dX8_hall_12 : decode cX8_hall 12 = .ok (.aload_n 0, 1) := by decide +kernel
theorem dX8_hall_13 : decode cX8_hall 13 = .ok (.getfield 10, 3) := by decide +kernel
theorem dX8_hall_16 : decode cX8_hall 16 = .ok (.iconst 0, 1) := by decide +kernel
theorem dX8_hall_17 : decode cX8_hall 17 = .ok (.putfield 74, 3) := by decide +kernel
theorem dX8_hall_20 : decode cX8_hall 20 = .ok (.iload_n 1, 1) := by decide +kernel
theorem dX8_hall_21 : decode cX8_hall 21 = .ok (.ifCond .ne 5, 3) := by decide +kernel
theorem dX8_hall_24 : decode cX8_hall 24 = .ok (.iconst (-1), 1) := by decide +kernel
theorem dX8_hall_25 : decode cX8_hall 25 = .ok (.ireturn, 1) := by decide +kernel
theorem dX8_hall_26 : decode cX8_hall 26 = .ok (.aload_n 0, 1) := by decide +kernel
theorem dX8_hall_27 : decode cX8_hall 27 = .ok (.getfield 36, 3) := by decide +kernel
theorem dX8_hall_30 : decode cX8_hall 30 = .ok (.astore_n 2, 1) := by decide +kernel
theorem dX8_hall_31 : decode cX8_hall 31 = .ok (.aload_n 0, 1) := by decide +kernel
theorem dX8_hall_32 : decode cX8_hall 32 = .ok (.aload_n 0, 1) := by decide +kernel
theorem dX8_hall_33 : decode cX8_hall 33 = .ok (.getfield 40, 3) := by decide +kernel
theorem dX8_hall_36 : decode cX8_hall 36 = .ok (.putfield 36, 3) := by decide +kernel
theorem dX8_hall_39 : decode cX8_hall 39 = .ok (.aload_n 0, 1) := by decide +kernel
theorem dX8_hall_40 : decode cX8_hall 40 = .ok (.aload_n 2, 1) := by decide +kernel
theorem dX8_hall_41 : decode cX8_hall 41 = .ok (.putfield 40, 3) := by decide +kernel
theorem dX8_hall_44 : decode cX8_hall 44 = .ok (.aload_n 0, 1) := by decide +kernel
theorem dX8_hall_45 : decode cX8_hall 45 = .ok (.getfield 55, 3) := by decide +kernel
theorem dX8_hall_48 : decode cX8_hall 48 = .ok (.aload_n 0, 1) := by decide +kernel
theorem dX8_hall_49 : decode cX8_hall 49 = .ok (.getfield 36, 3) := by decide +kernel
theorem dX8_hall_52 : decode cX8_hall 52 = .ok (.invokevirtual 82, 3) := by decide +kernel
theorem dX8_hall_55 : decode cX8_hall 55 = .ok (.aload_n 0, 1) := by decide +kernel
theorem dX8_hall_56 : decode cX8_hall 56 = .ok (.getfield 29, 3) := by decide +kernel
theorem dX8_hall_59 : decode cX8_hall 59 = .ok (.invokevirtual 85, 3) := by decide +kernel
theorem dX8_hall_62 : decode cX8_hall 62 = .ok (.iconst 0, 1) := by decide +kernel
theorem dX8_hall_63 : decode cX8_hall 63 = .ok (.istore_n 3, 1) := by decide +kernel
theorem dX8_hall_64 : decode cX8_hall 64 = .ok (.iload_n 3, 1) := by decide +kernel
theorem dX8_hall_65 : decode cX8_hall 65 = .ok (.iconst 3, 1) := by decide +kernel
theorem dX8_hall_66 : decode cX8_hall 66 = .ok (.if_icmp .ge 16, 3) := by decide +kernel
theorem dX8_hall_69 : decode cX8_hall 69 = .ok (.aload_n 0, 1) := by decide +kernel
theorem dX8_hall_70 : decode cX8_hall 70 = .ok (.getfield 22, 3) := by decide +kernel
theorem dX8_hall_73 : decode cX8_hall 73 = .ok (.iload_n 3, 1) := by decide +kernel
theorem dX8_hall_74 : decode cX8_hall 74 = .ok (.iconst 0, 1) := by decide +kernel
theorem dX8_hall_75 : decode cX8_hall 75 = .ok (.bastore, 1) := by decide +kernel
theorem dX8_hall_76 : decode cX8_hall 76 = .ok (.iinc 3 1, 3) := by decide +kernel
theorem dX8_hall_79 : decode cX8_hall 79 = .ok (.goto (-15), 3) := by decide +kernel
theorem dX8_hall_82 : decode cX8_hall 82 = .ok (.aload_n 0, 1) := by decide +kernel
theorem dX8_hall_83 : decode cX8_hall 83 = .ok (.getfield 36, 3) := by decide +kernel
theorem dX8_hall_86 : decode cX8_hall 86 = .ok (.getfield 88, 3) := by decide +kernel
theorem dX8_hall_89 : decode cX8_hall 89 = .ok (.getfield 92, 3) := by decide +kernel
theorem dX8_hall_92 : decode cX8_hall 92 = .ok (.ireturn, 1) := by decide +kernel
theorem dX8_fault_0 : decode cX8_fault 0 = .ok (.iload_n 1, 1) := by decide +kernel
theorem dX8_fault_1 : decode cX8_fault 1 = .ok (.lookupswitch 43 #[(0, 27), (1, 35)], 27) := by decide +kernel
theorem dX8_fault_28 : decode cX8_fault 28 = .ok (.aload_n 0, 1) := by decide +kernel
theorem dX8_fault_29 : decode cX8_fault 29 = .ok (.getfield 48, 3) := by decide +kernel
theorem dX8_fault_32 : decode cX8_fault 32 = .ok (.getfield 97, 3) := by decide +kernel
theorem dX8_fault_35 : decode cX8_fault 35 = .ok (.ireturn, 1) := by decide +kernel
theorem dX8_fault_36 : decode cX8_fault 36 = .ok (.aload_n 0, 1) := by decide +kernel
theorem dX8_fault_37 : decode cX8_fault 37 = .ok (.getfield 48, 3) := by decide +kernel
theorem dX8_fault_40 : decode cX8_fault 40 = .ok (.getfield 100, 3) := by decide +kernel
theorem dX8_fault_43 : decode cX8_fault 43 = .ok (.ireturn, 1) := by decide +kernel
theorem dX8_fault_44 : decode cX8_fault 44 = .ok (.iconst (-1), 1) := by decide +kernel
theorem dX8_fault_45 : decode cX8_fault 45 = .ok (.ireturn, 1) := by decide +kernel
theorem dX8_rise_0 : decode cX8_rise 0 = .ok (.aload_n 0, 1) := by decide +kernel
theorem dX8_rise_1 : decode cX8_rise 1 = .ok (.getfield 55, 3) := by decide +kernel
theorem dX8_rise_4 : decode cX8_rise 4 = .ok (.iload_n 1, 1) := by decide +kernel
theorem dX8_rise_5 : decode cX8_rise 5 = .ok (.invokevirtual 103, 3) := by decide +kernel
theorem dX8_rise_8 : decode cX8_rise 8 = .ok (.ireturn, 1) := by decide +kernel
theorem dX8_sit_0 : decode cX8_sit 0 = .ok (.aload_n 0, 1) := by decide +kernel
theorem dX8_sit_1 : decode cX8_sit 1 = .ok (.getfield 55, 3) := by decide +kernel
theorem dX8_sit_4 : decode cX8_sit 4 = .ok (.iload_n 1, 1) := by decide +kernel
theorem dX8_sit_5 : decode cX8_sit 5 = .ok (.iload_n 2, 1) := by decide +kernel
theorem dX8_sit_6 : decode cX8_sit 6 = .ok (.invokevirtual 107, 3) := by decide +kernel
theorem dX8_sit_9 : decode cX8_sit 9 = .ok (.ireturn, 1) := by decide +kernel
theorem dX8_speak_0 : decode cX8_speak 0 = .ok (.aload_n 0, 1) := by decide +kernel
theorem dX8_speak_1 : decode cX8_speak 1 = .ok (.getfield 55, 3) := by decide +kernel
theorem dX8_speak_4 : decode cX8_speak 4 = .ok (.iload_n 1, 1) := by decide +kernel
theorem dX8_speak_5 : decode cX8_speak 5 = .ok (.iload_n 2, 1) := by decide +kernel
theorem dX8_speak_6 : decode cX8_speak 6 = .ok (.invokevirtual 111, 3) := by decide +kernel
theorem dX8_speak_9 : decode cX8_speak 9 = .ok (.ireturn, 1) := by decide +kernel
theorem dX8_vote_0 : decode cX8_vote 0 = .ok (.aload_n 0, 1) := by decide +kernel
theorem dX8_vote_1 : decode cX8_vote 1 = .ok (.getfield 55, 3) := by decide +kernel
theorem dX8_vote_4 : decode cX8_vote 4 = .ok (.iload_n 1, 1) := by decide +kernel
theorem dX8_vote_5 : decode cX8_vote 5 = .ok (.invokevirtual 114, 3) := by decide +kernel
theorem dX8_vote_8 : decode cX8_vote 8 = .ok (.ireturn, 1) := by decide +kernel
theorem dX8_enter_0 : decode cX8_enter 0 = .ok (.aload_n 0, 1) := by decide +kernel
theorem dX8_enter_1 : decode cX8_enter 1 = .ok (.getfield 55, 3) := by decide +kernel
theorem dX8_enter_4 : decode cX8_enter 4 = .ok (.iload_n 1, 1) := by decide +kernel
theorem dX8_enter_5 : decode cX8_enter 5 = .ok (.invokevirtual 117, 3) := by decide +kernel
theorem dX8_enter_8 : decode cX8_enter 8 = .ok (.ireturn, 1) := by decide +kernel
theorem dX8_stay_0 : decode cX8_stay 0 = .ok (.aload_n 0, 1) := by decide +kernel
theorem dX8_stay_1 : decode cX8_stay 1 = .ok (.getfield 55, 3) := by decide +kernel
theorem dX8_stay_4 : decode cX8_stay 4 = .ok (.iload_n 1, 1) := by decide +kernel
theorem dX8_stay_5 : decode cX8_stay 5 = .ok (.invokevirtual 120, 3) := by decide +kernel
theorem dX8_stay_8 : decode cX8_stay 8 = .ok (.ireturn, 1) := by decide +kernel
theorem dX8_crack_0 : decode cX8_crack 0 = .ok (.aload_n 0, 1) := by decide +kernel
theorem dX8_crack_1 : decode cX8_crack 1 = .ok (.getfield 55, 3) := by decide +kernel
theorem dX8_crack_4 : decode cX8_crack 4 = .ok (.iload_n 1, 1) := by decide +kernel
theorem dX8_crack_5 : decode cX8_crack 5 = .ok (.iload_n 2, 1) := by decide +kernel
theorem dX8_crack_6 : decode cX8_crack 6 = .ok (.invokevirtual 123, 3) := by decide +kernel
theorem dX8_crack_9 : decode cX8_crack 9 = .ok (.ireturn, 1) := by decide +kernel
theorem dX8_found_0 : decode cX8_found 0 = .ok (.aload_n 0, 1) := by decide +kernel
theorem dX8_found_1 : decode cX8_found 1 = .ok (.getfield 55, 3) := by decide +kernel
theorem dX8_found_4 : decode cX8_found 4 = .ok (.iload_n 1, 1) := by decide +kernel
theorem dX8_found_5 : decode cX8_found 5 = .ok (.invokevirtual 127, 3) := by decide +kernel
theorem dX8_found_8 : decode cX8_found 8 = .ok (.ireturn, 1) := by decide +kernel
theorem dX8_man_0 : decode cX8_man 0 = .ok (.aload_n 0, 1) := by decide +kernel
theorem dX8_man_1 : decode cX8_man 1 = .ok (.getfield 36, 3) := by decide +kernel
theorem dX8_man_4 : decode cX8_man 4 = .ok (.getfield 88, 3) := by decide +kernel
theorem dX8_man_7 : decode cX8_man 7 = .ok (.iload_n 1, 1) := by decide +kernel
theorem dX8_man_8 : decode cX8_man 8 = .ok (.invokevirtual 131, 3) := by decide +kernel
theorem dX8_man_11 : decode cX8_man 11 = .ok (.ifCond .ne 6, 3) := by decide +kernel
theorem dX8_man_14 : decode cX8_man 14 = .ok (.bipush (-2), 2) := by decide +kernel
theorem dX8_man_16 : decode cX8_man 16 = .ok (.ireturn, 1) := by decide +kernel
theorem dX8_man_17 : decode cX8_man 17 = .ok (.iload_n 2, 1) := by decide +kernel
theorem dX8_man_18 : decode cX8_man 18 = .ok (.tableswitch 108 0 5 #[38, 47, 61, 71, 81, 98], 38) := by decide +kernel
theorem dX8_man_56 : decode cX8_man 56 = .ok (.aload_n 0, 1) := by decide +kernel
theorem dX8_man_57 : decode cX8_man 57 = .ok (.getfield 55, 3) := by decide +kernel
theorem dX8_man_60 : decode cX8_man 60 = .ok (.iload_n 1, 1) := by decide +kernel
theorem dX8_man_61 : decode cX8_man 61 = .ok (.invokevirtual 134, 3) := by decide +kernel
theorem dX8_man_64 : decode cX8_man 64 = .ok (.ireturn, 1) := by decide +kernel
theorem dX8_man_65 : decode cX8_man 65 = .ok (.aload_n 0, 1) := by decide +kernel
theorem dX8_man_66 : decode cX8_man 66 = .ok (.getfield 55, 3) := by decide +kernel
theorem dX8_man_69 : decode cX8_man 69 = .ok (.getfield 137, 3) := by decide +kernel
theorem dX8_man_72 : decode cX8_man 72 = .ok (.iload_n 1, 1) := by decide +kernel
theorem dX8_man_73 : decode cX8_man 73 = .ok (.iaload, 1) := by decide +kernel
theorem dX8_man_74 : decode cX8_man 74 = .ok (.iconst (-1), 1) := by decide +kernel
theorem dX8_man_75 : decode cX8_man 75 = .ok (.invokestatic 141, 3) := by decide +kernel
theorem dX8_man_78 : decode cX8_man 78 = .ok (.ireturn, 1) := by decide +kernel
theorem dX8_man_79 : decode cX8_man 79 = .ok (.aload_n 0, 1) := by decide +kernel
theorem dX8_man_80 : decode cX8_man 80 = .ok (.getfield 55, 3) := by decide +kernel
theorem dX8_man_83 : decode cX8_man 83 = .ok (.getfield 146, 3) := by decide +kernel
theorem dX8_man_86 : decode cX8_man 86 = .ok (.iload_n 1, 1) := by decide +kernel
theorem dX8_man_87 : decode cX8_man 87 = .ok (.iaload, 1) := by decide +kernel
theorem dX8_man_88 : decode cX8_man 88 = .ok (.ireturn, 1) := by decide +kernel
theorem dX8_man_89 : decode cX8_man 89 = .ok (.aload_n 0, 1) := by decide +kernel
theorem dX8_man_90 : decode cX8_man 90 = .ok (.getfield 55, 3) := by decide +kernel
theorem dX8_man_93 : decode cX8_man 93 = .ok (.getfield 149, 3) := by decide +kernel
theorem dX8_man_96 : decode cX8_man 96 = .ok (.iload_n 1, 1) := by decide +kernel
theorem dX8_man_97 : decode cX8_man 97 = .ok (.iaload, 1) := by decide +kernel
theorem dX8_man_98 : decode cX8_man 98 = .ok (.ireturn, 1) := by decide +kernel
theorem dX8_man_99 : decode cX8_man 99 = .ok (.aload_n 0, 1) := by decide +kernel
theorem dX8_man_100 : decode cX8_man 100 = .ok (.getfield 55, 3) := by decide +kernel
theorem dX8_man_103 : decode cX8_man 103 = .ok (.iload_n 1, 1) := by decide +kernel
theorem dX8_man_104 : decode cX8_man 104 = .ok (.invokevirtual 152, 3) := by decide +kernel
theorem dX8_man_107 : decode cX8_man 107 = .ok (.ifCond .eq 7, 3) := by decide +kernel
theorem dX8_man_110 : decode cX8_man 110 = .ok (.iconst 1, 1) := by decide +kernel
theorem dX8_man_111 : decode cX8_man 111 = .ok (.goto 4, 3) := by decide +kernel
theorem dX8_man_114 : decode cX8_man 114 = .ok (.iconst 0, 1) := by decide +kernel
theorem dX8_man_115 : decode cX8_man 115 = .ok (.ireturn, 1) := by decide +kernel
theorem dX8_man_116 : decode cX8_man 116 = .ok (.aload_n 0, 1) := by decide +kernel
theorem dX8_man_117 : decode cX8_man 117 = .ok (.getfield 55, 3) := by decide +kernel
theorem dX8_man_120 : decode cX8_man 120 = .ok (.getfield 155, 3) := by decide +kernel
theorem dX8_man_123 : decode cX8_man 123 = .ok (.iload_n 1, 1) := by decide +kernel
theorem dX8_man_124 : decode cX8_man 124 = .ok (.iaload, 1) := by decide +kernel
theorem dX8_man_125 : decode cX8_man 125 = .ok (.ireturn, 1) := by decide +kernel
theorem dX8_man_126 : decode cX8_man 126 = .ok (.bipush (-2), 2) := by decide +kernel
theorem dX8_man_128 : decode cX8_man 128 = .ok (.ireturn, 1) := by decide +kernel
theorem dX8_chair_0 : decode cX8_chair 0 = .ok (.aload_n 0, 1) := by decide +kernel
theorem dX8_chair_1 : decode cX8_chair 1 = .ok (.getfield 36, 3) := by decide +kernel
theorem dX8_chair_4 : decode cX8_chair 4 = .ok (.getfield 158, 3) := by decide +kernel
theorem dX8_chair_7 : decode cX8_chair 7 = .ok (.iload_n 1, 1) := by decide +kernel
theorem dX8_chair_8 : decode cX8_chair 8 = .ok (.invokevirtual 131, 3) := by decide +kernel
theorem dX8_chair_11 : decode cX8_chair 11 = .ok (.ifCond .ne 6, 3) := by decide +kernel
theorem dX8_chair_14 : decode cX8_chair 14 = .ok (.bipush (-2), 2) := by decide +kernel
theorem dX8_chair_16 : decode cX8_chair 16 = .ok (.ireturn, 1) := by decide +kernel
theorem dX8_chair_17 : decode cX8_chair 17 = .ok (.iload_n 2, 1) := by decide +kernel
theorem dX8_chair_18 : decode cX8_chair 18 = .ok (.tableswitch 59 0 2 #[26, 35, 47], 26) := by decide +kernel
theorem dX8_chair_44 : decode cX8_chair 44 = .ok (.aload_n 0, 1) := by decide +kernel
theorem dX8_chair_45 : decode cX8_chair 45 = .ok (.getfield 55, 3) := by decide +kernel
theorem dX8_chair_48 : decode cX8_chair 48 = .ok (.iload_n 1, 1) := by decide +kernel
theorem dX8_chair_49 : decode cX8_chair 49 = .ok (.invokevirtual 161, 3) := by decide +kernel
theorem dX8_chair_52 : decode cX8_chair 52 = .ok (.ireturn, 1) := by decide +kernel
theorem dX8_chair_53 : decode cX8_chair 53 = .ok (.aload_n 0, 1) := by decide +kernel
theorem dX8_chair_54 : decode cX8_chair 54 = .ok (.getfield 55, 3) := by decide +kernel
theorem dX8_chair_57 : decode cX8_chair 57 = .ok (.getfield 164, 3) := by decide +kernel
theorem dX8_chair_60 : decode cX8_chair 60 = .ok (.iload_n 1, 1) := by decide +kernel
theorem dX8_chair_61 : decode cX8_chair 61 = .ok (.ishr, 1) := by decide +kernel
theorem dX8_chair_62 : decode cX8_chair 62 = .ok (.iconst 1, 1) := by decide +kernel
theorem dX8_chair_63 : decode cX8_chair 63 = .ok (.iand, 1) := by decide +kernel
theorem dX8_chair_64 : decode cX8_chair 64 = .ok (.ireturn, 1) := by decide +kernel
theorem dX8_chair_65 : decode cX8_chair 65 = .ok (.aload_n 0, 1) := by decide +kernel
theorem dX8_chair_66 : decode cX8_chair 66 = .ok (.getfield 55, 3) := by decide +kernel
theorem dX8_chair_69 : decode cX8_chair 69 = .ok (.getfield 167, 3) := by decide +kernel
theorem dX8_chair_72 : decode cX8_chair 72 = .ok (.iload_n 1, 1) := by decide +kernel
theorem dX8_chair_73 : decode cX8_chair 73 = .ok (.ishr, 1) := by decide +kernel
theorem dX8_chair_74 : decode cX8_chair 74 = .ok (.iconst 1, 1) := by decide +kernel
theorem dX8_chair_75 : decode cX8_chair 75 = .ok (.iand, 1) := by decide +kernel
theorem dX8_chair_76 : decode cX8_chair 76 = .ok (.ireturn, 1) := by decide +kernel
theorem dX8_chair_77 : decode cX8_chair 77 = .ok (.bipush (-2), 2) := by decide +kernel
theorem dX8_chair_79 : decode cX8_chair 79 = .ok (.ireturn, 1) := by decide +kernel
theorem dX8_matter_0 : decode cX8_matter 0 = .ok (.aload_n 0, 1) := by decide +kernel
theorem dX8_matter_1 : decode cX8_matter 1 = .ok (.getfield 36, 3) := by decide +kernel
theorem dX8_matter_4 : decode cX8_matter 4 = .ok (.getfield 170, 3) := by decide +kernel
theorem dX8_matter_7 : decode cX8_matter 7 = .ok (.iload_n 1, 1) := by decide +kernel
theorem dX8_matter_8 : decode cX8_matter 8 = .ok (.invokevirtual 131, 3) := by decide +kernel
theorem dX8_matter_11 : decode cX8_matter 11 = .ok (.ifCond .ne 6, 3) := by decide +kernel
theorem dX8_matter_14 : decode cX8_matter 14 = .ok (.ldc 173, 2) := by decide +kernel
theorem dX8_matter_16 : decode cX8_matter 16 = .ok (.ireturn, 1) := by decide +kernel
theorem dX8_matter_17 : decode cX8_matter 17 = .ok (.iload_n 2, 1) := by decide +kernel
theorem dX8_matter_18 : decode cX8_matter 18 = .ok (.tableswitch 74 0 3 #[30, 40, 50, 62], 30) := by decide +kernel
theorem dX8_matter_48 : decode cX8_matter 48 = .ok (.aload_n 0, 1) := by decide +kernel
theorem dX8_matter_49 : decode cX8_matter 49 = .ok (.getfield 55, 3) := by decide +kernel
theorem dX8_matter_52 : decode cX8_matter 52 = .ok (.getfield 174, 3) := by decide +kernel
theorem dX8_matter_55 : decode cX8_matter 55 = .ok (.iload_n 1, 1) := by decide +kernel
theorem dX8_matter_56 : decode cX8_matter 56 = .ok (.iaload, 1) := by decide +kernel
theorem dX8_matter_57 : decode cX8_matter 57 = .ok (.ireturn, 1) := by decide +kernel
theorem dX8_matter_58 : decode cX8_matter 58 = .ok (.aload_n 0, 1) := by decide +kernel
theorem dX8_matter_59 : decode cX8_matter 59 = .ok (.getfield 36, 3) := by decide +kernel
theorem dX8_matter_62 : decode cX8_matter 62 = .ok (.getfield 177, 3) := by decide +kernel
theorem dX8_matter_65 : decode cX8_matter 65 = .ok (.iload_n 1, 1) := by decide +kernel
theorem dX8_matter_66 : decode cX8_matter 66 = .ok (.iaload, 1) := by decide +kernel
theorem dX8_matter_67 : decode cX8_matter 67 = .ok (.ireturn, 1) := by decide +kernel
theorem dX8_matter_68 : decode cX8_matter 68 = .ok (.aload_n 0, 1) := by decide +kernel
theorem dX8_matter_69 : decode cX8_matter 69 = .ok (.getfield 55, 3) := by decide +kernel
theorem dX8_matter_72 : decode cX8_matter 72 = .ok (.iload_n 1, 1) := by decide +kernel
theorem dX8_matter_73 : decode cX8_matter 73 = .ok (.invokevirtual 180, 3) := by decide +kernel
theorem dX8_matter_76 : decode cX8_matter 76 = .ok (.invokestatic 183, 3) := by decide +kernel
theorem dX8_matter_79 : decode cX8_matter 79 = .ok (.ireturn, 1) := by decide +kernel
theorem dX8_matter_80 : decode cX8_matter 80 = .ok (.aload_n 0, 1) := by decide +kernel
theorem dX8_matter_81 : decode cX8_matter 81 = .ok (.getfield 55, 3) := by decide +kernel
theorem dX8_matter_84 : decode cX8_matter 84 = .ok (.iload_n 1, 1) := by decide +kernel
theorem dX8_matter_85 : decode cX8_matter 85 = .ok (.invokevirtual 188, 3) := by decide +kernel
theorem dX8_matter_88 : decode cX8_matter 88 = .ok (.invokestatic 183, 3) := by decide +kernel
theorem dX8_matter_91 : decode cX8_matter 91 = .ok (.ireturn, 1) := by decide +kernel
theorem dX8_matter_92 : decode cX8_matter 92 = .ok (.ldc 173, 2) := by decide +kernel
theorem dX8_matter_94 : decode cX8_matter 94 = .ok (.ireturn, 1) := by decide +kernel
theorem dX8_deal_0 : decode cX8_deal 0 = .ok (.aload_n 0, 1) := by decide +kernel
theorem dX8_deal_1 : decode cX8_deal 1 = .ok (.getfield 55, 3) := by decide +kernel
theorem dX8_deal_4 : decode cX8_deal 4 = .ok (.iload_n 1, 1) := by decide +kernel
theorem dX8_deal_5 : decode cX8_deal 5 = .ok (.invokevirtual 191, 3) := by decide +kernel
theorem dX8_deal_8 : decode cX8_deal 8 = .ok (.ireturn, 1) := by decide +kernel
theorem dX8_voted_0 : decode cX8_voted 0 = .ok (.aload_n 0, 1) := by decide +kernel
theorem dX8_voted_1 : decode cX8_voted 1 = .ok (.getfield 55, 3) := by decide +kernel
theorem dX8_voted_4 : decode cX8_voted 4 = .ok (.iload_n 1, 1) := by decide +kernel
theorem dX8_voted_5 : decode cX8_voted 5 = .ok (.iload_n 2, 1) := by decide +kernel
theorem dX8_voted_6 : decode cX8_voted 6 = .ok (.invokevirtual 194, 3) := by decide +kernel
theorem dX8_voted_9 : decode cX8_voted 9 = .ok (.ireturn, 1) := by decide +kernel
theorem dX8_sat_0 : decode cX8_sat 0 = .ok (.aload_n 0, 1) := by decide +kernel
theorem dX8_sat_1 : decode cX8_sat 1 = .ok (.getfield 55, 3) := by decide +kernel
theorem dX8_sat_4 : decode cX8_sat 4 = .ok (.iload_n 1, 1) := by decide +kernel
theorem dX8_sat_5 : decode cX8_sat 5 = .ok (.iload_n 2, 1) := by decide +kernel
theorem dX8_sat_6 : decode cX8_sat 6 = .ok (.invokevirtual 197, 3) := by decide +kernel
theorem dX8_sat_9 : decode cX8_sat 9 = .ok (.ireturn, 1) := by decide +kernel
theorem dX8_best_0 : decode cX8_best 0 = .ok (.iload_n 1, 1) := by decide +kernel
theorem dX8_best_1 : decode cX8_best 1 = .ok (.invokestatic 200, 3) := by decide +kernel
theorem dX8_best_4 : decode cX8_best 4 = .ok (.ifCond .eq 12, 3) := by decide +kernel
theorem dX8_best_7 : decode cX8_best 7 = .ok (.iload_n 2, 1) := by decide +kernel
theorem dX8_best_8 : decode cX8_best 8 = .ok (.ifCond .lt 8, 3) := by decide +kernel
theorem dX8_best_11 : decode cX8_best 11 = .ok (.iload_n 2, 1) := by decide +kernel
theorem dX8_best_12 : decode cX8_best 12 = .ok (.iconst 1, 1) := by decide +kernel
theorem dX8_best_13 : decode cX8_best 13 = .ok (.if_icmp .le 5, 3) := by decide +kernel
theorem dX8_best_16 : decode cX8_best 16 = .ok (.iconst (-1), 1) := by decide +kernel
theorem dX8_best_17 : decode cX8_best 17 = .ok (.ireturn, 1) := by decide +kernel
theorem dX8_best_18 : decode cX8_best 18 = .ok (.aload_n 0, 1) := by decide +kernel
theorem dX8_best_19 : decode cX8_best 19 = .ok (.aload_n 0, 1) := by decide +kernel
theorem dX8_best_20 : decode cX8_best 20 = .ok (.getfield 55, 3) := by decide +kernel
theorem dX8_best_23 : decode cX8_best 23 = .ok (.invokevirtual 203, 3) := by decide +kernel
theorem dX8_best_26 : decode cX8_best 26 = .ok (.iload_n 1, 1) := by decide +kernel
theorem dX8_best_27 : decode cX8_best 27 = .ok (.invokevirtual 207, 3) := by decide +kernel
theorem dX8_best_30 : decode cX8_best 30 = .ok (.istore_n 3, 1) := by decide +kernel
theorem dX8_best_31 : decode cX8_best 31 = .ok (.iload_n 2, 1) := by decide +kernel
theorem dX8_best_32 : decode cX8_best 32 = .ok (.ifCond .ne 7, 3) := by decide +kernel
theorem dX8_best_35 : decode cX8_best 35 = .ok (.iload_n 3, 1) := by decide +kernel
theorem dX8_best_36 : decode cX8_best 36 = .ok (.goto 10, 3) := by decide +kernel
theorem dX8_best_39 : decode cX8_best 39 = .ok (.aload_n 0, 1) := by decide +kernel
theorem dX8_best_40 : decode cX8_best 40 = .ok (.getfield 62, 3) := by decide +kernel
theorem dX8_best_43 : decode cX8_best 43 = .ok (.getfield 210, 3) := by decide +kernel
theorem dX8_best_46 : decode cX8_best 46 = .ok (.ireturn, 1) := by decide +kernel
theorem dX8_fewest_0 : decode cX8_fewest 0 = .ok (.iload_n 1, 1) := by decide +kernel
theorem dX8_fewest_1 : decode cX8_fewest 1 = .ok (.invokestatic 200, 3) := by decide +kernel
theorem dX8_fewest_4 : decode cX8_fewest 4 = .ok (.ifCond .ne 5, 3) := by decide +kernel
theorem dX8_fewest_7 : decode cX8_fewest 7 = .ok (.iconst (-1), 1) := by decide +kernel
theorem dX8_fewest_8 : decode cX8_fewest 8 = .ok (.ireturn, 1) := by decide +kernel
theorem dX8_fewest_9 : decode cX8_fewest 9 = .ok (.aload_n 0, 1) := by decide +kernel
theorem dX8_fewest_10 : decode cX8_fewest 10 = .ok (.getfield 55, 3) := by decide +kernel
theorem dX8_fewest_13 : decode cX8_fewest 13 = .ok (.invokevirtual 203, 3) := by decide +kernel
theorem dX8_fewest_16 : decode cX8_fewest 16 = .ok (.istore_n 2, 1) := by decide +kernel
theorem dX8_fewest_17 : decode cX8_fewest 17 = .ok (.iload_n 2, 1) := by decide +kernel
theorem dX8_fewest_18 : decode cX8_fewest 18 = .ok (.invokestatic 183, 3) := by decide +kernel
theorem dX8_fewest_21 : decode cX8_fewest 21 = .ok (.istore_n 3, 1) := by decide +kernel
theorem dX8_fewest_22 : decode cX8_fewest 22 = .ok (.aload_n 0, 1) := by decide +kernel
theorem dX8_fewest_23 : decode cX8_fewest 23 = .ok (.getfield 55, 3) := by decide +kernel
theorem dX8_fewest_26 : decode cX8_fewest 26 = .ok (.invokevirtual 213, 3) := by decide +kernel
theorem dX8_fewest_29 : decode cX8_fewest 29 = .ok (.istore 4, 2) := by decide +kernel
theorem dX8_fewest_31 : decode cX8_fewest 31 = .ok (.aload_n 0, 1) := by decide +kernel
theorem dX8_fewest_32 : decode cX8_fewest 32 = .ok (.getfield 62, 3) := by decide +kernel
theorem dX8_fewest_35 : decode cX8_fewest 35 = .ok (.aload_n 0, 1) := by decide +kernel
theorem dX8_fewest_36 : decode cX8_fewest 36 = .ok (.getfield 55, 3) := by decide +kernel
theorem dX8_fewest_39 : decode cX8_fewest 39 = .ok (.iload_n 2, 1) := by decide +kernel
theorem dX8_fewest_40 : decode cX8_fewest 40 = .ok (.iload 4, 2) := by decide +kernel
theorem dX8_fewest_42 : decode cX8_fewest 42 = .ok (.iload_n 3, 1) := by decide +kernel
theorem dX8_fewest_43 : decode cX8_fewest 43 = .ok (.iload_n 1, 1) := by decide +kernel
theorem dX8_fewest_44 : decode cX8_fewest 44 = .ok (.invokevirtual 216, 3) := by decide +kernel
theorem dX8_fewest_47 : decode cX8_fewest 47 = .ok (.istore 5, 2) := by decide +kernel
theorem dX8_fewest_49 : decode cX8_fewest 49 = .ok (.iconst 0, 1) := by decide +kernel
theorem dX8_fewest_50 : decode cX8_fewest 50 = .ok (.istore 6, 2) := by decide +kernel
theorem dX8_fewest_52 : decode cX8_fewest 52 = .ok (.iload 6, 2) := by decide +kernel
theorem dX8_fewest_54 : decode cX8_fewest 54 = .ok (.iload_n 3, 1) := by decide +kernel
theorem dX8_fewest_55 : decode cX8_fewest 55 = .ok (.if_icmp .ge 39, 3) := by decide +kernel
theorem dX8_fewest_58 : decode cX8_fewest 58 = .ok (.aload_n 0, 1) := by decide +kernel
theorem dX8_fewest_59 : decode cX8_fewest 59 = .ok (.getfield 62, 3) := by decide +kernel
theorem dX8_fewest_62 : decode cX8_fewest 62 = .ok (.aload_n 0, 1) := by decide +kernel
theorem dX8_fewest_63 : decode cX8_fewest 63 = .ok (.getfield 55, 3) := by decide +kernel
theorem dX8_fewest_66 : decode cX8_fewest 66 = .ok (.iload_n 2, 1) := by decide +kernel
theorem dX8_fewest_67 : decode cX8_fewest 67 = .ok (.iload 4, 2) := by decide +kernel
theorem dX8_fewest_69 : decode cX8_fewest 69 = .ok (.iload 6, 2) := by decide +kernel
theorem dX8_fewest_71 : decode cX8_fewest 71 = .ok (.invokestatic 220, 3) := by decide +kernel
theorem dX8_fewest_74 : decode cX8_fewest 74 = .ok (.iload 6, 2) := by decide +kernel
theorem dX8_fewest_76 : decode cX8_fewest 76 = .ok (.iload_n 1, 1) := by decide +kernel
theorem dX8_fewest_77 : decode cX8_fewest 77 = .ok (.invokevirtual 216, 3) := by decide +kernel
theorem dX8_fewest_80 : decode cX8_fewest 80 = .ok (.iload 5, 2) := by decide +kernel
theorem dX8_fewest_82 : decode cX8_fewest 82 = .ok (.if_icmp .lt 6, 3) := by decide +kernel
theorem dX8_fewest_85 : decode cX8_fewest 85 = .ok (.iload 6, 2) := by decide +kernel
theorem dX8_fewest_87 : decode cX8_fewest 87 = .ok (.ireturn, 1) := by decide +kernel
theorem dX8_fewest_88 : decode cX8_fewest 88 = .ok (.iinc 6 1, 3) := by decide +kernel
theorem dX8_fewest_91 : decode cX8_fewest 91 = .ok (.goto (-39), 3) := by decide +kernel
theorem dX8_fewest_94 : decode cX8_fewest 94 = .ok (.iload_n 3, 1) := by decide +kernel
theorem dX8_fewest_95 : decode cX8_fewest 95 = .ok (.ireturn, 1) := by decide +kernel
theorem dX8_lets_0 : decode cX8_lets 0 = .ok (.iload_n 2, 1) := by decide +kernel
theorem dX8_lets_1 : decode cX8_lets 1 = .ok (.invokestatic 200, 3) := by decide +kernel
theorem dX8_lets_4 : decode cX8_lets 4 = .ok (.ifCond .eq 14, 3) := by decide +kernel
theorem dX8_lets_7 : decode cX8_lets 7 = .ok (.aload_n 0, 1) := by decide +kernel
theorem dX8_lets_8 : decode cX8_lets 8 = .ok (.getfield 55, 3) := by decide +kernel
theorem dX8_lets_11 : decode cX8_lets 11 = .ok (.iload_n 1, 1) := by decide +kernel
theorem dX8_lets_12 : decode cX8_lets 12 = .ok (.invokevirtual 223, 3) := by decide +kernel
theorem dX8_lets_15 : decode cX8_lets 15 = .ok (.ifCond .ne 6, 3) := by decide +kernel
theorem dX8_lets_18 : decode cX8_lets 18 = .ok (.ldc 173, 2) := by decide +kernel
theorem dX8_lets_20 : decode cX8_lets 20 = .ok (.ireturn, 1) := by decide +kernel
theorem dX8_lets_21 : decode cX8_lets 21 = .ok (.aload_n 0, 1) := by decide +kernel
theorem dX8_lets_22 : decode cX8_lets 22 = .ok (.getfield 55, 3) := by decide +kernel
theorem dX8_lets_25 : decode cX8_lets 25 = .ok (.invokevirtual 203, 3) := by decide +kernel
theorem dX8_lets_28 : decode cX8_lets 28 = .ok (.istore_n 3, 1) := by decide +kernel
theorem dX8_lets_29 : decode cX8_lets 29 = .ok (.aload_n 0, 1) := by decide +kernel
theorem dX8_lets_30 : decode cX8_lets 30 = .ok (.iload_n 3, 1) := by decide +kernel
theorem dX8_lets_31 : decode cX8_lets 31 = .ok (.iconst 1, 1) := by decide +kernel
theorem dX8_lets_32 : decode cX8_lets 32 = .ok (.iload_n 1, 1) := by decide +kernel
theorem dX8_lets_33 : decode cX8_lets 33 = .ok (.ishl, 1) := by decide +kernel
theorem dX8_lets_34 : decode cX8_lets 34 = .ok (.ior, 1) := by decide +kernel
theorem dX8_lets_35 : decode cX8_lets 35 = .ok (.iload_n 2, 1) := by decide +kernel
theorem dX8_lets_36 : decode cX8_lets 36 = .ok (.invokevirtual 207, 3) := by decide +kernel
theorem dX8_lets_39 : decode cX8_lets 39 = .ok (.aload_n 0, 1) := by decide +kernel
theorem dX8_lets_40 : decode cX8_lets 40 = .ok (.iload_n 3, 1) := by decide +kernel
theorem dX8_lets_41 : decode cX8_lets 41 = .ok (.iload_n 2, 1) := by decide +kernel
theorem dX8_lets_42 : decode cX8_lets 42 = .ok (.invokevirtual 207, 3) := by decide +kernel
theorem dX8_lets_45 : decode cX8_lets 45 = .ok (.isub, 1) := by decide +kernel
theorem dX8_lets_46 : decode cX8_lets 46 = .ok (.ireturn, 1) := by decide +kernel
theorem dX8_floor_0 : decode cX8_floor 0 = .ok (.aload_n 0, 1) := by decide +kernel
theorem dX8_floor_1 : decode cX8_floor 1 = .ok (.getfield 55, 3) := by decide +kernel
theorem dX8_floor_4 : decode cX8_floor 4 = .ok (.iload_n 1, 1) := by decide +kernel
theorem dX8_floor_5 : decode cX8_floor 5 = .ok (.invokevirtual 226, 3) := by decide +kernel
theorem dX8_floor_8 : decode cX8_floor 8 = .ok (.ireturn, 1) := by decide +kernel
theorem dX8_could_0 : decode cX8_could 0 = .ok (.aload_n 0, 1) := by decide +kernel
theorem dX8_could_1 : decode cX8_could 1 = .ok (.getfield 36, 3) := by decide +kernel
theorem dX8_could_4 : decode cX8_could 4 = .ok (.getfield 170, 3) := by decide +kernel
theorem dX8_could_7 : decode cX8_could 7 = .ok (.iload_n 1, 1) := by decide +kernel
theorem dX8_could_8 : decode cX8_could 8 = .ok (.invokevirtual 131, 3) := by decide +kernel
theorem dX8_could_11 : decode cX8_could 11 = .ok (.ifCond .eq 22, 3) := by decide +kernel
theorem dX8_could_14 : decode cX8_could 14 = .ok (.iload_n 2, 1) := by decide +kernel
theorem dX8_could_15 : decode cX8_could 15 = .ok (.ifCond .lt 18, 3) := by decide +kernel
theorem dX8_could_18 : decode cX8_could 18 = .ok (.iload_n 3, 1) := by decide +kernel
theorem dX8_could_19 : decode cX8_could 19 = .ok (.ifCond .lt 14, 3) := by decide +kernel
theorem dX8_could_22 : decode cX8_could 22 = .ok (.iload 4, 2) := by decide +kernel
theorem dX8_could_24 : decode cX8_could 24 = .ok (.ifCond .lt 9, 3) := by decide +kernel
theorem dX8_could_27 : decode cX8_could 27 = .ok (.iload 4, 2) := by decide +kernel
theorem dX8_could_29 : decode cX8_could 29 = .ok (.iconst 2, 1) := by decide +kernel
theorem dX8_could_30 : decode cX8_could 30 = .ok (.if_icmp .le 5, 3) := by decide +kernel
theorem dX8_could_33 : decode cX8_could 33 = .ok (.iconst (-1), 1) := by decide +kernel
theorem dX8_could_34 : decode cX8_could 34 = .ok (.ireturn, 1) := by decide +kernel
theorem dX8_could_35 : decode cX8_could 35 = .ok (.iconst 0, 1) := by decide +kernel
theorem dX8_could_36 : decode cX8_could 36 = .ok (.istore 5, 2) := by decide +kernel
theorem dX8_could_38 : decode cX8_could 38 = .ok (.iconst 1, 1) := by decide +kernel
theorem dX8_could_39 : decode cX8_could 39 = .ok (.aload_n 0, 1) := by decide +kernel
theorem dX8_could_40 : decode cX8_could 40 = .ok (.getfield 36, 3) := by decide +kernel
theorem dX8_could_43 : decode cX8_could 43 = .ok (.getfield 88, 3) := by decide +kernel
theorem dX8_could_46 : decode cX8_could 46 = .ok (.getfield 92, 3) := by decide +kernel
theorem dX8_could_49 : decode cX8_could 49 = .ok (.ishl, 1) := by decide +kernel
theorem dX8_could_50 : decode cX8_could 50 = .ok (.iconst 1, 1) := by decide +kernel
theorem dX8_could_51 : decode cX8_could 51 = .ok (.isub, 1) := by decide +kernel
theorem dX8_could_52 : decode cX8_could 52 = .ok (.istore 6, 2) := by decide +kernel
theorem dX8_could_54 : decode cX8_could 54 = .ok (.iconst 0, 1) := by decide +kernel
theorem dX8_could_55 : decode cX8_could 55 = .ok (.istore 7, 2) := by decide +kernel
theorem dX8_could_57 : decode cX8_could 57 = .ok (.aload_n 0, 1) := by decide +kernel
theorem dX8_could_58 : decode cX8_could 58 = .ok (.getfield 55, 3) := by decide +kernel
theorem dX8_could_61 : decode cX8_could 61 = .ok (.invokevirtual 229, 3) := by decide +kernel
theorem dX8_could_64 : decode cX8_could 64 = .ok (.istore 8, 2) := by decide +kernel
theorem dX8_could_66 : decode cX8_could 66 = .ok (.iconst 0, 1) := by decide +kernel
theorem dX8_could_67 : decode cX8_could 67 = .ok (.istore 9, 2) := by decide +kernel
theorem dX8_could_69 : decode cX8_could 69 = .ok (.iload 9, 2) := by decide +kernel
theorem dX8_could_71 : decode cX8_could 71 = .ok (.iconst 1, 1) := by decide +kernel
theorem dX8_could_72 : decode cX8_could 72 = .ok (.aload_n 0, 1) := by decide +kernel
theorem dX8_could_73 : decode cX8_could 73 = .ok (.getfield 36, 3) := by decide +kernel
theorem dX8_could_76 : decode cX8_could 76 = .ok (.getfield 88, 3) := by decide +kernel
theorem dX8_could_79 : decode cX8_could 79 = .ok (.getfield 92, 3) := by decide +kernel
theorem dX8_could_82 : decode cX8_could 82 = .ok (.ishl, 1) := by decide +kernel
theorem dX8_could_83 : decode cX8_could 83 = .ok (.if_icmp .ge 74, 3) := by decide +kernel
theorem dX8_could_86 : decode cX8_could 86 = .ok (.iload 9, 2) := by decide +kernel
theorem dX8_could_88 : decode cX8_could 88 = .ok (.invokestatic 183, 3) := by decide +kernel
theorem dX8_could_91 : decode cX8_could 91 = .ok (.iload 8, 2) := by decide +kernel
theorem dX8_could_93 : decode cX8_could 93 = .ok (.if_icmp .gt 58, 3) := by decide +kernel
theorem dX8_could_96 : decode cX8_could 96 = .ok (.iload 9, 2) := by decide +kernel
theorem dX8_could_98 : decode cX8_could 98 = .ok (.aload_n 0, 1) := by decide +kernel
theorem dX8_could_99 : decode cX8_could 99 = .ok (.getfield 36, 3) := by decide +kernel
theorem dX8_could_102 : decode cX8_could 102 = .ok (.getfield 232, 3) := by decide +kernel
theorem dX8_could_105 : decode cX8_could 105 = .ok (.iload_n 1, 1) := by decide +kernel
theorem dX8_could_106 : decode cX8_could 106 = .ok (.iaload, 1) := by decide +kernel
theorem dX8_could_107 : decode cX8_could 107 = .ok (.iand, 1) := by decide +kernel
theorem dX8_could_108 : decode cX8_could 108 = .ok (.invokestatic 183, 3) := by decide +kernel
theorem dX8_could_111 : decode cX8_could 111 = .ok (.iload_n 2, 1) := by decide +kernel
theorem dX8_could_112 : decode cX8_could 112 = .ok (.if_icmp .ne 39, 3) := by decide +kernel
theorem dX8_could_115 : decode cX8_could 115 = .ok (.iload 9, 2) := by decide +kernel
theorem dX8_could_117 : decode cX8_could 117 = .ok (.aload_n 0, 1) := by decide +kernel
theorem dX8_could_118 : decode cX8_could 118 = .ok (.getfield 36, 3) := by decide +kernel
theorem dX8_could_121 : decode cX8_could 121 = .ok (.getfield 235, 3) := by decide +kernel
theorem dX8_could_124 : decode cX8_could 124 = .ok (.iload_n 1, 1) := by decide +kernel
theorem dX8_could_125 : decode cX8_could 125 = .ok (.iaload, 1) := by decide +kernel
theorem dX8_could_126 : decode cX8_could 126 = .ok (.iand, 1) := by decide +kernel
theorem dX8_could_127 : decode cX8_could 127 = .ok (.invokestatic 183, 3) := by decide +kernel
theorem dX8_could_130 : decode cX8_could 130 = .ok (.iload_n 3, 1) := by decide +kernel
theorem dX8_could_131 : decode cX8_could 131 = .ok (.if_icmp .ne 20, 3) := by decide +kernel
theorem dX8_could_134 : decode cX8_could 134 = .ok (.iinc 5 1, 3) := by decide +kernel
theorem dX8_could_137 : decode cX8_could 137 = .ok (.iload 6, 2) := by decide +kernel
theorem dX8_could_139 : decode cX8_could 139 = .ok (.iload 9, 2) := by decide +kernel
theorem dX8_could_141 : decode cX8_could 141 = .ok (.iand, 1) := by decide +kernel
theorem dX8_could_142 : decode cX8_could 142 = .ok (.istore 6, 2) := by decide +kernel
theorem dX8_could_144 : decode cX8_could 144 = .ok (.iload 7, 2) := by decide +kernel
theorem dX8_could_146 : decode cX8_could 146 = .ok (.iload 9, 2) := by decide +kernel
theorem dX8_could_148 : decode cX8_could 148 = .ok (.ior, 1) := by decide +kernel
theorem dX8_could_149 : decode cX8_could 149 = .ok (.istore 7, 2) := by decide +kernel
theorem dX8_could_151 : decode cX8_could 151 = .ok (.iinc 9 1, 3) := by decide +kernel
theorem dX8_could_154 : decode cX8_could 154 = .ok (.goto (-85), 3) := by decide +kernel
theorem dX8_could_157 : decode cX8_could 157 = .ok (.iload 4, 2) := by decide +kernel
theorem dX8_could_159 : decode cX8_could 159 = .ok (.ifCond .ne 6, 3) := by decide +kernel
theorem dX8_could_162 : decode cX8_could 162 = .ok (.iload 5, 2) := by decide +kernel
theorem dX8_could_164 : decode cX8_could 164 = .ok (.ireturn, 1) := by decide +kernel
theorem dX8_could_165 : decode cX8_could 165 = .ok (.iload 4, 2) := by decide +kernel
theorem dX8_could_167 : decode cX8_could 167 = .ok (.iconst 2, 1) := by decide +kernel
theorem dX8_could_168 : decode cX8_could 168 = .ok (.if_icmp .ne 8, 3) := by decide +kernel
theorem dX8_could_171 : decode cX8_could 171 = .ok (.iload 7, 2) := by decide +kernel
theorem dX8_could_173 : decode cX8_could 173 = .ok (.goto 14, 3) := by decide +kernel
theorem dX8_could_176 : decode cX8_could 176 = .ok (.iload 5, 2) := by decide +kernel
theorem dX8_could_178 : decode cX8_could 178 = .ok (.ifCond .ne 7, 3) := by decide +kernel
theorem dX8_could_181 : decode cX8_could 181 = .ok (.iconst 0, 1) := by decide +kernel
theorem dX8_could_182 : decode cX8_could 182 = .ok (.goto 5, 3) := by decide +kernel
theorem dX8_could_185 : decode cX8_could 185 = .ok (.iload 6, 2) := by decide +kernel
theorem dX8_could_187 : decode cX8_could 187 = .ok (.ireturn, 1) := by decide +kernel
theorem dX8_entry_0 : decode cX8_entry 0 = .ok (.aload_n 0, 1) := by decide +kernel
theorem dX8_entry_1 : decode cX8_entry 1 = .ok (.getfield 36, 3) := by decide +kernel
theorem dX8_entry_4 : decode cX8_entry 4 = .ok (.getfield 88, 3) := by decide +kernel
theorem dX8_entry_7 : decode cX8_entry 7 = .ok (.iload_n 2, 1) := by decide +kernel
theorem dX8_entry_8 : decode cX8_entry 8 = .ok (.invokevirtual 131, 3) := by decide +kernel
theorem dX8_entry_11 : decode cX8_entry 11 = .ok (.ifCond .ne 5, 3) := by decide +kernel
theorem dX8_entry_14 : decode cX8_entry 14 = .ok (.iconst (-1), 1) := by decide +kernel
theorem dX8_entry_15 : decode cX8_entry 15 = .ok (.ireturn, 1) := by decide +kernel
theorem dX8_entry_16 : decode cX8_entry 16 = .ok (.aload_n 0, 1) := by decide +kernel
theorem dX8_entry_17 : decode cX8_entry 17 = .ok (.getfield 29, 3) := by decide +kernel
theorem dX8_entry_20 : decode cX8_entry 20 = .ok (.iload_n 1, 1) := by decide +kernel
theorem dX8_entry_21 : decode cX8_entry 21 = .ok (.iload_n 2, 1) := by decide +kernel
theorem dX8_entry_22 : decode cX8_entry 22 = .ok (.iload_n 3, 1) := by decide +kernel
theorem dX8_entry_23 : decode cX8_entry 23 = .ok (.invokevirtual 238, 3) := by decide +kernel
theorem dX8_entry_26 : decode cX8_entry 26 = .ok (.ireturn, 1) := by decide +kernel
theorem dX8_untell_0 : decode cX8_untell 0 = .ok (.aload_n 0, 1) := by decide +kernel
theorem dX8_untell_1 : decode cX8_untell 1 = .ok (.getfield 29, 3) := by decide +kernel
theorem dX8_untell_4 : decode cX8_untell 4 = .ok (.iload_n 1, 1) := by decide +kernel
theorem dX8_untell_5 : decode cX8_untell 5 = .ok (.invokevirtual 242, 3) := by decide +kernel
theorem dX8_untell_8 : decode cX8_untell 8 = .ok (.ireturn, 1) := by decide +kernel
theorem dX8_later_0 : decode cX8_later 0 = .ok (.aload_n 0, 1) := by decide +kernel
theorem dX8_later_1 : decode cX8_later 1 = .ok (.getfield 29, 3) := by decide +kernel
theorem dX8_later_4 : decode cX8_later 4 = .ok (.iload_n 1, 1) := by decide +kernel
theorem dX8_later_5 : decode cX8_later 5 = .ok (.invokevirtual 245, 3) := by decide +kernel
theorem dX8_later_8 : decode cX8_later 8 = .ok (.ireturn, 1) := by decide +kernel
theorem dX8_judge_0 : decode cX8_judge 0 = .ok (.iload_n 1, 1) := by decide +kernel
theorem dX8_judge_1 : decode cX8_judge 1 = .ok (.tableswitch 66 0 2 #[27, 40, 53], 27) := by decide +kernel
theorem dX8_judge_28 : decode cX8_judge 28 = .ok (.aload_n 0, 1) := by decide +kernel
theorem dX8_judge_29 : decode cX8_judge 29 = .ok (.getfield 29, 3) := by decide +kernel
theorem dX8_judge_32 : decode cX8_judge 32 = .ok (.aload_n 0, 1) := by decide +kernel
theorem dX8_judge_33 : decode cX8_judge 33 = .ok (.getfield 55, 3) := by decide +kernel
theorem dX8_judge_36 : decode cX8_judge 36 = .ok (.iload_n 2, 1) := by decide +kernel
theorem dX8_judge_37 : decode cX8_judge 37 = .ok (.invokevirtual 248, 3) := by decide +kernel
theorem dX8_judge_40 : decode cX8_judge 40 = .ok (.ireturn, 1) := by decide +kernel
theorem dX8_judge_41 : decode cX8_judge 41 = .ok (.aload_n 0, 1) := by decide +kernel
theorem dX8_judge_42 : decode cX8_judge 42 = .ok (.getfield 29, 3) := by decide +kernel
theorem dX8_judge_45 : decode cX8_judge 45 = .ok (.aload_n 0, 1) := by decide +kernel
theorem dX8_judge_46 : decode cX8_judge 46 = .ok (.getfield 55, 3) := by decide +kernel
theorem dX8_judge_49 : decode cX8_judge 49 = .ok (.iload_n 2, 1) := by decide +kernel
theorem dX8_judge_50 : decode cX8_judge 50 = .ok (.invokevirtual 252, 3) := by decide +kernel
theorem dX8_judge_53 : decode cX8_judge 53 = .ok (.ireturn, 1) := by decide +kernel
theorem dX8_judge_54 : decode cX8_judge 54 = .ok (.aload_n 0, 1) := by decide +kernel
theorem dX8_judge_55 : decode cX8_judge 55 = .ok (.getfield 29, 3) := by decide +kernel
theorem dX8_judge_58 : decode cX8_judge 58 = .ok (.aload_n 0, 1) := by decide +kernel
theorem dX8_judge_59 : decode cX8_judge 59 = .ok (.getfield 55, 3) := by decide +kernel
theorem dX8_judge_62 : decode cX8_judge 62 = .ok (.iload_n 2, 1) := by decide +kernel
theorem dX8_judge_63 : decode cX8_judge 63 = .ok (.invokevirtual 255, 3) := by decide +kernel
theorem dX8_judge_66 : decode cX8_judge 66 = .ok (.ireturn, 1) := by decide +kernel
theorem dX8_judge_67 : decode cX8_judge 67 = .ok (.iconst (-1), 1) := by decide +kernel
theorem dX8_judge_68 : decode cX8_judge 68 = .ok (.ireturn, 1) := by decide +kernel
theorem dX8_image_0 : decode cX8_image 0 = .ok (.iload_n 1, 1) := by decide +kernel
theorem dX8_image_1 : decode cX8_image 1 = .ok (.ifCond .lt 8, 3) := by decide +kernel
theorem dX8_image_4 : decode cX8_image 4 = .ok (.iload_n 1, 1) := by decide +kernel
theorem dX8_image_5 : decode cX8_image 5 = .ok (.iconst 3, 1) := by decide +kernel
theorem dX8_image_6 : decode cX8_image 6 = .ok (.if_icmp .lt 5, 3) := by decide +kernel
theorem dX8_image_9 : decode cX8_image 9 = .ok (.iconst (-1), 1) := by decide +kernel
theorem dX8_image_10 : decode cX8_image 10 = .ok (.ireturn, 1) := by decide +kernel
theorem dX8_image_11 : decode cX8_image 11 = .ok (.aload_n 0, 1) := by decide +kernel
theorem dX8_image_12 : decode cX8_image 12 = .ok (.getfield 18, 3) := by decide +kernel
theorem dX8_image_15 : decode cX8_image 15 = .ok (.iload_n 1, 1) := by decide +kernel
theorem dX8_image_16 : decode cX8_image 16 = .ok (.aaload, 1) := by decide +kernel
theorem dX8_image_17 : decode cX8_image 17 = .ok (.aload_n 0, 1) := by decide +kernel
theorem dX8_image_18 : decode cX8_image 18 = .ok (.getfield 55, 3) := by decide +kernel
theorem dX8_image_21 : decode cX8_image 21 = .ok (.invokevirtual 258, 3) := by decide +kernel
theorem dX8_image_24 : decode cX8_image 24 = .ok (.aload_n 0, 1) := by decide +kernel
theorem dX8_image_25 : decode cX8_image 25 = .ok (.getfield 22, 3) := by decide +kernel
theorem dX8_image_28 : decode cX8_image 28 = .ok (.iload_n 1, 1) := by decide +kernel
theorem dX8_image_29 : decode cX8_image 29 = .ok (.iconst 1, 1) := by decide +kernel
theorem dX8_image_30 : decode cX8_image 30 = .ok (.bastore, 1) := by decide +kernel
theorem dX8_image_31 : decode cX8_image 31 = .ok (.aload_n 0, 1) := by decide +kernel
theorem dX8_image_32 : decode cX8_image 32 = .ok (.getfield 55, 3) := by decide +kernel
theorem dX8_image_35 : decode cX8_image 35 = .ok (.getfield 262, 3) := by decide +kernel
theorem dX8_image_38 : decode cX8_image 38 = .ok (.ireturn, 1) := by decide +kernel
theorem dX8_back_0 : decode cX8_back 0 = .ok (.iload_n 1, 1) := by decide +kernel
theorem dX8_back_1 : decode cX8_back 1 = .ok (.ifCond .lt 17, 3) := by decide +kernel
theorem dX8_back_4 : decode cX8_back 4 = .ok (.iload_n 1, 1) := by decide +kernel
theorem dX8_back_5 : decode cX8_back 5 = .ok (.iconst 3, 1) := by decide +kernel
theorem dX8_back_6 : decode cX8_back 6 = .ok (.if_icmp .ge 12, 3) := by decide +kernel
theorem dX8_back_9 : decode cX8_back 9 = .ok (.aload_n 0, 1) := by decide +kernel
theorem dX8_back_10 : decode cX8_back 10 = .ok (.getfield 22, 3) := by decide +kernel
theorem dX8_back_13 : decode cX8_back 13 = .ok (.iload_n 1, 1) := by decide +kernel
theorem dX8_back_14 : decode cX8_back 14 = .ok (.baload, 1) := by decide +kernel
theorem dX8_back_15 : decode cX8_back 15 = .ok (.ifCond .ne 5, 3) := by decide +kernel
theorem dX8_back_18 : decode cX8_back 18 = .ok (.iconst (-1), 1) := by decide +kernel
theorem dX8_back_19 : decode cX8_back 19 = .ok (.ireturn, 1) := by decide +kernel
theorem dX8_back_20 : decode cX8_back 20 = .ok (.aload_n 0, 1) := by decide +kernel
theorem dX8_back_21 : decode cX8_back 21 = .ok (.getfield 55, 3) := by decide +kernel
theorem dX8_back_24 : decode cX8_back 24 = .ok (.aload_n 0, 1) := by decide +kernel
theorem dX8_back_25 : decode cX8_back 25 = .ok (.getfield 18, 3) := by decide +kernel
theorem dX8_back_28 : decode cX8_back 28 = .ok (.iload_n 1, 1) := by decide +kernel
theorem dX8_back_29 : decode cX8_back 29 = .ok (.aaload, 1) := by decide +kernel
theorem dX8_back_30 : decode cX8_back 30 = .ok (.invokevirtual 258, 3) := by decide +kernel
theorem dX8_back_33 : decode cX8_back 33 = .ok (.aload_n 0, 1) := by decide +kernel
theorem dX8_back_34 : decode cX8_back 34 = .ok (.getfield 55, 3) := by decide +kernel
theorem dX8_back_37 : decode cX8_back 37 = .ok (.getfield 262, 3) := by decide +kernel
theorem dX8_back_40 : decode cX8_back 40 = .ok (.ireturn, 1) := by decide +kernel
theorem dX8_about_0 : decode cX8_about 0 = .ok (.iload_n 1, 1) := by decide +kernel
theorem dX8_about_1 : decode cX8_about 1 = .ok (.tableswitch 183 0 12 #[67, 78, 89, 100, 108, 116, 124, 132, 140, 148, 156, 167, 175], 67) := by decide +kernel
theorem dX8_about_68 : decode cX8_about 68 = .ok (.aload_n 0, 1) := by decide +kernel
theorem dX8_about_69 : decode cX8_about 69 = .ok (.getfield 36, 3) := by decide +kernel
theorem dX8_about_72 : decode cX8_about 72 = .ok (.getfield 158, 3) := by decide +kernel
theorem dX8_about_75 : decode cX8_about 75 = .ok (.getfield 92, 3) := by decide +kernel
theorem dX8_about_78 : decode cX8_about 78 = .ok (.ireturn, 1) := by decide +kernel
theorem dX8_about_79 : decode cX8_about 79 = .ok (.aload_n 0, 1) := by decide +kernel
theorem dX8_about_80 : decode cX8_about 80 = .ok (.getfield 36, 3) := by decide +kernel
theorem dX8_about_83 : decode cX8_about 83 = .ok (.getfield 88, 3) := by decide +kernel
theorem dX8_about_86 : decode cX8_about 86 = .ok (.getfield 92, 3) := by decide +kernel
theorem dX8_about_89 : decode cX8_about 89 = .ok (.ireturn, 1) := by decide +kernel
theorem dX8_about_90 : decode cX8_about 90 = .ok (.aload_n 0, 1) := by decide +kernel
theorem dX8_about_91 : decode cX8_about 91 = .ok (.getfield 36, 3) := by decide +kernel
theorem dX8_about_94 : decode cX8_about 94 = .ok (.getfield 170, 3) := by decide +kernel
theorem dX8_about_97 : decode cX8_about 97 = .ok (.getfield 92, 3) := by decide +kernel
theorem dX8_about_100 : decode cX8_about 100 = .ok (.ireturn, 1) := by decide +kernel
theorem dX8_about_101 : decode cX8_about 101 = .ok (.aload_n 0, 1) := by decide +kernel
theorem dX8_about_102 : decode cX8_about 102 = .ok (.getfield 36, 3) := by decide +kernel
theorem dX8_about_105 : decode cX8_about 105 = .ok (.getfield 265, 3) := by decide +kernel
theorem dX8_about_108 : decode cX8_about 108 = .ok (.ireturn, 1) := by decide +kernel
theorem dX8_about_109 : decode cX8_about 109 = .ok (.aload_n 0, 1) := by decide +kernel
theorem dX8_about_110 : decode cX8_about 110 = .ok (.getfield 36, 3) := by decide +kernel
theorem dX8_about_113 : decode cX8_about 113 = .ok (.getfield 268, 3) := by decide +kernel
theorem dX8_about_116 : decode cX8_about 116 = .ok (.ireturn, 1) := by decide +kernel
theorem dX8_about_117 : decode cX8_about 117 = .ok (.aload_n 0, 1) := by decide +kernel
theorem dX8_about_118 : decode cX8_about 118 = .ok (.getfield 55, 3) := by decide +kernel
theorem dX8_about_121 : decode cX8_about 121 = .ok (.getfield 262, 3) := by decide +kernel
theorem dX8_about_124 : decode cX8_about 124 = .ok (.ireturn, 1) := by decide +kernel
theorem dX8_about_125 : decode cX8_about 125 = .ok (.aload_n 0, 1) := by decide +kernel
theorem dX8_about_126 : decode cX8_about 126 = .ok (.getfield 55, 3) := by decide +kernel
theorem dX8_about_129 : decode cX8_about 129 = .ok (.getfield 271, 3) := by decide +kernel
theorem dX8_about_132 : decode cX8_about 132 = .ok (.ireturn, 1) := by decide +kernel
theorem dX8_about_133 : decode cX8_about 133 = .ok (.aload_n 0, 1) := by decide +kernel
theorem dX8_about_134 : decode cX8_about 134 = .ok (.getfield 29, 3) := by decide +kernel
theorem dX8_about_137 : decode cX8_about 137 = .ok (.getfield 274, 3) := by decide +kernel
theorem dX8_about_140 : decode cX8_about 140 = .ok (.ireturn, 1) := by decide +kernel
theorem dX8_about_141 : decode cX8_about 141 = .ok (.aload_n 0, 1) := by decide +kernel
theorem dX8_about_142 : decode cX8_about 142 = .ok (.getfield 29, 3) := by decide +kernel
theorem dX8_about_145 : decode cX8_about 145 = .ok (.getfield 275, 3) := by decide +kernel
theorem dX8_about_148 : decode cX8_about 148 = .ok (.ireturn, 1) := by decide +kernel
theorem dX8_about_149 : decode cX8_about 149 = .ok (.aload_n 0, 1) := by decide +kernel
theorem dX8_about_150 : decode cX8_about 150 = .ok (.getfield 10, 3) := by decide +kernel
theorem dX8_about_153 : decode cX8_about 153 = .ok (.getfield 74, 3) := by decide +kernel
theorem dX8_about_156 : decode cX8_about 156 = .ok (.ireturn, 1) := by decide +kernel
theorem dX8_about_157 : decode cX8_about 157 = .ok (.aload_n 0, 1) := by decide +kernel
theorem dX8_about_158 : decode cX8_about 158 = .ok (.getfield 36, 3) := by decide +kernel
theorem dX8_about_161 : decode cX8_about 161 = .ok (.getfield 278, 3) := by decide +kernel
theorem dX8_about_164 : decode cX8_about 164 = .ok (.getfield 282, 3) := by decide +kernel
theorem dX8_about_167 : decode cX8_about 167 = .ok (.ireturn, 1) := by decide +kernel
theorem dX8_about_168 : decode cX8_about 168 = .ok (.aload_n 0, 1) := by decide +kernel
theorem dX8_about_169 : decode cX8_about 169 = .ok (.getfield 55, 3) := by decide +kernel
theorem dX8_about_172 : decode cX8_about 172 = .ok (.invokevirtual 229, 3) := by decide +kernel
theorem dX8_about_175 : decode cX8_about 175 = .ok (.ireturn, 1) := by decide +kernel
theorem dX8_about_176 : decode cX8_about 176 = .ok (.aload_n 0, 1) := by decide +kernel
theorem dX8_about_177 : decode cX8_about 177 = .ok (.getfield 55, 3) := by decide +kernel
theorem dX8_about_180 : decode cX8_about 180 = .ok (.getfield 287, 3) := by decide +kernel
theorem dX8_about_183 : decode cX8_about 183 = .ok (.ireturn, 1) := by decide +kernel
theorem dX8_about_184 : decode cX8_about 184 = .ok (.iconst (-1), 1) := by decide +kernel
theorem dX8_about_185 : decode cX8_about 185 = .ok (.ireturn, 1) := by decide +kernel
theorem dX8_isPlanTime_0 : decode cX8_isPlanTime 0 = .ok (.iload_n 0, 1) := by decide +kernel
theorem dX8_isPlanTime_1 : decode cX8_isPlanTime 1 = .ok (.ifCond .lt 13, 3) := by decide +kernel
theorem dX8_isPlanTime_4 : decode cX8_isPlanTime 4 = .ok (.iload_n 0, 1) := by decide +kernel
theorem dX8_isPlanTime_5 : decode cX8_isPlanTime 5 = .ok (.bipush 40, 2) := by decide +kernel
theorem dX8_isPlanTime_7 : decode cX8_isPlanTime 7 = .ok (.if_icmp .gt 7, 3) := by decide +kernel
theorem dX8_isPlanTime_10 : decode cX8_isPlanTime 10 = .ok (.iconst 1, 1) := by decide +kernel
theorem dX8_isPlanTime_11 : decode cX8_isPlanTime 11 = .ok (.goto 4, 3) := by decide +kernel
theorem dX8_isPlanTime_14 : decode cX8_isPlanTime 14 = .ok (.iconst 0, 1) := by decide +kernel
theorem dX8_isPlanTime_15 : decode cX8_isPlanTime 15 = .ok (.ireturn, 1) := by decide +kernel
theorem dX8_bestWith_0 : decode cX8_bestWith 0 = .ok (.aload_n 0, 1) := by decide +kernel
theorem dX8_bestWith_1 : decode cX8_bestWith 1 = .ok (.getfield 62, 3) := by decide +kernel
theorem dX8_bestWith_4 : decode cX8_bestWith 4 = .ok (.aload_n 0, 1) := by decide +kernel
theorem dX8_bestWith_5 : decode cX8_bestWith 5 = .ok (.getfield 55, 3) := by decide +kernel
theorem dX8_bestWith_8 : decode cX8_bestWith 8 = .ok (.iload_n 1, 1) := by decide +kernel
theorem dX8_bestWith_9 : decode cX8_bestWith 9 = .ok (.aload_n 0, 1) := by decide +kernel
theorem dX8_bestWith_10 : decode cX8_bestWith 10 = .ok (.getfield 55, 3) := by decide +kernel
theorem dX8_bestWith_13 : decode cX8_bestWith 13 = .ok (.invokevirtual 213, 3) := by decide +kernel
theorem dX8_bestWith_16 : decode cX8_bestWith 16 = .ok (.aload_n 0, 1) := by decide +kernel
theorem dX8_bestWith_17 : decode cX8_bestWith 17 = .ok (.getfield 55, 3) := by decide +kernel
theorem dX8_bestWith_20 : decode cX8_bestWith 20 = .ok (.invokevirtual 229, 3) := by decide +kernel
theorem dX8_bestWith_23 : decode cX8_bestWith 23 = .ok (.iload_n 2, 1) := by decide +kernel
theorem dX8_bestWith_24 : decode cX8_bestWith 24 = .ok (.invokevirtual 216, 3) := by decide +kernel
theorem dX8_bestWith_27 : decode cX8_bestWith 27 = .ok (.ireturn, 1) := by decide +kernel
theorem dX8_firstOf_0 : decode cX8_firstOf 0 = .ok (.iconst 0, 1) := by decide +kernel
theorem dX8_firstOf_1 : decode cX8_firstOf 1 = .ok (.istore_n 2, 1) := by decide +kernel
theorem dX8_firstOf_2 : decode cX8_firstOf 2 = .ok (.iconst 0, 1) := by decide +kernel
theorem dX8_firstOf_3 : decode cX8_firstOf 3 = .ok (.istore_n 3, 1) := by decide +kernel
theorem dX8_firstOf_4 : decode cX8_firstOf 4 = .ok (.iconst 0, 1) := by decide +kernel
theorem dX8_firstOf_5 : decode cX8_firstOf 5 = .ok (.istore 4, 2) := by decide +kernel
theorem dX8_firstOf_7 : decode cX8_firstOf 7 = .ok (.iload 4, 2) := by decide +kernel
theorem dX8_firstOf_9 : decode cX8_firstOf 9 = .ok (.bipush 6, 2) := by decide +kernel
theorem dX8_firstOf_11 : decode cX8_firstOf 11 = .ok (.if_icmp .ge 33, 3) := by decide +kernel
theorem dX8_firstOf_14 : decode cX8_firstOf 14 = .ok (.iload_n 0, 1) := by decide +kernel
theorem dX8_firstOf_15 : decode cX8_firstOf 15 = .ok (.iload 4, 2) := by decide +kernel
theorem dX8_firstOf_17 : decode cX8_firstOf 17 = .ok (.ishr, 1) := by decide +kernel
theorem dX8_firstOf_18 : decode cX8_firstOf 18 = .ok (.iconst 1, 1) := by decide +kernel
theorem dX8_firstOf_19 : decode cX8_firstOf 19 = .ok (.iand, 1) := by decide +kernel
theorem dX8_firstOf_20 : decode cX8_firstOf 20 = .ok (.ifCond .eq 18, 3) := by decide +kernel
theorem dX8_firstOf_23 : decode cX8_firstOf 23 = .ok (.iload_n 3, 1) := by decide +kernel
theorem dX8_firstOf_24 : decode cX8_firstOf 24 = .ok (.iload_n 1, 1) := by decide +kernel
theorem dX8_firstOf_25 : decode cX8_firstOf 25 = .ok (.if_icmp .ge 13, 3) := by decide +kernel
theorem dX8_firstOf_28 : decode cX8_firstOf 28 = .ok (.iload_n 2, 1) := by decide +kernel
theorem dX8_firstOf_29 : decode cX8_firstOf 29 = .ok (.iconst 1, 1) := by decide +kernel
theorem dX8_firstOf_30 : decode cX8_firstOf 30 = .ok (.iload 4, 2) := by decide +kernel
theorem dX8_firstOf_32 : decode cX8_firstOf 32 = .ok (.ishl, 1) := by decide +kernel
theorem dX8_firstOf_33 : decode cX8_firstOf 33 = .ok (.ior, 1) := by decide +kernel
theorem dX8_firstOf_34 : decode cX8_firstOf 34 = .ok (.istore_n 2, 1) := by decide +kernel
theorem dX8_firstOf_35 : decode cX8_firstOf 35 = .ok (.iinc 3 1, 3) := by decide +kernel
theorem dX8_firstOf_38 : decode cX8_firstOf 38 = .ok (.iinc 4 1, 3) := by decide +kernel
theorem dX8_firstOf_41 : decode cX8_firstOf 41 = .ok (.goto (-34), 3) := by decide +kernel
theorem dX8_firstOf_44 : decode cX8_firstOf 44 = .ok (.iload_n 2, 1) := by decide +kernel
theorem dX8_firstOf_45 : decode cX8_firstOf 45 = .ok (.ireturn, 1) := by decide +kernel
