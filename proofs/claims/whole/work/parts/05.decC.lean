theorem dX6_init_0 : decode cX6_init 0 = .ok (.aload_n 0, 1) := by decide +kernel
theorem dX6_init_1 : decode cX6_init 1 = .ok (.invokespecial 3, 3) := by decide +kernel
theorem dX6_init_4 : decode cX6_init 4 = .ok (.aload_n 0, 1) := by decide +kernel
theorem dX6_init_5 : decode cX6_init 5 = .ok (.bipush 6, 2) := by decide +kernel
theorem dX6_init_7 : decode cX6_init 7 = .ok (.newarray .int, 2) := by decide +kernel
theorem dX6_init_9 : decode cX6_init 9 = .ok (.putfield 9, 3) := by decide +kernel
theorem dX6_init_12 : decode cX6_init 12 = .ok (.aload_n 0, 1) := by decide +kernel
theorem dX6_init_13 : decode cX6_init 13 = .ok (.bipush 6, 2) := by decide +kernel
theorem dX6_init_15 : decode cX6_init 15 = .ok (.newarray .int, 2) := by decide +kernel
theorem dX6_init_17 : decode cX6_init 17 = .ok (.putfield 15, 3) := by decide +kernel
theorem dX6_init_20 : decode cX6_init 20 = .ok (.aload_n 0, 1) := by decide +kernel
theorem dX6_init_21 : decode cX6_init 21 = .ok (.bipush 6, 2) := by decide +kernel
theorem dX6_init_23 : decode cX6_init 23 = .ok (.newarray .int, 2) := by decide +kernel
theorem dX6_init_25 : decode cX6_init 25 = .ok (.putfield 18, 3) := by decide +kernel
theorem dX6_init_28 : decode cX6_init 28 = .ok (.aload_n 0, 1) := by decide +kernel
theorem dX6_init_29 : decode cX6_init 29 = .ok (.bipush 6, 2) := by decide +kernel
theorem dX6_init_31 : decode cX6_init 31 = .ok (.newarray .int, 2) := by decide +kernel
theorem dX6_init_33 : decode cX6_init 33 = .ok (.putfield 21, 3) := by decide +kernel
theorem dX6_init_36 : decode cX6_init 36 = .ok (.aload_n 0, 1) := by decide +kernel
theorem dX6_init_37 : decode cX6_init 37 = .ok (.iconst 4, 1) := by decide +kernel
theorem dX6_init_38 : decode cX6_init 38 = .ok (.newarray .int, 2) := by decide +kernel
theorem dX6_init_40 : decode cX6_init 40 = .ok (.putfield 24, 3) := by decide +kernel
theorem dX6_init_43 : decode cX6_init 43 = .ok (.aload_n 0, 1) := by decide +kernel
theorem dX6_init_44 : decode cX6_init 44 = .ok (.iconst 4, 1) := by decide +kernel
theorem dX6_init_45 : decode cX6_init 45 = .ok (.newarray .int, 2) := by decide +kernel
theorem dX6_init_47 : decode cX6_init 47 = .ok (.putfield 27, 3) := by decide +kernel
theorem dX6_init_50 : decode cX6_init 50 = .ok (.aload_n 0, 1) := by decide +kernel
theorem dX6_init_51 : decode cX6_init 51 = .ok (.bipush 24, 2) := by decide +kernel
theorem dX6_init_53 : decode cX6_init 53 = .ok (.newarray .int, 2) := by decide +kernel
theorem dX6_init_55 : decode cX6_init 55 = .ok (.putfield 30, 3) := by decide +kernel
theorem dX6_init_58 : decode cX6_init 58 = .ok (.aload_n 0, 1) := by decide +kernel
theorem dX6_init_59 : decode cX6_init 59 = .ok (.sipush 200, 3) := by decide +kernel
theorem dX6_init_62 : decode cX6_init 62 = .ok (.newarray .long, 2) := by decide +kernel
theorem dX6_init_64 : decode cX6_init 64 = .ok (.putfield 33, 3) := by decide +kernel
theorem dX6_init_67 : decode cX6_init 67 = .ok (.aload_n 0, 1) := by decide +kernel
theorem dX6_init_68 : decode cX6_init 68 = .ok (.aload_n 1, 1) := by decide +kernel
theorem dX6_init_69 : decode cX6_init 69 = .ok (.invokevirtual 37, 3) := by decide +kernel
theorem dX6_init_72 : decode cX6_init 72 = .ok (.return_, 1) := by decide +kernel
theorem dX6_begin_0 : decode cX6_begin 0 = .ok (.aload_n 0, 1) := by decide +kernel
theorem dX6_begin_1 : decode cX6_begin 1 = .ok (.aload_n 1, 1) := by decide +kernel
theorem dX6_begin_2 : decode cX6_begin 2 = .ok (.putfield 41, 3) := by decide +kernel
theorem dX6_begin_5 : decode cX6_begin 5 = .ok (.aload_n 0, 1) := by decide +kernel
theorem dX6_begin_6 : decode cX6_begin 6 = .ok (.iconst 0, 1) := by decide +kernel
theorem dX6_begin_7 : decode cX6_begin 7 = .ok (.putfield 45, 3) := by decide +kernel
theorem dX6_begin_10 : decode cX6_begin 10 = .ok (.aload_n 0, 1) := by decide +kernel
theorem dX6_begin_11 : decode cX6_begin 11 = .ok (.iconst 0, 1) := by decide +kernel
theorem dX6_begin_12 : decode cX6_begin 12 = .ok (.putfield 49, 3) := by decide +kernel
theorem dX6_begin_15 : decode cX6_begin 15 = .ok (.aload_n 0, 1) := by decide +kernel
theorem dX6_begin_16 : decode cX6_begin 16 = .ok (.iconst 0, 1) := by decide +kernel
theorem dX6_begin_17 : decode cX6_begin 17 = .ok (.putfield 52, 3) := by decide +kernel
theorem dX6_begin_20 : decode cX6_begin 20 = .ok (.aload_n 0, 1) := by decide +kernel
theorem dX6_begin_21 : decode cX6_begin 21 = .ok (.iconst 0, 1) := by decide +kernel
theorem dX6_begin_22 : decode cX6_begin 22 = .ok (.putfield 55, 3) := by decide +kernel
theorem dX6_begin_25 : decode cX6_begin 25 = .ok (.aload_n 0, 1) := by decide +kernel
theorem dX6_begin_26 : decode cX6_begin 26 = .ok (.iconst 0, 1) := by decide +kernel
theorem dX6_begin_27 : decode cX6_begin 27 = .ok (.putfield 58, 3) := by decide +kernel
theorem dX6_begin_30 : decode cX6_begin 30 = .ok (.iconst 0, 1) := by decide +kernel
theorem dX6_begin_31 : decode cX6_begin 31 = .ok (.istore_n 2, 1) := by decide +kernel
theorem dX6_begin_32 : decode cX6_begin 32 = .ok (.iload_n 2, 1) := by decide +kernel
theorem dX6_begin_33 : decode cX6_begin 33 = .ok (.bipush 6, 2) := by decide +kernel
theorem dX6_begin_35 : decode cX6_begin 35 = .ok (.if_icmp .ge 35, 3) := by decide +kernel
theorem dX6_begin_38 : decode cX6_begin 38 = .ok (.aload_n 0, 1) := by decide +kernel
theorem dX6_begin_39 : decode cX6_begin 39 = .ok (.getfield 9, 3) := by decide +kernel
theorem dX6_begin_42 : decode cX6_begin 42 = .ok (.iload_n 2, 1) := by decide +kernel
theorem dX6_begin_43 : decode cX6_begin 43 = .ok (.aload_n 0, 1) := by decide +kernel
theorem dX6_begin_44 : decode cX6_begin 44 = .ok (.getfield 41, 3) := by decide +kernel
theorem dX6_begin_47 : decode cX6_begin 47 = .ok (.getfield 61, 3) := by decide +kernel
theorem dX6_begin_50 : decode cX6_begin 50 = .ok (.iload_n 2, 1) := by decide +kernel
theorem dX6_begin_51 : decode cX6_begin 51 = .ok (.ishr, 1) := by decide +kernel
theorem dX6_begin_52 : decode cX6_begin 52 = .ok (.iconst 1, 1) := by decide +kernel
theorem dX6_begin_53 : decode cX6_begin 53 = .ok (.iand, 1) := by decide +kernel
theorem dX6_begin_54 : decode cX6_begin 54 = .ok (.ifCond .eq 8, 3) := by decide +kernel
theorem dX6_begin_57 : decode cX6_begin 57 = .ok (.bipush (-2), 2) := by decide +kernel
theorem dX6_begin_59 : decode cX6_begin 59 = .ok (.goto 4, 3) := by decide +kernel
theorem dX6_begin_62 : decode cX6_begin 62 = .ok (.iconst (-1), 1) := by decide +kernel
theorem dX6_begin_63 : decode cX6_begin 63 = .ok (.iastore, 1) := by decide +kernel
theorem dX6_begin_64 : decode cX6_begin 64 = .ok (.iinc 2 1, 3) := by decide +kernel
theorem dX6_begin_67 : decode cX6_begin 67 = .ok (.goto (-35), 3) := by decide +kernel
theorem dX6_begin_70 : decode cX6_begin 70 = .ok (.aload_n 0, 1) := by decide +kernel
theorem dX6_begin_71 : decode cX6_begin 71 = .ok (.getfield 15, 3) := by decide +kernel
theorem dX6_begin_74 : decode cX6_begin 74 = .ok (.iconst 0, 1) := by decide +kernel
theorem dX6_begin_75 : decode cX6_begin 75 = .ok (.invokestatic 66, 3) := by decide +kernel
theorem dX6_begin_78 : decode cX6_begin 78 = .ok (.aload_n 0, 1) := by decide +kernel
theorem dX6_begin_79 : decode cX6_begin 79 = .ok (.getfield 18, 3) := by decide +kernel
theorem dX6_begin_82 : decode cX6_begin 82 = .ok (.iconst 0, 1) := by decide +kernel
theorem dX6_begin_83 : decode cX6_begin 83 = .ok (.invokestatic 66, 3) := by decide +kernel
theorem dX6_begin_86 : decode cX6_begin 86 = .ok (.aload_n 0, 1) := by decide +kernel
theorem dX6_begin_87 : decode cX6_begin 87 = .ok (.getfield 21, 3) := by decide +kernel
theorem dX6_begin_90 : decode cX6_begin 90 = .ok (.iconst 0, 1) := by decide +kernel
theorem dX6_begin_91 : decode cX6_begin 91 = .ok (.invokestatic 66, 3) := by decide +kernel
theorem dX6_begin_94 : decode cX6_begin 94 = .ok (.aload_n 0, 1) := by decide +kernel
theorem dX6_begin_95 : decode cX6_begin 95 = .ok (.getfield 24, 3) := by decide +kernel
theorem dX6_begin_98 : decode cX6_begin 98 = .ok (.iconst 0, 1) := by decide +kernel
theorem dX6_begin_99 : decode cX6_begin 99 = .ok (.invokestatic 66, 3) := by decide +kernel
theorem dX6_begin_102 : decode cX6_begin 102 = .ok (.aload_n 0, 1) := by decide +kernel
theorem dX6_begin_103 : decode cX6_begin 103 = .ok (.getfield 27, 3) := by decide +kernel
theorem dX6_begin_106 : decode cX6_begin 106 = .ok (.iconst 0, 1) := by decide +kernel
theorem dX6_begin_107 : decode cX6_begin 107 = .ok (.invokestatic 66, 3) := by decide +kernel
theorem dX6_begin_110 : decode cX6_begin 110 = .ok (.return_, 1) := by decide +kernel
theorem dX6_copy_0 : decode cX6_copy 0 = .ok (.aload_n 0, 1) := by decide +kernel
theorem dX6_copy_1 : decode cX6_copy 1 = .ok (.aload_n 1, 1) := by decide +kernel
theorem dX6_copy_2 : decode cX6_copy 2 = .ok (.getfield 41, 3) := by decide +kernel
theorem dX6_copy_5 : decode cX6_copy 5 = .ok (.putfield 41, 3) := by decide +kernel
theorem dX6_copy_8 : decode cX6_copy 8 = .ok (.aload_n 0, 1) := by decide +kernel
theorem dX6_copy_9 : decode cX6_copy 9 = .ok (.aload_n 1, 1) := by decide +kernel
theorem dX6_copy_10 : decode cX6_copy 10 = .ok (.getfield 45, 3) := by decide +kernel
theorem dX6_copy_13 : decode cX6_copy 13 = .ok (.putfield 45, 3) := by decide +kernel
theorem dX6_copy_16 : decode cX6_copy 16 = .ok (.aload_n 0, 1) := by decide +kernel
theorem dX6_copy_17 : decode cX6_copy 17 = .ok (.aload_n 1, 1) := by decide +kernel
theorem dX6_copy_18 : decode cX6_copy 18 = .ok (.getfield 49, 3) := by decide +kernel
theorem dX6_copy_21 : decode cX6_copy 21 = .ok (.putfield 49, 3) := by decide +kernel
theorem dX6_copy_24 : decode cX6_copy 24 = .ok (.aload_n 0, 1) := by decide +kernel
theorem dX6_copy_25 : decode cX6_copy 25 = .ok (.aload_n 1, 1) := by decide +kernel
theorem dX6_copy_26 : decode cX6_copy 26 = .ok (.getfield 52, 3) := by decide +kernel
theorem dX6_copy_29 : decode cX6_copy 29 = .ok (.putfield 52, 3) := by decide +kernel
theorem dX6_copy_32 : decode cX6_copy 32 = .ok (.aload_n 0, 1) := by decide +kernel
theorem dX6_copy_33 : decode cX6_copy 33 = .ok (.aload_n 1, 1) := by decide +kernel
theorem dX6_copy_34 : decode cX6_copy 34 = .ok (.getfield 55, 3) := by decide +kernel
theorem dX6_copy_37 : decode cX6_copy 37 = .ok (.putfield 55, 3) := by decide +kernel
theorem dX6_copy_40 : decode cX6_copy 40 = .ok (.aload_n 0, 1) := by decide +kernel
theorem dX6_copy_41 : decode cX6_copy 41 = .ok (.aload_n 1, 1) := by decide +kernel
theorem dX6_copy_42 : decode cX6_copy 42 = .ok (.getfield 58, 3) := by decide +kernel
theorem dX6_copy_45 : decode cX6_copy 45 = .ok (.putfield 58, 3) := by decide +kernel
theorem dX6_copy_48 : decode cX6_copy 48 = .ok (.aload_n 1, 1) := by decide +kernel
theorem dX6_copy_49 : decode cX6_copy 49 = .ok (.getfield 9, 3) := by decide +kernel
theorem dX6_copy_52 : decode cX6_copy 52 = .ok (.iconst 0, 1) := by decide +kernel
theorem dX6_copy_53 : decode cX6_copy 53 = .ok (.aload_n 0, 1) := by decide +kernel
theorem dX6_copy_54 : decode cX6_copy 54 = .ok (.getfield 9, 3) := by decide +kernel
theorem dX6_copy_57 : decode cX6_copy 57 = .ok (.iconst 0, 1) := by decide +kernel
theorem dX6_copy_58 : decode cX6_copy 58 = .ok (.bipush 6, 2) := by decide +kernel
theorem dX6_copy_60 : decode cX6_copy 60 = .ok (.invokestatic 72, 3) := by decide +kernel
theorem dX6_copy_63 : decode cX6_copy 63 = .ok (.aload_n 1, 1) := by decide +kernel
theorem dX6_copy_64 : decode cX6_copy 64 = .ok (.getfield 15, 3) := by decide +kernel
theorem dX6_copy_67 : decode cX6_copy 67 = .ok (.iconst 0, 1) := by decide +kernel
theorem dX6_copy_68 : decode cX6_copy 68 = .ok (.aload_n 0, 1) := by decide +kernel
theorem dX6_copy_69 : decode cX6_copy 69 = .ok (.getfield 15, 3) := by decide +kernel
theorem dX6_copy_72 : decode cX6_copy 72 = .ok (.iconst 0, 1) := by decide +kernel
theorem dX6_copy_73 : decode cX6_copy 73 = .ok (.bipush 6, 2) := by decide +kernel
theorem dX6_copy_75 : decode cX6_copy 75 = .ok (.invokestatic 72, 3) := by decide +kernel
theorem dX6_copy_78 : decode cX6_copy 78 = .ok (.aload_n 1, 1) := by decide +kernel
theorem dX6_copy_79 : decode cX6_copy 79 = .ok (.getfield 18, 3) := by decide +kernel
theorem dX6_copy_82 : decode cX6_copy 82 = .ok (.iconst 0, 1) := by decide +kernel
theorem dX6_copy_83 : decode cX6_copy 83 = .ok (.aload_n 0, 1) := by decide +kernel
theorem dX6_copy_84 : decode cX6_copy 84 = .ok (.getfield 18, 3) := by decide +kernel
theorem dX6_copy_87 : decode cX6_copy 87 = .ok (.iconst 0, 1) := by decide +kernel
theorem dX6_copy_88 : decode cX6_copy 88 = .ok (.bipush 6, 2) := by decide +kernel
theorem dX6_copy_90 : decode cX6_copy 90 = .ok (.invokestatic 72, 3) := by decide +kernel
theorem dX6_copy_93 : decode cX6_copy 93 = .ok (.aload_n 1, 1) := by decide +kernel
theorem dX6_copy_94 : decode cX6_copy 94 = .ok (.getfield 21, 3) := by decide +kernel
theorem dX6_copy_97 : decode cX6_copy 97 = .ok (.iconst 0, 1) := by decide +kernel
theorem dX6_copy_98 : decode cX6_copy 98 = .ok (.aload_n 0, 1) := by decide +kernel
theorem dX6_copy_99 : decode cX6_copy 99 = .ok (.getfield 21, 3) := by decide +kernel
theorem dX6_copy_102 : decode cX6_copy 102 = .ok (.iconst 0, 1) := by decide +kernel
theorem dX6_copy_103 : decode cX6_copy 103 = .ok (.bipush 6, 2) := by decide +kernel
theorem dX6_copy_105 : decode cX6_copy 105 = .ok (.invokestatic 72, 3) := by decide +kernel
theorem dX6_copy_108 : decode cX6_copy 108 = .ok (.aload_n 1, 1) := by decide +kernel
theorem dX6_copy_109 : decode cX6_copy 109 = .ok (.getfield 24, 3) := by decide +kernel
theorem dX6_copy_112 : decode cX6_copy 112 = .ok (.iconst 0, 1) := by decide +kernel
theorem dX6_copy_113 : decode cX6_copy 113 = .ok (.aload_n 0, 1) := by decide +kernel
theorem dX6_copy_114 : decode cX6_copy 114 = .ok (.getfield 24, 3) := by decide +kernel
theorem dX6_copy_117 : decode cX6_copy 117 = .ok (.iconst 0, 1) := by decide +kernel
theorem dX6_copy_118 : decode cX6_copy 118 = .ok (.iconst 4, 1) := by decide +kernel
theorem dX6_copy_119 : decode cX6_copy 119 = .ok (.invokestatic 72, 3) := by decide +kernel
theorem dX6_copy_122 : decode cX6_copy 122 = .ok (.aload_n 1, 1) := by decide +kernel
theorem dX6_copy_123 : decode cX6_copy 123 = .ok (.getfield 27, 3) := by decide +kernel
theorem dX6_copy_126 : decode cX6_copy 126 = .ok (.iconst 0, 1) := by decide +kernel
theorem dX6_copy_127 : decode cX6_copy 127 = .ok (.aload_n 0, 1) := by decide +kernel
theorem dX6_copy_128 : decode cX6_copy 128 = .ok (.getfield 27, 3) := by decide +kernel
theorem dX6_copy_131 : decode cX6_copy 131 = .ok (.iconst 0, 1) := by decide +kernel
theorem dX6_copy_132 : decode cX6_copy 132 = .ok (.iconst 4, 1) := by decide +kernel
theorem dX6_copy_133 : decode cX6_copy 133 = .ok (.invokestatic 72, 3) := by decide +kernel
theorem dX6_copy_136 : decode cX6_copy 136 = .ok (.aload_n 1, 1) := by decide +kernel
theorem dX6_copy_137 : decode cX6_copy 137 = .ok (.getfield 30, 3) := by decide +kernel
theorem dX6_copy_140 : decode cX6_copy 140 = .ok (.iconst 0, 1) := by decide +kernel
theorem dX6_copy_141 : decode cX6_copy 141 = .ok (.aload_n 0, 1) := by decide +kernel
theorem dX6_copy_142 : decode cX6_copy 142 = .ok (.getfield 30, 3) := by decide +kernel
theorem dX6_copy_145 : decode cX6_copy 145 = .ok (.iconst 0, 1) := by decide +kernel
theorem dX6_copy_146 : decode cX6_copy 146 = .ok (.bipush 24, 2) := by decide +kernel
theorem dX6_copy_148 : decode cX6_copy 148 = .ok (.invokestatic 72, 3) := by decide +kernel
theorem dX6_copy_151 : decode cX6_copy 151 = .ok (.aload_n 1, 1) := by decide +kernel
theorem dX6_copy_152 : decode cX6_copy 152 = .ok (.getfield 33, 3) := by decide +kernel
theorem dX6_copy_155 : decode cX6_copy 155 = .ok (.iconst 0, 1) := by decide +kernel
theorem dX6_copy_156 : decode cX6_copy 156 = .ok (.aload_n 0, 1) := by decide +kernel
theorem dX6_copy_157 : decode cX6_copy 157 = .ok (.getfield 33, 3) := by decide +kernel
theorem dX6_copy_160 : decode cX6_copy 160 = .ok (.iconst 0, 1) := by decide +kernel
theorem dX6_copy_161 : decode cX6_copy 161 = .ok (.sipush 200, 3) := by decide +kernel
theorem dX6_copy_164 : decode cX6_copy 164 = .ok (.invokestatic 72, 3) := by decide +kernel
theorem dX6_copy_167 : decode cX6_copy 167 = .ok (.return_, 1) := by decide +kernel
theorem dX6_standUp_0 : decode cX6_standUp 0 = .ok (.aload_n 0, 1) := by decide +kernel
theorem dX6_standUp_1 : decode cX6_standUp 1 = .ok (.getfield 41, 3) := by decide +kernel
theorem dX6_standUp_4 : decode cX6_standUp 4 = .ok (.getfield 78, 3) := by decide +kernel
theorem dX6_standUp_7 : decode cX6_standUp 7 = .ok (.iload_n 1, 1) := by decide +kernel
theorem dX6_standUp_8 : decode cX6_standUp 8 = .ok (.invokevirtual 82, 3) := by decide +kernel
theorem dX6_standUp_11 : decode cX6_standUp 11 = .ok (.ifCond .eq 20, 3) := by decide +kernel
theorem dX6_standUp_14 : decode cX6_standUp 14 = .ok (.aload_n 0, 1) := by decide +kernel
theorem dX6_standUp_15 : decode cX6_standUp 15 = .ok (.getfield 9, 3) := by decide +kernel
theorem dX6_standUp_18 : decode cX6_standUp 18 = .ok (.iload_n 1, 1) := by decide +kernel
theorem dX6_standUp_19 : decode cX6_standUp 19 = .ok (.iaload, 1) := by decide +kernel
theorem dX6_standUp_20 : decode cX6_standUp 20 = .ok (.ifCond .lt 11, 3) := by decide +kernel
theorem dX6_standUp_23 : decode cX6_standUp 23 = .ok (.aload_n 0, 1) := by decide +kernel
theorem dX6_standUp_24 : decode cX6_standUp 24 = .ok (.iconst 1, 1) := by decide +kernel
theorem dX6_standUp_25 : decode cX6_standUp 25 = .ok (.invokevirtual 88, 3) := by decide +kernel
theorem dX6_standUp_28 : decode cX6_standUp 28 = .ok (.ifCond .ne 5, 3) := by decide +kernel
theorem dX6_standUp_31 : decode cX6_standUp 31 = .ok (.iconst (-1), 1) := by decide +kernel
theorem dX6_standUp_32 : decode cX6_standUp 32 = .ok (.ireturn, 1) := by decide +kernel
theorem dX6_standUp_33 : decode cX6_standUp 33 = .ok (.aload_n 0, 1) := by decide +kernel
theorem dX6_standUp_34 : decode cX6_standUp 34 = .ok (.iload_n 1, 1) := by decide +kernel
theorem dX6_standUp_35 : decode cX6_standUp 35 = .ok (.iconst (-1), 1) := by decide +kernel
theorem dX6_standUp_36 : decode cX6_standUp 36 = .ok (.invokevirtual 91, 3) := by decide +kernel
theorem dX6_standUp_39 : decode cX6_standUp 39 = .ok (.aload_n 0, 1) := by decide +kernel
theorem dX6_standUp_40 : decode cX6_standUp 40 = .ok (.invokevirtual 95, 3) := by decide +kernel
theorem dX6_standUp_43 : decode cX6_standUp 43 = .ok (.ireturn, 1) := by decide +kernel
theorem dX6_sitDown_0 : decode cX6_sitDown 0 = .ok (.aload_n 0, 1) := by decide +kernel
theorem dX6_sitDown_1 : decode cX6_sitDown 1 = .ok (.iload_n 1, 1) := by decide +kernel
theorem dX6_sitDown_2 : decode cX6_sitDown 2 = .ok (.invokevirtual 99, 3) := by decide +kernel
theorem dX6_sitDown_5 : decode cX6_sitDown 5 = .ok (.ifCond .eq 19, 3) := by decide +kernel
theorem dX6_sitDown_8 : decode cX6_sitDown 8 = .ok (.aload_n 0, 1) := by decide +kernel
theorem dX6_sitDown_9 : decode cX6_sitDown 9 = .ok (.iload_n 2, 1) := by decide +kernel
theorem dX6_sitDown_10 : decode cX6_sitDown 10 = .ok (.invokevirtual 102, 3) := by decide +kernel
theorem dX6_sitDown_13 : decode cX6_sitDown 13 = .ok (.ifCond .eq 11, 3) := by decide +kernel
theorem dX6_sitDown_16 : decode cX6_sitDown 16 = .ok (.aload_n 0, 1) := by decide +kernel
theorem dX6_sitDown_17 : decode cX6_sitDown 17 = .ok (.iconst 1, 1) := by decide +kernel
theorem dX6_sitDown_18 : decode cX6_sitDown 18 = .ok (.invokevirtual 88, 3) := by decide +kernel
theorem dX6_sitDown_21 : decode cX6_sitDown 21 = .ok (.ifCond .ne 5, 3) := by decide +kernel
theorem dX6_sitDown_24 : decode cX6_sitDown 24 = .ok (.iconst (-1), 1) := by decide +kernel
theorem dX6_sitDown_25 : decode cX6_sitDown 25 = .ok (.ireturn, 1) := by decide +kernel
theorem dX6_sitDown_26 : decode cX6_sitDown 26 = .ok (.aload_n 0, 1) := by decide +kernel
theorem dX6_sitDown_27 : decode cX6_sitDown 27 = .ok (.iload_n 1, 1) := by decide +kernel
theorem dX6_sitDown_28 : decode cX6_sitDown 28 = .ok (.iload_n 2, 1) := by decide +kernel
theorem dX6_sitDown_29 : decode cX6_sitDown 29 = .ok (.invokevirtual 91, 3) := by decide +kernel
theorem dX6_sitDown_32 : decode cX6_sitDown 32 = .ok (.aload_n 0, 1) := by decide +kernel
theorem dX6_sitDown_33 : decode cX6_sitDown 33 = .ok (.invokevirtual 95, 3) := by decide +kernel
theorem dX6_sitDown_36 : decode cX6_sitDown 36 = .ok (.ireturn, 1) := by decide +kernel
theorem dX6_speakFor_0 : decode cX6_speakFor 0 = .ok (.aload_n 0, 1) := by decide +kernel
theorem dX6_speakFor_1 : decode cX6_speakFor 1 = .ok (.iload_n 1, 1) := by decide +kernel
theorem dX6_speakFor_2 : decode cX6_speakFor 2 = .ok (.invokevirtual 99, 3) := by decide +kernel
theorem dX6_speakFor_5 : decode cX6_speakFor 5 = .ok (.ifCond .eq 37, 3) := by decide +kernel
theorem dX6_speakFor_8 : decode cX6_speakFor 8 = .ok (.aload_n 0, 1) := by decide +kernel
theorem dX6_speakFor_9 : decode cX6_speakFor 9 = .ok (.getfield 15, 3) := by decide +kernel
theorem dX6_speakFor_12 : decode cX6_speakFor 12 = .ok (.iload_n 1, 1) := by decide +kernel
theorem dX6_speakFor_13 : decode cX6_speakFor 13 = .ok (.iaload, 1) := by decide +kernel
theorem dX6_speakFor_14 : decode cX6_speakFor 14 = .ok (.aload_n 0, 1) := by decide +kernel
theorem dX6_speakFor_15 : decode cX6_speakFor 15 = .ok (.getfield 41, 3) := by decide +kernel
theorem dX6_speakFor_18 : decode cX6_speakFor 18 = .ok (.getfield 105, 3) := by decide +kernel
theorem dX6_speakFor_21 : decode cX6_speakFor 21 = .ok (.iload_n 1, 1) := by decide +kernel
theorem dX6_speakFor_22 : decode cX6_speakFor 22 = .ok (.iaload, 1) := by decide +kernel
theorem dX6_speakFor_23 : decode cX6_speakFor 23 = .ok (.if_icmp .ge 19, 3) := by decide +kernel
theorem dX6_speakFor_26 : decode cX6_speakFor 26 = .ok (.aload_n 0, 1) := by decide +kernel
theorem dX6_speakFor_27 : decode cX6_speakFor 27 = .ok (.iload_n 2, 1) := by decide +kernel
theorem dX6_speakFor_28 : decode cX6_speakFor 28 = .ok (.invokevirtual 108, 3) := by decide +kernel
theorem dX6_speakFor_31 : decode cX6_speakFor 31 = .ok (.ifCond .eq 11, 3) := by decide +kernel
theorem dX6_speakFor_34 : decode cX6_speakFor 34 = .ok (.aload_n 0, 1) := by decide +kernel
theorem dX6_speakFor_35 : decode cX6_speakFor 35 = .ok (.iconst 1, 1) := by decide +kernel
theorem dX6_speakFor_36 : decode cX6_speakFor 36 = .ok (.invokevirtual 88, 3) := by decide +kernel
theorem dX6_speakFor_39 : decode cX6_speakFor 39 = .ok (.ifCond .ne 5, 3) := by decide +kernel
theorem dX6_speakFor_42 : decode cX6_speakFor 42 = .ok (.iconst (-1), 1) := by decide +kernel
theorem dX6_speakFor_43 : decode cX6_speakFor 43 = .ok (.ireturn, 1) := by decide +kernel
theorem dX6_speakFor_44 : decode cX6_speakFor 44 = .ok (.aload_n 0, 1) := by decide +kernel
theorem dX6_speakFor_45 : decode cX6_speakFor 45 = .ok (.getfield 24, 3) := by decide +kernel
theorem dX6_speakFor_48 : decode cX6_speakFor 48 = .ok (.iload_n 2, 1) := by decide +kernel
theorem dX6_speakFor_49 : decode cX6_speakFor 49 = .ok (.iconst 1, 1) := by decide +kernel
theorem dX6_speakFor_50 : decode cX6_speakFor 50 = .ok (.iastore, 1) := by decide +kernel
theorem dX6_speakFor_51 : decode cX6_speakFor 51 = .ok (.aload_n 0, 1) := by decide +kernel
theorem dX6_speakFor_52 : decode cX6_speakFor 52 = .ok (.getfield 21, 3) := by decide +kernel
theorem dX6_speakFor_55 : decode cX6_speakFor 55 = .ok (.iload_n 1, 1) := by decide +kernel
theorem dX6_speakFor_56 : decode cX6_speakFor 56 = .ok (.dup2, 1) := by decide +kernel
theorem dX6_speakFor_57 : decode cX6_speakFor 57 = .ok (.iaload, 1) := by decide +kernel
theorem dX6_speakFor_58 : decode cX6_speakFor 58 = .ok (.iconst 1, 1) := by decide +kernel
theorem dX6_speakFor_59 : decode cX6_speakFor 59 = .ok (.iload_n 2, 1) := by decide +kernel
theorem dX6_speakFor_60 : decode cX6_speakFor 60 = .ok (.ishl, 1) := by decide +kernel
theorem dX6_speakFor_61 : decode cX6_speakFor 61 = .ok (.ior, 1) := by decide +kernel
theorem dX6_speakFor_62 : decode cX6_speakFor 62 = .ok (.iastore, 1) := by decide +kernel
theorem dX6_speakFor_63 : decode cX6_speakFor 63 = .ok (.aload_n 0, 1) := by decide +kernel
theorem dX6_speakFor_64 : decode cX6_speakFor 64 = .ok (.invokevirtual 95, 3) := by decide +kernel
theorem dX6_speakFor_67 : decode cX6_speakFor 67 = .ok (.ireturn, 1) := by decide +kernel
theorem dX6_voteOn_0 : decode cX6_voteOn 0 = .ok (.aload_n 0, 1) := by decide +kernel
theorem dX6_voteOn_1 : decode cX6_voteOn 1 = .ok (.getfield 41, 3) := by decide +kernel
theorem dX6_voteOn_4 : decode cX6_voteOn 4 = .ok (.getfield 111, 3) := by decide +kernel
theorem dX6_voteOn_7 : decode cX6_voteOn 7 = .ok (.iload_n 1, 1) := by decide +kernel
theorem dX6_voteOn_8 : decode cX6_voteOn 8 = .ok (.invokevirtual 82, 3) := by decide +kernel
theorem dX6_voteOn_11 : decode cX6_voteOn 11 = .ok (.ifCond .eq 21, 3) := by decide +kernel
theorem dX6_voteOn_14 : decode cX6_voteOn 14 = .ok (.aload_n 0, 1) := by decide +kernel
theorem dX6_voteOn_15 : decode cX6_voteOn 15 = .ok (.getfield 24, 3) := by decide +kernel
theorem dX6_voteOn_18 : decode cX6_voteOn 18 = .ok (.iload_n 1, 1) := by decide +kernel
theorem dX6_voteOn_19 : decode cX6_voteOn 19 = .ok (.iaload, 1) := by decide +kernel
theorem dX6_voteOn_20 : decode cX6_voteOn 20 = .ok (.iconst 1, 1) := by decide +kernel
theorem dX6_voteOn_21 : decode cX6_voteOn 21 = .ok (.if_icmp .ne 11, 3) := by decide +kernel
theorem dX6_voteOn_24 : decode cX6_voteOn 24 = .ok (.aload_n 0, 1) := by decide +kernel
theorem dX6_voteOn_25 : decode cX6_voteOn 25 = .ok (.iconst 1, 1) := by decide +kernel
theorem dX6_voteOn_26 : decode cX6_voteOn 26 = .ok (.invokevirtual 88, 3) := by decide +kernel
theorem dX6_voteOn_29 : decode cX6_voteOn 29 = .ok (.ifCond .ne 5, 3) := by decide +kernel
theorem dX6_voteOn_32 : decode cX6_voteOn 32 = .ok (.iconst (-1), 1) := by decide +kernel
theorem dX6_voteOn_33 : decode cX6_voteOn 33 = .ok (.ireturn, 1) := by decide +kernel
theorem dX6_voteOn_34 : decode cX6_voteOn 34 = .ok (.aload_n 0, 1) := by decide +kernel
theorem dX6_voteOn_35 : decode cX6_voteOn 35 = .ok (.iload_n 1, 1) := by decide +kernel
theorem dX6_voteOn_36 : decode cX6_voteOn 36 = .ok (.invokevirtual 114, 3) := by decide +kernel
theorem dX6_voteOn_39 : decode cX6_voteOn 39 = .ok (.istore_n 2, 1) := by decide +kernel
theorem dX6_voteOn_40 : decode cX6_voteOn 40 = .ok (.aload_n 0, 1) := by decide +kernel
theorem dX6_voteOn_41 : decode cX6_voteOn 41 = .ok (.iload_n 1, 1) := by decide +kernel
theorem dX6_voteOn_42 : decode cX6_voteOn 42 = .ok (.invokevirtual 118, 3) := by decide +kernel
theorem dX6_voteOn_45 : decode cX6_voteOn 45 = .ok (.istore_n 3, 1) := by decide +kernel
theorem dX6_voteOn_46 : decode cX6_voteOn 46 = .ok (.aload_n 0, 1) := by decide +kernel
theorem dX6_voteOn_47 : decode cX6_voteOn 47 = .ok (.invokevirtual 121, 3) := by decide +kernel
theorem dX6_voteOn_50 : decode cX6_voteOn 50 = .ok (.invokestatic 124, 3) := by decide +kernel
theorem dX6_voteOn_53 : decode cX6_voteOn 53 = .ok (.istore 4, 2) := by decide +kernel
theorem dX6_voteOn_55 : decode cX6_voteOn 55 = .ok (.aload_n 0, 1) := by decide +kernel
theorem dX6_voteOn_56 : decode cX6_voteOn 56 = .ok (.invokevirtual 129, 3) := by decide +kernel
theorem dX6_voteOn_59 : decode cX6_voteOn 59 = .ok (.invokestatic 124, 3) := by decide +kernel
theorem dX6_voteOn_62 : decode cX6_voteOn 62 = .ok (.iload 4, 2) := by decide +kernel
theorem dX6_voteOn_64 : decode cX6_voteOn 64 = .ok (.isub, 1) := by decide +kernel
theorem dX6_voteOn_65 : decode cX6_voteOn 65 = .ok (.istore 5, 2) := by decide +kernel
theorem dX6_voteOn_67 : decode cX6_voteOn 67 = .ok (.aload_n 0, 1) := by decide +kernel
theorem dX6_voteOn_68 : decode cX6_voteOn 68 = .ok (.getfield 41, 3) := by decide +kernel
theorem dX6_voteOn_71 : decode cX6_voteOn 71 = .ok (.getfield 132, 3) := by decide +kernel
theorem dX6_voteOn_74 : decode cX6_voteOn 74 = .ok (.iload_n 2, 1) := by decide +kernel
theorem dX6_voteOn_75 : decode cX6_voteOn 75 = .ok (.invokestatic 124, 3) := by decide +kernel
theorem dX6_voteOn_78 : decode cX6_voteOn 78 = .ok (.iload_n 3, 1) := by decide +kernel
theorem dX6_voteOn_79 : decode cX6_voteOn 79 = .ok (.invokestatic 124, 3) := by decide +kernel
theorem dX6_voteOn_82 : decode cX6_voteOn 82 = .ok (.iload 4, 2) := by decide +kernel
theorem dX6_voteOn_84 : decode cX6_voteOn 84 = .ok (.iload 5, 2) := by decide +kernel
theorem dX6_voteOn_86 : decode cX6_voteOn 86 = .ok (.invokevirtual 136, 3) := by decide +kernel
theorem dX6_voteOn_89 : decode cX6_voteOn 89 = .ok (.istore 6, 2) := by decide +kernel
theorem dX6_voteOn_91 : decode cX6_voteOn 91 = .ok (.aload_n 0, 1) := by decide +kernel
theorem dX6_voteOn_92 : decode cX6_voteOn 92 = .ok (.iload_n 1, 1) := by decide +kernel
theorem dX6_voteOn_93 : decode cX6_voteOn 93 = .ok (.iload_n 2, 1) := by decide +kernel
theorem dX6_voteOn_94 : decode cX6_voteOn 94 = .ok (.invokevirtual 142, 3) := by decide +kernel
theorem dX6_voteOn_97 : decode cX6_voteOn 97 = .ok (.aload_n 0, 1) := by decide +kernel
theorem dX6_voteOn_98 : decode cX6_voteOn 98 = .ok (.getfield 24, 3) := by decide +kernel
theorem dX6_voteOn_101 : decode cX6_voteOn 101 = .ok (.iload_n 1, 1) := by decide +kernel
theorem dX6_voteOn_102 : decode cX6_voteOn 102 = .ok (.iload 6, 2) := by decide +kernel
theorem dX6_voteOn_104 : decode cX6_voteOn 104 = .ok (.ifCond .eq 7, 3) := by decide +kernel
theorem dX6_voteOn_107 : decode cX6_voteOn 107 = .ok (.iconst 2, 1) := by decide +kernel
theorem dX6_voteOn_108 : decode cX6_voteOn 108 = .ok (.goto 4, 3) := by decide +kernel
theorem dX6_voteOn_111 : decode cX6_voteOn 111 = .ok (.iconst 3, 1) := by decide +kernel
theorem dX6_voteOn_112 : decode cX6_voteOn 112 = .ok (.iastore, 1) := by decide +kernel
theorem dX6_voteOn_113 : decode cX6_voteOn 113 = .ok (.aload_n 0, 1) := by decide +kernel
theorem dX6_voteOn_114 : decode cX6_voteOn 114 = .ok (.iload_n 1, 1) := by decide +kernel
theorem dX6_voteOn_115 : decode cX6_voteOn 115 = .ok (.iload_n 2, 1) := by decide +kernel
theorem dX6_voteOn_116 : decode cX6_voteOn 116 = .ok (.iload_n 3, 1) := by decide +kernel
theorem dX6_voteOn_117 : decode cX6_voteOn 117 = .ok (.invokevirtual 145, 3) := by decide +kernel
theorem dX6_voteOn_120 : decode cX6_voteOn 120 = .ok (.aload_n 0, 1) := by decide +kernel
theorem dX6_voteOn_121 : decode cX6_voteOn 121 = .ok (.invokevirtual 95, 3) := by decide +kernel
theorem dX6_voteOn_124 : decode cX6_voteOn 124 = .ok (.pop, 1) := by decide +kernel
theorem dX6_voteOn_125 : decode cX6_voteOn 125 = .ok (.iload 6, 2) := by decide +kernel
theorem dX6_voteOn_127 : decode cX6_voteOn 127 = .ok (.ifCond .eq 7, 3) := by decide +kernel
theorem dX6_voteOn_130 : decode cX6_voteOn 130 = .ok (.iconst 1, 1) := by decide +kernel
theorem dX6_voteOn_131 : decode cX6_voteOn 131 = .ok (.goto 4, 3) := by decide +kernel
theorem dX6_voteOn_134 : decode cX6_voteOn 134 = .ok (.iconst 0, 1) := by decide +kernel
theorem dX6_voteOn_135 : decode cX6_voteOn 135 = .ok (.ireturn, 1) := by decide +kernel
theorem dX6_comeIn_0 : decode cX6_comeIn 0 = .ok (.aload_n 0, 1) := by decide +kernel
theorem dX6_comeIn_1 : decode cX6_comeIn 1 = .ok (.iload_n 1, 1) := by decide +kernel
theorem dX6_comeIn_2 : decode cX6_comeIn 2 = .ok (.invokevirtual 149, 3) := by decide +kernel
theorem dX6_comeIn_5 : decode cX6_comeIn 5 = .ok (.ifCond .eq 11, 3) := by decide +kernel
theorem dX6_comeIn_8 : decode cX6_comeIn 8 = .ok (.aload_n 0, 1) := by decide +kernel
theorem dX6_comeIn_9 : decode cX6_comeIn 9 = .ok (.iconst 1, 1) := by decide +kernel
theorem dX6_comeIn_10 : decode cX6_comeIn 10 = .ok (.invokevirtual 88, 3) := by decide +kernel
theorem dX6_comeIn_13 : decode cX6_comeIn 13 = .ok (.ifCond .ne 5, 3) := by decide +kernel
theorem dX6_comeIn_16 : decode cX6_comeIn 16 = .ok (.iconst (-1), 1) := by decide +kernel
theorem dX6_comeIn_17 : decode cX6_comeIn 17 = .ok (.ireturn, 1) := by decide +kernel
theorem dX6_comeIn_18 : decode cX6_comeIn 18 = .ok (.aload_n 0, 1) := by decide +kernel
theorem dX6_comeIn_19 : decode cX6_comeIn 19 = .ok (.iload_n 1, 1) := by decide +kernel
theorem dX6_comeIn_20 : decode cX6_comeIn 20 = .ok (.iconst (-1), 1) := by decide +kernel
theorem dX6_comeIn_21 : decode cX6_comeIn 21 = .ok (.invokevirtual 91, 3) := by decide +kernel
theorem dX6_comeIn_24 : decode cX6_comeIn 24 = .ok (.aload_n 0, 1) := by decide +kernel
theorem dX6_comeIn_25 : decode cX6_comeIn 25 = .ok (.invokevirtual 95, 3) := by decide +kernel
theorem dX6_comeIn_28 : decode cX6_comeIn 28 = .ok (.ireturn, 1) := by decide +kernel
theorem dX6_idle_0 : decode cX6_idle 0 = .ok (.iload_n 1, 1) := by decide +kernel
theorem dX6_idle_1 : decode cX6_idle 1 = .ok (.ifCond .lt 18, 3) := by decide +kernel
theorem dX6_idle_4 : decode cX6_idle 4 = .ok (.iload_n 1, 1) := by decide +kernel
theorem dX6_idle_5 : decode cX6_idle 5 = .ok (.sipush 200, 3) := by decide +kernel
theorem dX6_idle_8 : decode cX6_idle 8 = .ok (.if_icmp .gt 11, 3) := by decide +kernel
theorem dX6_idle_11 : decode cX6_idle 11 = .ok (.aload_n 0, 1) := by decide +kernel
theorem dX6_idle_12 : decode cX6_idle 12 = .ok (.iload_n 1, 1) := by decide +kernel
theorem dX6_idle_13 : decode cX6_idle 13 = .ok (.invokevirtual 88, 3) := by decide +kernel
theorem dX6_idle_16 : decode cX6_idle 16 = .ok (.ifCond .ne 5, 3) := by decide +kernel
theorem dX6_idle_19 : decode cX6_idle 19 = .ok (.iconst (-1), 1) := by decide +kernel
theorem dX6_idle_20 : decode cX6_idle 20 = .ok (.ireturn, 1) := by decide +kernel
theorem dX6_idle_21 : decode cX6_idle 21 = .ok (.iconst 0, 1) := by decide +kernel
theorem dX6_idle_22 : decode cX6_idle 22 = .ok (.istore_n 2, 1) := by decide +kernel
theorem dX6_idle_23 : decode cX6_idle 23 = .ok (.iload_n 2, 1) := by decide +kernel
theorem dX6_idle_24 : decode cX6_idle 24 = .ok (.iload_n 1, 1) := by decide +kernel
theorem dX6_idle_25 : decode cX6_idle 25 = .ok (.if_icmp .ge 14, 3) := by decide +kernel
theorem dX6_idle_28 : decode cX6_idle 28 = .ok (.aload_n 0, 1) := by decide +kernel
theorem dX6_idle_29 : decode cX6_idle 29 = .ok (.invokevirtual 95, 3) := by decide +kernel
theorem dX6_idle_32 : decode cX6_idle 32 = .ok (.pop, 1) := by decide +kernel
theorem dX6_idle_33 : decode cX6_idle 33 = .ok (.iinc 2 1, 3) := by decide +kernel
theorem dX6_idle_36 : decode cX6_idle 36 = .ok (.goto (-13), 3) := by decide +kernel
theorem dX6_idle_39 : decode cX6_idle 39 = .ok (.aload_n 0, 1) := by decide +kernel
theorem dX6_idle_40 : decode cX6_idle 40 = .ok (.getfield 45, 3) := by decide +kernel
theorem dX6_idle_43 : decode cX6_idle 43 = .ok (.ireturn, 1) := by decide +kernel
theorem dX6_hasTime_0 : decode cX6_hasTime 0 = .ok (.aload_n 0, 1) := by decide +kernel
theorem dX6_hasTime_1 : decode cX6_hasTime 1 = .ok (.getfield 45, 3) := by decide +kernel
theorem dX6_hasTime_4 : decode cX6_hasTime 4 = .ok (.iload_n 1, 1) := by decide +kernel
theorem dX6_hasTime_5 : decode cX6_hasTime 5 = .ok (.iadd, 1) := by decide +kernel
theorem dX6_hasTime_6 : decode cX6_hasTime 6 = .ok (.sipush 10000, 3) := by decide +kernel
theorem dX6_hasTime_9 : decode cX6_hasTime 9 = .ok (.if_icmp .gt 7, 3) := by decide +kernel
theorem dX6_hasTime_12 : decode cX6_hasTime 12 = .ok (.iconst 1, 1) := by decide +kernel
theorem dX6_hasTime_13 : decode cX6_hasTime 13 = .ok (.goto 4, 3) := by decide +kernel
theorem dX6_hasTime_16 : decode cX6_hasTime 16 = .ok (.iconst 0, 1) := by decide +kernel
theorem dX6_hasTime_17 : decode cX6_hasTime 17 = .ok (.ireturn, 1) := by decide +kernel
theorem dX6_place_0 : decode cX6_place 0 = .ok (.aload_n 0, 1) := by decide +kernel
theorem dX6_place_1 : decode cX6_place 1 = .ok (.getfield 9, 3) := by decide +kernel
theorem dX6_place_4 : decode cX6_place 4 = .ok (.iload_n 1, 1) := by decide +kernel
theorem dX6_place_5 : decode cX6_place 5 = .ok (.iload_n 2, 1) := by decide +kernel
theorem dX6_place_6 : decode cX6_place 6 = .ok (.iastore, 1) := by decide +kernel
theorem dX6_place_7 : decode cX6_place 7 = .ok (.aload_n 0, 1) := by decide +kernel
theorem dX6_place_8 : decode cX6_place 8 = .ok (.getfield 18, 3) := by decide +kernel
theorem dX6_place_11 : decode cX6_place 11 = .ok (.iload_n 1, 1) := by decide +kernel
theorem dX6_place_12 : decode cX6_place 12 = .ok (.iconst 0, 1) := by decide +kernel
theorem dX6_place_13 : decode cX6_place 13 = .ok (.iastore, 1) := by decide +kernel
theorem dX6_place_14 : decode cX6_place 14 = .ok (.return_, 1) := by decide +kernel
theorem dX6_endDeals_0 : decode cX6_endDeals 0 = .ok (.aload_n 0, 1) := by decide +kernel
theorem dX6_endDeals_1 : decode cX6_endDeals 1 = .ok (.invokevirtual 152, 3) := by decide +kernel
theorem dX6_endDeals_4 : decode cX6_endDeals 4 = .ok (.istore_n 3, 1) := by decide +kernel
theorem dX6_endDeals_5 : decode cX6_endDeals 5 = .ok (.iconst 0, 1) := by decide +kernel
theorem dX6_endDeals_6 : decode cX6_endDeals 6 = .ok (.istore 4, 2) := by decide +kernel
theorem dX6_endDeals_8 : decode cX6_endDeals 8 = .ok (.iload 4, 2) := by decide +kernel
theorem dX6_endDeals_10 : decode cX6_endDeals 10 = .ok (.aload_n 0, 1) := by decide +kernel
theorem dX6_endDeals_11 : decode cX6_endDeals 11 = .ok (.getfield 41, 3) := by decide +kernel
theorem dX6_endDeals_14 : decode cX6_endDeals 14 = .ok (.getfield 155, 3) := by decide +kernel
theorem dX6_endDeals_17 : decode cX6_endDeals 17 = .ok (.if_icmp .ge 67, 3) := by decide +kernel
theorem dX6_endDeals_20 : decode cX6_endDeals 20 = .ok (.iload 4, 2) := by decide +kernel
theorem dX6_endDeals_22 : decode cX6_endDeals 22 = .ok (.iconst 4, 1) := by decide +kernel
theorem dX6_endDeals_23 : decode cX6_endDeals 23 = .ok (.if_icmp .ge 61, 3) := by decide +kernel
theorem dX6_endDeals_26 : decode cX6_endDeals 26 = .ok (.aload_n 0, 1) := by decide +kernel
theorem dX6_endDeals_27 : decode cX6_endDeals 27 = .ok (.getfield 41, 3) := by decide +kernel
theorem dX6_endDeals_30 : decode cX6_endDeals 30 = .ok (.getfield 158, 3) := by decide +kernel
theorem dX6_endDeals_33 : decode cX6_endDeals 33 = .ok (.iload 4, 2) := by decide +kernel
theorem dX6_endDeals_35 : decode cX6_endDeals 35 = .ok (.iaload, 1) := by decide +kernel
theorem dX6_endDeals_36 : decode cX6_endDeals 36 = .ok (.iload_n 1, 1) := by decide +kernel
theorem dX6_endDeals_37 : decode cX6_endDeals 37 = .ok (.if_icmp .ne 41, 3) := by decide +kernel
theorem dX6_endDeals_40 : decode cX6_endDeals 40 = .ok (.iload_n 3, 1) := by decide +kernel
theorem dX6_endDeals_41 : decode cX6_endDeals 41 = .ok (.iload 4, 2) := by decide +kernel
theorem dX6_endDeals_43 : decode cX6_endDeals 43 = .ok (.ishr, 1) := by decide +kernel
theorem dX6_endDeals_44 : decode cX6_endDeals 44 = .ok (.iconst 1, 1) := by decide +kernel
theorem dX6_endDeals_45 : decode cX6_endDeals 45 = .ok (.iand, 1) := by decide +kernel
theorem dX6_endDeals_46 : decode cX6_endDeals 46 = .ok (.ifCond .eq 32, 3) := by decide +kernel
theorem dX6_endDeals_49 : decode cX6_endDeals 49 = .ok (.aload_n 0, 1) := by decide +kernel
theorem dX6_endDeals_50 : decode cX6_endDeals 50 = .ok (.getfield 27, 3) := by decide +kernel
theorem dX6_endDeals_53 : decode cX6_endDeals 53 = .ok (.iload 4, 2) := by decide +kernel
theorem dX6_endDeals_55 : decode cX6_endDeals 55 = .ok (.iload_n 2, 1) := by decide +kernel
theorem dX6_endDeals_56 : decode cX6_endDeals 56 = .ok (.aload_n 0, 1) := by decide +kernel
theorem dX6_endDeals_57 : decode cX6_endDeals 57 = .ok (.getfield 41, 3) := by decide +kernel
theorem dX6_endDeals_60 : decode cX6_endDeals 60 = .ok (.getfield 161, 3) := by decide +kernel
theorem dX6_endDeals_63 : decode cX6_endDeals 63 = .ok (.iload 4, 2) := by decide +kernel
theorem dX6_endDeals_65 : decode cX6_endDeals 65 = .ok (.iaload, 1) := by decide +kernel
theorem dX6_endDeals_66 : decode cX6_endDeals 66 = .ok (.ishr, 1) := by decide +kernel
theorem dX6_endDeals_67 : decode cX6_endDeals 67 = .ok (.iconst 1, 1) := by decide +kernel
theorem dX6_endDeals_68 : decode cX6_endDeals 68 = .ok (.iand, 1) := by decide +kernel
theorem dX6_endDeals_69 : decode cX6_endDeals 69 = .ok (.ifCond .eq 7, 3) := by decide +kernel
theorem dX6_endDeals_72 : decode cX6_endDeals 72 = .ok (.iconst 2, 1) := by decide +kernel
theorem dX6_endDeals_73 : decode cX6_endDeals 73 = .ok (.goto 4, 3) := by decide +kernel
theorem dX6_endDeals_76 : decode cX6_endDeals 76 = .ok (.iconst 3, 1) := by decide +kernel
theorem dX6_endDeals_77 : decode cX6_endDeals 77 = .ok (.iastore, 1) := by decide +kernel
theorem dX6_endDeals_78 : decode cX6_endDeals 78 = .ok (.iinc 4 1, 3) := by decide +kernel
theorem dX6_endDeals_81 : decode cX6_endDeals 81 = .ok (.goto (-73), 3) := by decide +kernel
theorem dX6_endDeals_84 : decode cX6_endDeals 84 = .ok (.return_, 1) := by decide +kernel
theorem dX6_keepVote_0 : decode cX6_keepVote 0 = .ok (.aload_n 0, 1) := by decide +kernel
theorem dX6_keepVote_1 : decode cX6_keepVote 1 = .ok (.getfield 49, 3) := by decide +kernel
theorem dX6_keepVote_4 : decode cX6_keepVote 4 = .ok (.iconst 4, 1) := by decide +kernel
theorem dX6_keepVote_5 : decode cX6_keepVote 5 = .ok (.if_icmp .ge 99, 3) := by decide +kernel
theorem dX6_keepVote_8 : decode cX6_keepVote 8 = .ok (.aload_n 0, 1) := by decide +kernel
theorem dX6_keepVote_9 : decode cX6_keepVote 9 = .ok (.getfield 49, 3) := by decide +kernel
theorem dX6_keepVote_12 : decode cX6_keepVote 12 = .ok (.bipush 6, 2) := by decide +kernel
theorem dX6_keepVote_14 : decode cX6_keepVote 14 = .ok (.imul, 1) := by decide +kernel
theorem dX6_keepVote_15 : decode cX6_keepVote 15 = .ok (.istore 4, 2) := by decide +kernel
theorem dX6_keepVote_17 : decode cX6_keepVote 17 = .ok (.aload_n 0, 1) := by decide +kernel
theorem dX6_keepVote_18 : decode cX6_keepVote 18 = .ok (.getfield 30, 3) := by decide +kernel
theorem dX6_keepVote_21 : decode cX6_keepVote 21 = .ok (.iload 4, 2) := by decide +kernel
theorem dX6_keepVote_23 : decode cX6_keepVote 23 = .ok (.aload_n 0, 1) := by decide +kernel
theorem dX6_keepVote_24 : decode cX6_keepVote 24 = .ok (.getfield 45, 3) := by decide +kernel
theorem dX6_keepVote_27 : decode cX6_keepVote 27 = .ok (.iconst 1, 1) := by decide +kernel
theorem dX6_keepVote_28 : decode cX6_keepVote 28 = .ok (.iadd, 1) := by decide +kernel
theorem dX6_keepVote_29 : decode cX6_keepVote 29 = .ok (.iastore, 1) := by decide +kernel
theorem dX6_keepVote_30 : decode cX6_keepVote 30 = .ok (.aload_n 0, 1) := by decide +kernel
theorem dX6_keepVote_31 : decode cX6_keepVote 31 = .ok (.getfield 30, 3) := by decide +kernel
theorem dX6_keepVote_34 : decode cX6_keepVote 34 = .ok (.iload 4, 2) := by decide +kernel
theorem dX6_keepVote_36 : decode cX6_keepVote 36 = .ok (.iconst 1, 1) := by decide +kernel
theorem dX6_keepVote_37 : decode cX6_keepVote 37 = .ok (.iadd, 1) := by decide +kernel
theorem dX6_keepVote_38 : decode cX6_keepVote 38 = .ok (.iload_n 1, 1) := by decide +kernel
theorem dX6_keepVote_39 : decode cX6_keepVote 39 = .ok (.iastore, 1) := by decide +kernel
theorem dX6_keepVote_40 : decode cX6_keepVote 40 = .ok (.aload_n 0, 1) := by decide +kernel
theorem dX6_keepVote_41 : decode cX6_keepVote 41 = .ok (.getfield 30, 3) := by decide +kernel
theorem dX6_keepVote_44 : decode cX6_keepVote 44 = .ok (.iload 4, 2) := by decide +kernel
theorem dX6_keepVote_46 : decode cX6_keepVote 46 = .ok (.iconst 2, 1) := by decide +kernel
theorem dX6_keepVote_47 : decode cX6_keepVote 47 = .ok (.iadd, 1) := by decide +kernel
theorem dX6_keepVote_48 : decode cX6_keepVote 48 = .ok (.iload_n 2, 1) := by decide +kernel
theorem dX6_keepVote_49 : decode cX6_keepVote 49 = .ok (.iastore, 1) := by decide +kernel
theorem dX6_keepVote_50 : decode cX6_keepVote 50 = .ok (.aload_n 0, 1) := by decide +kernel
theorem dX6_keepVote_51 : decode cX6_keepVote 51 = .ok (.getfield 30, 3) := by decide +kernel
theorem dX6_keepVote_54 : decode cX6_keepVote 54 = .ok (.iload 4, 2) := by decide +kernel
theorem dX6_keepVote_56 : decode cX6_keepVote 56 = .ok (.iconst 3, 1) := by decide +kernel
theorem dX6_keepVote_57 : decode cX6_keepVote 57 = .ok (.iadd, 1) := by decide +kernel
theorem dX6_keepVote_58 : decode cX6_keepVote 58 = .ok (.iload_n 3, 1) := by decide +kernel
theorem dX6_keepVote_59 : decode cX6_keepVote 59 = .ok (.iastore, 1) := by decide +kernel
theorem dX6_keepVote_60 : decode cX6_keepVote 60 = .ok (.aload_n 0, 1) := by decide +kernel
theorem dX6_keepVote_61 : decode cX6_keepVote 61 = .ok (.getfield 30, 3) := by decide +kernel
theorem dX6_keepVote_64 : decode cX6_keepVote 64 = .ok (.iload 4, 2) := by decide +kernel
theorem dX6_keepVote_66 : decode cX6_keepVote 66 = .ok (.iconst 4, 1) := by decide +kernel
theorem dX6_keepVote_67 : decode cX6_keepVote 67 = .ok (.iadd, 1) := by decide +kernel
theorem dX6_keepVote_68 : decode cX6_keepVote 68 = .ok (.aload_n 0, 1) := by decide +kernel
theorem dX6_keepVote_69 : decode cX6_keepVote 69 = .ok (.invokevirtual 164, 3) := by decide +kernel
theorem dX6_keepVote_72 : decode cX6_keepVote 72 = .ok (.aload_n 0, 1) := by decide +kernel
theorem dX6_keepVote_73 : decode cX6_keepVote 73 = .ok (.invokevirtual 121, 3) := by decide +kernel
theorem dX6_keepVote_76 : decode cX6_keepVote 76 = .ok (.iconst (-1), 1) := by decide +kernel
theorem dX6_keepVote_77 : decode cX6_keepVote 77 = .ok (.ixor, 1) := by decide +kernel
theorem dX6_keepVote_78 : decode cX6_keepVote 78 = .ok (.iand, 1) := by decide +kernel
theorem dX6_keepVote_79 : decode cX6_keepVote 79 = .ok (.iastore, 1) := by decide +kernel
theorem dX6_keepVote_80 : decode cX6_keepVote 80 = .ok (.aload_n 0, 1) := by decide +kernel
theorem dX6_keepVote_81 : decode cX6_keepVote 81 = .ok (.getfield 30, 3) := by decide +kernel
theorem dX6_keepVote_84 : decode cX6_keepVote 84 = .ok (.iload 4, 2) := by decide +kernel
theorem dX6_keepVote_86 : decode cX6_keepVote 86 = .ok (.iconst 5, 1) := by decide +kernel
theorem dX6_keepVote_87 : decode cX6_keepVote 87 = .ok (.iadd, 1) := by decide +kernel
theorem dX6_keepVote_88 : decode cX6_keepVote 88 = .ok (.aload_n 0, 1) := by decide +kernel
theorem dX6_keepVote_89 : decode cX6_keepVote 89 = .ok (.getfield 24, 3) := by decide +kernel
theorem dX6_keepVote_92 : decode cX6_keepVote 92 = .ok (.iload_n 1, 1) := by decide +kernel
theorem dX6_keepVote_93 : decode cX6_keepVote 93 = .ok (.iaload, 1) := by decide +kernel
theorem dX6_keepVote_94 : decode cX6_keepVote 94 = .ok (.iconst 2, 1) := by decide +kernel
theorem dX6_keepVote_95 : decode cX6_keepVote 95 = .ok (.if_icmp .ne 7, 3) := by decide +kernel
theorem dX6_keepVote_98 : decode cX6_keepVote 98 = .ok (.iconst 1, 1) := by decide +kernel
theorem dX6_keepVote_99 : decode cX6_keepVote 99 = .ok (.goto 4, 3) := by decide +kernel
theorem dX6_keepVote_102 : decode cX6_keepVote 102 = .ok (.iconst 0, 1) := by decide +kernel
theorem dX6_keepVote_103 : decode cX6_keepVote 103 = .ok (.iastore, 1) := by decide +kernel
theorem dX6_keepVote_104 : decode cX6_keepVote 104 = .ok (.aload_n 0, 1) := by decide +kernel
theorem dX6_keepVote_105 : decode cX6_keepVote 105 = .ok (.dup, 1) := by decide +kernel
theorem dX6_keepVote_106 : decode cX6_keepVote 106 = .ok (.getfield 49, 3) := by decide +kernel
theorem dX6_keepVote_109 : decode cX6_keepVote 109 = .ok (.iconst 1, 1) := by decide +kernel
theorem dX6_keepVote_110 : decode cX6_keepVote 110 = .ok (.iadd, 1) := by decide +kernel
theorem dX6_keepVote_111 : decode cX6_keepVote 111 = .ok (.putfield 49, 3) := by decide +kernel
theorem dX6_keepVote_114 : decode cX6_keepVote 114 = .ok (.return_, 1) := by decide +kernel
theorem dX6_overMinute_0 : decode cX6_overMinute 0 = .ok (.aload_n 0, 1) := by decide +kernel
theorem dX6_overMinute_1 : decode cX6_overMinute 1 = .ok (.dup, 1) := by decide +kernel
theorem dX6_overMinute_2 : decode cX6_overMinute 2 = .ok (.getfield 45, 3) := by decide +kernel
theorem dX6_overMinute_5 : decode cX6_overMinute 5 = .ok (.iconst 1, 1) := by decide +kernel
theorem dX6_overMinute_6 : decode cX6_overMinute 6 = .ok (.iadd, 1) := by decide +kernel
theorem dX6_overMinute_7 : decode cX6_overMinute 7 = .ok (.putfield 45, 3) := by decide +kernel
theorem dX6_overMinute_10 : decode cX6_overMinute 10 = .ok (.iconst 0, 1) := by decide +kernel
theorem dX6_overMinute_11 : decode cX6_overMinute 11 = .ok (.istore_n 1, 1) := by decide +kernel
theorem dX6_overMinute_12 : decode cX6_overMinute 12 = .ok (.iload_n 1, 1) := by decide +kernel
theorem dX6_overMinute_13 : decode cX6_overMinute 13 = .ok (.aload_n 0, 1) := by decide +kernel
theorem dX6_overMinute_14 : decode cX6_overMinute 14 = .ok (.getfield 41, 3) := by decide +kernel
theorem dX6_overMinute_17 : decode cX6_overMinute 17 = .ok (.getfield 111, 3) := by decide +kernel
theorem dX6_overMinute_20 : decode cX6_overMinute 20 = .ok (.getfield 167, 3) := by decide +kernel
theorem dX6_overMinute_23 : decode cX6_overMinute 23 = .ok (.if_icmp .ge 40, 3) := by decide +kernel
theorem dX6_overMinute_26 : decode cX6_overMinute 26 = .ok (.aload_n 0, 1) := by decide +kernel
theorem dX6_overMinute_27 : decode cX6_overMinute 27 = .ok (.iload_n 1, 1) := by decide +kernel
theorem dX6_overMinute_28 : decode cX6_overMinute 28 = .ok (.invokevirtual 108, 3) := by decide +kernel
theorem dX6_overMinute_31 : decode cX6_overMinute 31 = .ok (.ifCond .eq 26, 3) := by decide +kernel
theorem dX6_overMinute_34 : decode cX6_overMinute 34 = .ok (.aload_n 0, 1) := by decide +kernel
theorem dX6_overMinute_35 : decode cX6_overMinute 35 = .ok (.getfield 41, 3) := by decide +kernel
theorem dX6_overMinute_38 : decode cX6_overMinute 38 = .ok (.getfield 170, 3) := by decide +kernel
theorem dX6_overMinute_41 : decode cX6_overMinute 41 = .ok (.iload_n 1, 1) := by decide +kernel
theorem dX6_overMinute_42 : decode cX6_overMinute 42 = .ok (.iaload, 1) := by decide +kernel
theorem dX6_overMinute_43 : decode cX6_overMinute 43 = .ok (.aload_n 0, 1) := by decide +kernel
theorem dX6_overMinute_44 : decode cX6_overMinute 44 = .ok (.getfield 45, 3) := by decide +kernel
theorem dX6_overMinute_47 : decode cX6_overMinute 47 = .ok (.if_icmp .ne 10, 3) := by decide +kernel
theorem dX6_overMinute_50 : decode cX6_overMinute 50 = .ok (.aload_n 0, 1) := by decide +kernel
theorem dX6_overMinute_51 : decode cX6_overMinute 51 = .ok (.getfield 24, 3) := by decide +kernel
theorem dX6_overMinute_54 : decode cX6_overMinute 54 = .ok (.iload_n 1, 1) := by decide +kernel
theorem dX6_overMinute_55 : decode cX6_overMinute 55 = .ok (.iconst 3, 1) := by decide +kernel
theorem dX6_overMinute_56 : decode cX6_overMinute 56 = .ok (.iastore, 1) := by decide +kernel
theorem dX6_overMinute_57 : decode cX6_overMinute 57 = .ok (.iinc 1 1, 3) := by decide +kernel
theorem dX6_overMinute_60 : decode cX6_overMinute 60 = .ok (.goto (-48), 3) := by decide +kernel
theorem dX6_overMinute_63 : decode cX6_overMinute 63 = .ok (.iconst 0, 1) := by decide +kernel
theorem dX6_overMinute_64 : decode cX6_overMinute 64 = .ok (.istore_n 1, 1) := by decide +kernel
theorem dX6_overMinute_65 : decode cX6_overMinute 65 = .ok (.iload_n 1, 1) := by decide +kernel
theorem dX6_overMinute_66 : decode cX6_overMinute 66 = .ok (.aload_n 0, 1) := by decide +kernel
theorem dX6_overMinute_67 : decode cX6_overMinute 67 = .ok (.getfield 41, 3) := by decide +kernel
theorem dX6_overMinute_70 : decode cX6_overMinute 70 = .ok (.getfield 78, 3) := by decide +kernel
theorem dX6_overMinute_73 : decode cX6_overMinute 73 = .ok (.getfield 167, 3) := by decide +kernel
theorem dX6_overMinute_76 : decode cX6_overMinute 76 = .ok (.if_icmp .ge 14, 3) := by decide +kernel
theorem dX6_overMinute_79 : decode cX6_overMinute 79 = .ok (.aload_n 0, 1) := by decide +kernel
theorem dX6_overMinute_80 : decode cX6_overMinute 80 = .ok (.iload_n 1, 1) := by decide +kernel
theorem dX6_overMinute_81 : decode cX6_overMinute 81 = .ok (.invokevirtual 173, 3) := by decide +kernel
theorem dX6_overMinute_84 : decode cX6_overMinute 84 = .ok (.iinc 1 1, 3) := by decide +kernel
theorem dX6_overMinute_87 : decode cX6_overMinute 87 = .ok (.goto (-22), 3) := by decide +kernel
theorem dX6_overMinute_90 : decode cX6_overMinute 90 = .ok (.iconst 0, 1) := by decide +kernel
theorem dX6_overMinute_91 : decode cX6_overMinute 91 = .ok (.istore_n 1, 1) := by decide +kernel
theorem dX6_overMinute_92 : decode cX6_overMinute 92 = .ok (.iload_n 1, 1) := by decide +kernel
theorem dX6_overMinute_93 : decode cX6_overMinute 93 = .ok (.aload_n 0, 1) := by decide +kernel
theorem dX6_overMinute_94 : decode cX6_overMinute 94 = .ok (.getfield 41, 3) := by decide +kernel
theorem dX6_overMinute_97 : decode cX6_overMinute 97 = .ok (.getfield 78, 3) := by decide +kernel
theorem dX6_overMinute_100 : decode cX6_overMinute 100 = .ok (.getfield 167, 3) := by decide +kernel
theorem dX6_overMinute_103 : decode cX6_overMinute 103 = .ok (.if_icmp .ge 42, 3) := by decide +kernel
theorem dX6_overMinute_106 : decode cX6_overMinute 106 = .ok (.aload_n 0, 1) := by decide +kernel
theorem dX6_overMinute_107 : decode cX6_overMinute 107 = .ok (.getfield 9, 3) := by decide +kernel
theorem dX6_overMinute_110 : decode cX6_overMinute 110 = .ok (.iload_n 1, 1) := by decide +kernel
theorem dX6_overMinute_111 : decode cX6_overMinute 111 = .ok (.iaload, 1) := by decide +kernel
theorem dX6_overMinute_112 : decode cX6_overMinute 112 = .ok (.iconst (-1), 1) := by decide +kernel
theorem dX6_overMinute_113 : decode cX6_overMinute 113 = .ok (.if_icmp .ne 26, 3) := by decide +kernel
theorem dX6_overMinute_116 : decode cX6_overMinute 116 = .ok (.aload_n 0, 1) := by decide +kernel
theorem dX6_overMinute_117 : decode cX6_overMinute 117 = .ok (.getfield 15, 3) := by decide +kernel
theorem dX6_overMinute_120 : decode cX6_overMinute 120 = .ok (.iload_n 1, 1) := by decide +kernel
theorem dX6_overMinute_121 : decode cX6_overMinute 121 = .ok (.iaload, 1) := by decide +kernel
theorem dX6_overMinute_122 : decode cX6_overMinute 122 = .ok (.aload_n 0, 1) := by decide +kernel
theorem dX6_overMinute_123 : decode cX6_overMinute 123 = .ok (.getfield 41, 3) := by decide +kernel
theorem dX6_overMinute_126 : decode cX6_overMinute 126 = .ok (.getfield 105, 3) := by decide +kernel
theorem dX6_overMinute_129 : decode cX6_overMinute 129 = .ok (.iload_n 1, 1) := by decide +kernel
theorem dX6_overMinute_130 : decode cX6_overMinute 130 = .ok (.iaload, 1) := by decide +kernel
theorem dX6_overMinute_131 : decode cX6_overMinute 131 = .ok (.if_icmp .lt 8, 3) := by decide +kernel
theorem dX6_overMinute_134 : decode cX6_overMinute 134 = .ok (.aload_n 0, 1) := by decide +kernel
theorem dX6_overMinute_135 : decode cX6_overMinute 135 = .ok (.iload_n 1, 1) := by decide +kernel
theorem dX6_overMinute_136 : decode cX6_overMinute 136 = .ok (.invokevirtual 177, 3) := by decide +kernel
theorem dX6_overMinute_139 : decode cX6_overMinute 139 = .ok (.iinc 1 1, 3) := by decide +kernel
theorem dX6_overMinute_142 : decode cX6_overMinute 142 = .ok (.goto (-50), 3) := by decide +kernel
theorem dX6_overMinute_145 : decode cX6_overMinute 145 = .ok (.aload_n 0, 1) := by decide +kernel
theorem dX6_overMinute_146 : decode cX6_overMinute 146 = .ok (.invokevirtual 180, 3) := by decide +kernel
theorem dX6_overMinute_149 : decode cX6_overMinute 149 = .ok (.aload_n 0, 1) := by decide +kernel
theorem dX6_overMinute_150 : decode cX6_overMinute 150 = .ok (.getfield 45, 3) := by decide +kernel
theorem dX6_overMinute_153 : decode cX6_overMinute 153 = .ok (.ireturn, 1) := by decide +kernel
theorem dX6_tireOrRest_0 : decode cX6_tireOrRest 0 = .ok (.aload_n 0, 1) := by decide +kernel
theorem dX6_tireOrRest_1 : decode cX6_tireOrRest 1 = .ok (.getfield 9, 3) := by decide +kernel
theorem dX6_tireOrRest_4 : decode cX6_tireOrRest 4 = .ok (.iload_n 1, 1) := by decide +kernel
theorem dX6_tireOrRest_5 : decode cX6_tireOrRest 5 = .ok (.iaload, 1) := by decide +kernel
theorem dX6_tireOrRest_6 : decode cX6_tireOrRest 6 = .ok (.iconst (-1), 1) := by decide +kernel
theorem dX6_tireOrRest_7 : decode cX6_tireOrRest 7 = .ok (.if_icmp .ne 32, 3) := by decide +kernel
theorem dX6_tireOrRest_10 : decode cX6_tireOrRest 10 = .ok (.aload_n 0, 1) := by decide +kernel
theorem dX6_tireOrRest_11 : decode cX6_tireOrRest 11 = .ok (.getfield 15, 3) := by decide +kernel
theorem dX6_tireOrRest_14 : decode cX6_tireOrRest 14 = .ok (.iload_n 1, 1) := by decide +kernel
theorem dX6_tireOrRest_15 : decode cX6_tireOrRest 15 = .ok (.aload_n 0, 1) := by decide +kernel
theorem dX6_tireOrRest_16 : decode cX6_tireOrRest 16 = .ok (.getfield 15, 3) := by decide +kernel
theorem dX6_tireOrRest_19 : decode cX6_tireOrRest 19 = .ok (.iload_n 1, 1) := by decide +kernel
theorem dX6_tireOrRest_20 : decode cX6_tireOrRest 20 = .ok (.iaload, 1) := by decide +kernel
theorem dX6_tireOrRest_21 : decode cX6_tireOrRest 21 = .ok (.iconst 1, 1) := by decide +kernel
theorem dX6_tireOrRest_22 : decode cX6_tireOrRest 22 = .ok (.iadd, 1) := by decide +kernel
theorem dX6_tireOrRest_23 : decode cX6_tireOrRest 23 = .ok (.aload_n 0, 1) := by decide +kernel
theorem dX6_tireOrRest_24 : decode cX6_tireOrRest 24 = .ok (.getfield 41, 3) := by decide +kernel
theorem dX6_tireOrRest_27 : decode cX6_tireOrRest 27 = .ok (.getfield 105, 3) := by decide +kernel
theorem dX6_tireOrRest_30 : decode cX6_tireOrRest 30 = .ok (.iload_n 1, 1) := by decide +kernel
theorem dX6_tireOrRest_31 : decode cX6_tireOrRest 31 = .ok (.iaload, 1) := by decide +kernel
theorem dX6_tireOrRest_32 : decode cX6_tireOrRest 32 = .ok (.invokestatic 183, 3) := by decide +kernel
theorem dX6_tireOrRest_35 : decode cX6_tireOrRest 35 = .ok (.iastore, 1) := by decide +kernel
theorem dX6_tireOrRest_36 : decode cX6_tireOrRest 36 = .ok (.goto 40, 3) := by decide +kernel
theorem dX6_tireOrRest_39 : decode cX6_tireOrRest 39 = .ok (.aload_n 0, 1) := by decide +kernel
theorem dX6_tireOrRest_40 : decode cX6_tireOrRest 40 = .ok (.getfield 9, 3) := by decide +kernel
theorem dX6_tireOrRest_43 : decode cX6_tireOrRest 43 = .ok (.iload_n 1, 1) := by decide +kernel
theorem dX6_tireOrRest_44 : decode cX6_tireOrRest 44 = .ok (.iaload, 1) := by decide +kernel
theorem dX6_tireOrRest_45 : decode cX6_tireOrRest 45 = .ok (.ifCond .lt 31, 3) := by decide +kernel
theorem dX6_tireOrRest_48 : decode cX6_tireOrRest 48 = .ok (.aload_n 0, 1) := by decide +kernel
theorem dX6_tireOrRest_49 : decode cX6_tireOrRest 49 = .ok (.getfield 15, 3) := by decide +kernel
theorem dX6_tireOrRest_52 : decode cX6_tireOrRest 52 = .ok (.iload_n 1, 1) := by decide +kernel
theorem dX6_tireOrRest_53 : decode cX6_tireOrRest 53 = .ok (.aload_n 0, 1) := by decide +kernel
theorem dX6_tireOrRest_54 : decode cX6_tireOrRest 54 = .ok (.getfield 15, 3) := by decide +kernel
theorem dX6_tireOrRest_57 : decode cX6_tireOrRest 57 = .ok (.iload_n 1, 1) := by decide +kernel
theorem dX6_tireOrRest_58 : decode cX6_tireOrRest 58 = .ok (.iaload, 1) := by decide +kernel
theorem dX6_tireOrRest_59 : decode cX6_tireOrRest 59 = .ok (.iconst 2, 1) := by decide +kernel
theorem dX6_tireOrRest_60 : decode cX6_tireOrRest 60 = .ok (.isub, 1) := by decide +kernel
theorem dX6_tireOrRest_61 : decode cX6_tireOrRest 61 = .ok (.iconst 0, 1) := by decide +kernel
theorem dX6_tireOrRest_62 : decode cX6_tireOrRest 62 = .ok (.invokestatic 189, 3) := by decide +kernel
theorem dX6_tireOrRest_65 : decode cX6_tireOrRest 65 = .ok (.iastore, 1) := by decide +kernel
theorem dX6_tireOrRest_66 : decode cX6_tireOrRest 66 = .ok (.aload_n 0, 1) := by decide +kernel
theorem dX6_tireOrRest_67 : decode cX6_tireOrRest 67 = .ok (.getfield 18, 3) := by decide +kernel
theorem dX6_tireOrRest_70 : decode cX6_tireOrRest 70 = .ok (.iload_n 1, 1) := by decide +kernel
theorem dX6_tireOrRest_71 : decode cX6_tireOrRest 71 = .ok (.dup2, 1) := by decide +kernel
theorem dX6_tireOrRest_72 : decode cX6_tireOrRest 72 = .ok (.iaload, 1) := by decide +kernel
theorem dX6_tireOrRest_73 : decode cX6_tireOrRest 73 = .ok (.iconst 1, 1) := by decide +kernel
theorem dX6_tireOrRest_74 : decode cX6_tireOrRest 74 = .ok (.iadd, 1) := by decide +kernel
theorem dX6_tireOrRest_75 : decode cX6_tireOrRest 75 = .ok (.iastore, 1) := by decide +kernel
theorem dX6_tireOrRest_76 : decode cX6_tireOrRest 76 = .ok (.return_, 1) := by decide +kernel
theorem dX6_sink_0 : decode cX6_sink 0 = .ok (.iconst 0, 1) := by decide +kernel
theorem dX6_sink_1 : decode cX6_sink 1 = .ok (.istore_n 2, 1) := by decide +kernel
theorem dX6_sink_2 : decode cX6_sink 2 = .ok (.iload_n 2, 1) := by decide +kernel
theorem dX6_sink_3 : decode cX6_sink 3 = .ok (.aload_n 0, 1) := by decide +kernel
theorem dX6_sink_4 : decode cX6_sink 4 = .ok (.getfield 41, 3) := by decide +kernel
theorem dX6_sink_7 : decode cX6_sink 7 = .ok (.getfield 192, 3) := by decide +kernel
theorem dX6_sink_10 : decode cX6_sink 10 = .ok (.getfield 167, 3) := by decide +kernel
theorem dX6_sink_13 : decode cX6_sink 13 = .ok (.if_icmp .ge 34, 3) := by decide +kernel
theorem dX6_sink_16 : decode cX6_sink 16 = .ok (.aload_n 0, 1) := by decide +kernel
theorem dX6_sink_17 : decode cX6_sink 17 = .ok (.iload_n 2, 1) := by decide +kernel
theorem dX6_sink_18 : decode cX6_sink 18 = .ok (.invokevirtual 102, 3) := by decide +kernel
theorem dX6_sink_21 : decode cX6_sink 21 = .ok (.ifCond .eq 20, 3) := by decide +kernel
theorem dX6_sink_24 : decode cX6_sink 24 = .ok (.aload_n 0, 1) := by decide +kernel
theorem dX6_sink_25 : decode cX6_sink 25 = .ok (.iload_n 1, 1) := by decide +kernel
theorem dX6_sink_26 : decode cX6_sink 26 = .ok (.iload_n 2, 1) := by decide +kernel
theorem dX6_sink_27 : decode cX6_sink 27 = .ok (.invokevirtual 91, 3) := by decide +kernel
theorem dX6_sink_30 : decode cX6_sink 30 = .ok (.aload_n 0, 1) := by decide +kernel
theorem dX6_sink_31 : decode cX6_sink 31 = .ok (.dup, 1) := by decide +kernel
theorem dX6_sink_32 : decode cX6_sink 32 = .ok (.getfield 52, 3) := by decide +kernel
theorem dX6_sink_35 : decode cX6_sink 35 = .ok (.iconst 1, 1) := by decide +kernel
theorem dX6_sink_36 : decode cX6_sink 36 = .ok (.iadd, 1) := by decide +kernel
theorem dX6_sink_37 : decode cX6_sink 37 = .ok (.putfield 52, 3) := by decide +kernel
theorem dX6_sink_40 : decode cX6_sink 40 = .ok (.return_, 1) := by decide +kernel
theorem dX6_sink_41 : decode cX6_sink 41 = .ok (.iinc 2 1, 3) := by decide +kernel
theorem dX6_sink_44 : decode cX6_sink 44 = .ok (.goto (-42), 3) := by decide +kernel
theorem dX6_sink_47 : decode cX6_sink 47 = .ok (.return_, 1) := by decide +kernel
theorem dX6_keepSeats_0 : decode cX6_keepSeats 0 = .ok (.aload_n 0, 1) := by decide +kernel
theorem dX6_keepSeats_1 : decode cX6_keepSeats 1 = .ok (.getfield 45, 3) := by decide +kernel
theorem dX6_keepSeats_4 : decode cX6_keepSeats 4 = .ok (.iconst 1, 1) := by decide +kernel
theorem dX6_keepSeats_5 : decode cX6_keepSeats 5 = .ok (.if_icmp .lt 13, 3) := by decide +kernel
theorem dX6_keepSeats_8 : decode cX6_keepSeats 8 = .ok (.aload_n 0, 1) := by decide +kernel
theorem dX6_keepSeats_9 : decode cX6_keepSeats 9 = .ok (.getfield 45, 3) := by decide +kernel
theorem dX6_keepSeats_12 : decode cX6_keepSeats 12 = .ok (.sipush 200, 3) := by decide +kernel
theorem dX6_keepSeats_15 : decode cX6_keepSeats 15 = .ok (.if_icmp .le 4, 3) := by decide +kernel
theorem dX6_keepSeats_18 : decode cX6_keepSeats 18 = .ok (.return_, 1) := by decide +kernel
theorem dX6_keepSeats_19 : decode cX6_keepSeats 19 = .ok (.lconst 0, 1) := by decide +kernel
theorem dX6_keepSeats_20 : decode cX6_keepSeats 20 = .ok (.lstore_n 1, 1) := by decide +kernel
theorem dX6_keepSeats_21 : decode cX6_keepSeats 21 = .ok (.iconst 0, 1) := by decide +kernel
theorem dX6_keepSeats_22 : decode cX6_keepSeats 22 = .ok (.istore_n 3, 1) := by decide +kernel
theorem dX6_keepSeats_23 : decode cX6_keepSeats 23 = .ok (.iload_n 3, 1) := by decide +kernel
theorem dX6_keepSeats_24 : decode cX6_keepSeats 24 = .ok (.aload_n 0, 1) := by decide +kernel
theorem dX6_keepSeats_25 : decode cX6_keepSeats 25 = .ok (.getfield 41, 3) := by decide +kernel
theorem dX6_keepSeats_28 : decode cX6_keepSeats 28 = .ok (.getfield 78, 3) := by decide +kernel
theorem dX6_keepSeats_31 : decode cX6_keepSeats 31 = .ok (.getfield 167, 3) := by decide +kernel
theorem dX6_keepSeats_34 : decode cX6_keepSeats 34 = .ok (.if_icmp .ge 34, 3) := by decide +kernel
theorem dX6_keepSeats_37 : decode cX6_keepSeats 37 = .ok (.aload_n 0, 1) := by decide +kernel
theorem dX6_keepSeats_38 : decode cX6_keepSeats 38 = .ok (.getfield 9, 3) := by decide +kernel
theorem dX6_keepSeats_41 : decode cX6_keepSeats 41 = .ok (.iload_n 3, 1) := by decide +kernel
theorem dX6_keepSeats_42 : decode cX6_keepSeats 42 = .ok (.iaload, 1) := by decide +kernel
theorem dX6_keepSeats_43 : decode cX6_keepSeats 43 = .ok (.ifCond .lt 19, 3) := by decide +kernel
theorem dX6_keepSeats_46 : decode cX6_keepSeats 46 = .ok (.lload_n 1, 1) := by decide +kernel
theorem dX6_keepSeats_47 : decode cX6_keepSeats 47 = .ok (.lconst 1, 1) := by decide +kernel
theorem dX6_keepSeats_48 : decode cX6_keepSeats 48 = .ok (.aload_n 0, 1) := by decide +kernel
theorem dX6_keepSeats_49 : decode cX6_keepSeats 49 = .ok (.getfield 9, 3) := by decide +kernel
theorem dX6_keepSeats_52 : decode cX6_keepSeats 52 = .ok (.iload_n 3, 1) := by decide +kernel
theorem dX6_keepSeats_53 : decode cX6_keepSeats 53 = .ok (.iaload, 1) := by decide +kernel
theorem dX6_keepSeats_54 : decode cX6_keepSeats 54 = .ok (.bipush 6, 2) := by decide +kernel
theorem dX6_keepSeats_56 : decode cX6_keepSeats 56 = .ok (.imul, 1) := by decide +kernel
theorem dX6_keepSeats_57 : decode cX6_keepSeats 57 = .ok (.iload_n 3, 1) := by decide +kernel
theorem dX6_keepSeats_58 : decode cX6_keepSeats 58 = .ok (.iadd, 1) := by decide +kernel
theorem dX6_keepSeats_59 : decode cX6_keepSeats 59 = .ok (.lshl, 1) := by decide +kernel
theorem dX6_keepSeats_60 : decode cX6_keepSeats 60 = .ok (.lor, 1) := by decide +kernel
theorem dX6_keepSeats_61 : decode cX6_keepSeats 61 = .ok (.lstore_n 1, 1) := by decide +kernel
theorem dX6_keepSeats_62 : decode cX6_keepSeats 62 = .ok (.iinc 3 1, 3) := by decide +kernel
theorem dX6_keepSeats_65 : decode cX6_keepSeats 65 = .ok (.goto (-42), 3) := by decide +kernel
theorem dX6_keepSeats_68 : decode cX6_keepSeats 68 = .ok (.aload_n 0, 1) := by decide +kernel
theorem dX6_keepSeats_69 : decode cX6_keepSeats 69 = .ok (.getfield 33, 3) := by decide +kernel
theorem dX6_keepSeats_72 : decode cX6_keepSeats 72 = .ok (.aload_n 0, 1) := by decide +kernel
theorem dX6_keepSeats_73 : decode cX6_keepSeats 73 = .ok (.getfield 45, 3) := by decide +kernel
theorem dX6_keepSeats_76 : decode cX6_keepSeats 76 = .ok (.iconst 1, 1) := by decide +kernel
theorem dX6_keepSeats_77 : decode cX6_keepSeats 77 = .ok (.isub, 1) := by decide +kernel
theorem dX6_keepSeats_78 : decode cX6_keepSeats 78 = .ok (.lload_n 1, 1) := by decide +kernel
theorem dX6_keepSeats_79 : decode cX6_keepSeats 79 = .ok (.lastore, 1) := by decide +kernel
theorem dX6_keepSeats_80 : decode cX6_keepSeats 80 = .ok (.return_, 1) := by decide +kernel
theorem dX6_setBroken_0 : decode cX6_setBroken 0 = .ok (.aload_n 0, 1) := by decide +kernel
theorem dX6_setBroken_1 : decode cX6_setBroken 1 = .ok (.getfield 41, 3) := by decide +kernel
theorem dX6_setBroken_4 : decode cX6_setBroken 4 = .ok (.getfield 192, 3) := by decide +kernel
theorem dX6_setBroken_7 : decode cX6_setBroken 7 = .ok (.iload_n 1, 1) := by decide +kernel
theorem dX6_setBroken_8 : decode cX6_setBroken 8 = .ok (.invokevirtual 82, 3) := by decide +kernel
theorem dX6_setBroken_11 : decode cX6_setBroken 11 = .ok (.ifCond .eq 12, 3) := by decide +kernel
theorem dX6_setBroken_14 : decode cX6_setBroken 14 = .ok (.aload_n 0, 1) := by decide +kernel
theorem dX6_setBroken_15 : decode cX6_setBroken 15 = .ok (.iload_n 1, 1) := by decide +kernel
theorem dX6_setBroken_16 : decode cX6_setBroken 16 = .ok (.invokevirtual 195, 3) := by decide +kernel
theorem dX6_setBroken_19 : decode cX6_setBroken 19 = .ok (.iload_n 2, 1) := by decide +kernel
theorem dX6_setBroken_20 : decode cX6_setBroken 20 = .ok (.if_icmp .ne 5, 3) := by decide +kernel
theorem dX6_setBroken_23 : decode cX6_setBroken 23 = .ok (.iconst (-1), 1) := by decide +kernel
theorem dX6_setBroken_24 : decode cX6_setBroken 24 = .ok (.ireturn, 1) := by decide +kernel
theorem dX6_setBroken_25 : decode cX6_setBroken 25 = .ok (.aload_n 0, 1) := by decide +kernel
theorem dX6_setBroken_26 : decode cX6_setBroken 26 = .ok (.dup, 1) := by decide +kernel
theorem dX6_setBroken_27 : decode cX6_setBroken 27 = .ok (.getfield 55, 3) := by decide +kernel
theorem dX6_setBroken_30 : decode cX6_setBroken 30 = .ok (.iconst 1, 1) := by decide +kernel
theorem dX6_setBroken_31 : decode cX6_setBroken 31 = .ok (.iload_n 1, 1) := by decide +kernel
theorem dX6_setBroken_32 : decode cX6_setBroken 32 = .ok (.ishl, 1) := by decide +kernel
theorem dX6_setBroken_33 : decode cX6_setBroken 33 = .ok (.ixor, 1) := by decide +kernel
theorem dX6_setBroken_34 : decode cX6_setBroken 34 = .ok (.putfield 55, 3) := by decide +kernel
theorem dX6_setBroken_37 : decode cX6_setBroken 37 = .ok (.iconst 0, 1) := by decide +kernel
theorem dX6_setBroken_38 : decode cX6_setBroken 38 = .ok (.istore_n 3, 1) := by decide +kernel
theorem dX6_setBroken_39 : decode cX6_setBroken 39 = .ok (.iconst 0, 1) := by decide +kernel
theorem dX6_setBroken_40 : decode cX6_setBroken 40 = .ok (.istore 4, 2) := by decide +kernel
theorem dX6_setBroken_42 : decode cX6_setBroken 42 = .ok (.iload 4, 2) := by decide +kernel
theorem dX6_setBroken_44 : decode cX6_setBroken 44 = .ok (.aload_n 0, 1) := by decide +kernel
theorem dX6_setBroken_45 : decode cX6_setBroken 45 = .ok (.getfield 41, 3) := by decide +kernel
theorem dX6_setBroken_48 : decode cX6_setBroken 48 = .ok (.getfield 78, 3) := by decide +kernel
theorem dX6_setBroken_51 : decode cX6_setBroken 51 = .ok (.getfield 167, 3) := by decide +kernel
theorem dX6_setBroken_54 : decode cX6_setBroken 54 = .ok (.if_icmp .ge 30, 3) := by decide +kernel
theorem dX6_setBroken_57 : decode cX6_setBroken 57 = .ok (.aload_n 0, 1) := by decide +kernel
theorem dX6_setBroken_58 : decode cX6_setBroken 58 = .ok (.getfield 9, 3) := by decide +kernel
theorem dX6_setBroken_61 : decode cX6_setBroken 61 = .ok (.iload 4, 2) := by decide +kernel
theorem dX6_setBroken_63 : decode cX6_setBroken 63 = .ok (.iaload, 1) := by decide +kernel
theorem dX6_setBroken_64 : decode cX6_setBroken 64 = .ok (.iload_n 1, 1) := by decide +kernel
theorem dX6_setBroken_65 : decode cX6_setBroken 65 = .ok (.if_icmp .ne 13, 3) := by decide +kernel
theorem dX6_setBroken_68 : decode cX6_setBroken 68 = .ok (.aload_n 0, 1) := by decide +kernel
theorem dX6_setBroken_69 : decode cX6_setBroken 69 = .ok (.iload 4, 2) := by decide +kernel
theorem dX6_setBroken_71 : decode cX6_setBroken 71 = .ok (.iconst (-1), 1) := by decide +kernel
theorem dX6_setBroken_72 : decode cX6_setBroken 72 = .ok (.invokevirtual 91, 3) := by decide +kernel
theorem dX6_setBroken_75 : decode cX6_setBroken 75 = .ok (.iinc 3 1, 3) := by decide +kernel
theorem dX6_setBroken_78 : decode cX6_setBroken 78 = .ok (.iinc 4 1, 3) := by decide +kernel
theorem dX6_setBroken_81 : decode cX6_setBroken 81 = .ok (.goto (-39), 3) := by decide +kernel
theorem dX6_setBroken_84 : decode cX6_setBroken 84 = .ok (.iload_n 3, 1) := by decide +kernel
theorem dX6_setBroken_85 : decode cX6_setBroken 85 = .ok (.ireturn, 1) := by decide +kernel
theorem dX6_findStool_0 : decode cX6_findStool 0 = .ok (.aload_n 0, 1) := by decide +kernel
theorem dX6_findStool_1 : decode cX6_findStool 1 = .ok (.getfield 41, 3) := by decide +kernel
theorem dX6_findStool_4 : decode cX6_findStool 4 = .ok (.iload_n 1, 1) := by decide +kernel
theorem dX6_findStool_5 : decode cX6_findStool 5 = .ok (.invokevirtual 198, 3) := by decide +kernel
theorem dX6_findStool_8 : decode cX6_findStool 8 = .ok (.ifCond .eq 11, 3) := by decide +kernel
theorem dX6_findStool_11 : decode cX6_findStool 11 = .ok (.aload_n 0, 1) := by decide +kernel
theorem dX6_findStool_12 : decode cX6_findStool 12 = .ok (.iload_n 1, 1) := by decide +kernel
theorem dX6_findStool_13 : decode cX6_findStool 13 = .ok (.invokevirtual 201, 3) := by decide +kernel
theorem dX6_findStool_16 : decode cX6_findStool 16 = .ok (.ifCond .eq 5, 3) := by decide +kernel
theorem dX6_findStool_19 : decode cX6_findStool 19 = .ok (.iconst 0, 1) := by decide +kernel
theorem dX6_findStool_20 : decode cX6_findStool 20 = .ok (.ireturn, 1) := by decide +kernel
theorem dX6_findStool_21 : decode cX6_findStool 21 = .ok (.aload_n 0, 1) := by decide +kernel
theorem dX6_findStool_22 : decode cX6_findStool 22 = .ok (.dup, 1) := by decide +kernel
theorem dX6_findStool_23 : decode cX6_findStool 23 = .ok (.getfield 58, 3) := by decide +kernel
theorem dX6_findStool_26 : decode cX6_findStool 26 = .ok (.iconst 1, 1) := by decide +kernel
theorem dX6_findStool_27 : decode cX6_findStool 27 = .ok (.iload_n 1, 1) := by decide +kernel
theorem dX6_findStool_28 : decode cX6_findStool 28 = .ok (.ishl, 1) := by decide +kernel
theorem dX6_findStool_29 : decode cX6_findStool 29 = .ok (.ior, 1) := by decide +kernel
theorem dX6_findStool_30 : decode cX6_findStool 30 = .ok (.putfield 58, 3) := by decide +kernel
theorem dX6_findStool_33 : decode cX6_findStool 33 = .ok (.iconst 1, 1) := by decide +kernel
theorem dX6_findStool_34 : decode cX6_findStool 34 = .ok (.ireturn, 1) := by decide +kernel
theorem dX6_isAtDoor_0 : decode cX6_isAtDoor 0 = .ok (.aload_n 0, 1) := by decide +kernel
theorem dX6_isAtDoor_1 : decode cX6_isAtDoor 1 = .ok (.getfield 41, 3) := by decide +kernel
theorem dX6_isAtDoor_4 : decode cX6_isAtDoor 4 = .ok (.getfield 78, 3) := by decide +kernel
theorem dX6_isAtDoor_7 : decode cX6_isAtDoor 7 = .ok (.iload_n 1, 1) := by decide +kernel
theorem dX6_isAtDoor_8 : decode cX6_isAtDoor 8 = .ok (.invokevirtual 82, 3) := by decide +kernel
theorem dX6_isAtDoor_11 : decode cX6_isAtDoor 11 = .ok (.ifCond .eq 18, 3) := by decide +kernel
theorem dX6_isAtDoor_14 : decode cX6_isAtDoor 14 = .ok (.aload_n 0, 1) := by decide +kernel
theorem dX6_isAtDoor_15 : decode cX6_isAtDoor 15 = .ok (.getfield 9, 3) := by decide +kernel
theorem dX6_isAtDoor_18 : decode cX6_isAtDoor 18 = .ok (.iload_n 1, 1) := by decide +kernel
theorem dX6_isAtDoor_19 : decode cX6_isAtDoor 19 = .ok (.iaload, 1) := by decide +kernel
theorem dX6_isAtDoor_20 : decode cX6_isAtDoor 20 = .ok (.bipush (-2), 2) := by decide +kernel
theorem dX6_isAtDoor_22 : decode cX6_isAtDoor 22 = .ok (.if_icmp .ne 7, 3) := by decide +kernel
theorem dX6_isAtDoor_25 : decode cX6_isAtDoor 25 = .ok (.iconst 1, 1) := by decide +kernel
theorem dX6_isAtDoor_26 : decode cX6_isAtDoor 26 = .ok (.goto 4, 3) := by decide +kernel
theorem dX6_isAtDoor_29 : decode cX6_isAtDoor 29 = .ok (.iconst 0, 1) := by decide +kernel
theorem dX6_isAtDoor_30 : decode cX6_isAtDoor 30 = .ok (.ireturn, 1) := by decide +kernel
theorem dX6_stands_0 : decode cX6_stands 0 = .ok (.aload_n 0, 1) := by decide +kernel
theorem dX6_stands_1 : decode cX6_stands 1 = .ok (.getfield 41, 3) := by decide +kernel
theorem dX6_stands_4 : decode cX6_stands 4 = .ok (.getfield 78, 3) := by decide +kernel
theorem dX6_stands_7 : decode cX6_stands 7 = .ok (.iload_n 1, 1) := by decide +kernel
theorem dX6_stands_8 : decode cX6_stands 8 = .ok (.invokevirtual 82, 3) := by decide +kernel
theorem dX6_stands_11 : decode cX6_stands 11 = .ok (.ifCond .eq 17, 3) := by decide +kernel
theorem dX6_stands_14 : decode cX6_stands 14 = .ok (.aload_n 0, 1) := by decide +kernel
theorem dX6_stands_15 : decode cX6_stands 15 = .ok (.getfield 9, 3) := by decide +kernel
theorem dX6_stands_18 : decode cX6_stands 18 = .ok (.iload_n 1, 1) := by decide +kernel
theorem dX6_stands_19 : decode cX6_stands 19 = .ok (.iaload, 1) := by decide +kernel
theorem dX6_stands_20 : decode cX6_stands 20 = .ok (.iconst (-1), 1) := by decide +kernel
theorem dX6_stands_21 : decode cX6_stands 21 = .ok (.if_icmp .ne 7, 3) := by decide +kernel
theorem dX6_stands_24 : decode cX6_stands 24 = .ok (.iconst 1, 1) := by decide +kernel
theorem dX6_stands_25 : decode cX6_stands 25 = .ok (.goto 4, 3) := by decide +kernel
theorem dX6_stands_28 : decode cX6_stands 28 = .ok (.iconst 0, 1) := by decide +kernel
theorem dX6_stands_29 : decode cX6_stands 29 = .ok (.ireturn, 1) := by decide +kernel
theorem dX6_posture_0 : decode cX6_posture 0 = .ok (.aload_n 0, 1) := by decide +kernel
theorem dX6_posture_1 : decode cX6_posture 1 = .ok (.getfield 9, 3) := by decide +kernel
theorem dX6_posture_4 : decode cX6_posture 4 = .ok (.iload_n 1, 1) := by decide +kernel
theorem dX6_posture_5 : decode cX6_posture 5 = .ok (.iaload, 1) := by decide +kernel
theorem dX6_posture_6 : decode cX6_posture 6 = .ok (.bipush (-2), 2) := by decide +kernel
theorem dX6_posture_8 : decode cX6_posture 8 = .ok (.if_icmp .ne 7, 3) := by decide +kernel
theorem dX6_posture_11 : decode cX6_posture 11 = .ok (.iconst 2, 1) := by decide +kernel
theorem dX6_posture_12 : decode cX6_posture 12 = .ok (.goto 18, 3) := by decide +kernel
theorem dX6_posture_15 : decode cX6_posture 15 = .ok (.aload_n 0, 1) := by decide +kernel
theorem dX6_posture_16 : decode cX6_posture 16 = .ok (.getfield 9, 3) := by decide +kernel
theorem dX6_posture_19 : decode cX6_posture 19 = .ok (.iload_n 1, 1) := by decide +kernel
theorem dX6_posture_20 : decode cX6_posture 20 = .ok (.iaload, 1) := by decide +kernel
theorem dX6_posture_21 : decode cX6_posture 21 = .ok (.iconst (-1), 1) := by decide +kernel
theorem dX6_posture_22 : decode cX6_posture 22 = .ok (.if_icmp .ne 7, 3) := by decide +kernel
theorem dX6_posture_25 : decode cX6_posture 25 = .ok (.iconst 0, 1) := by decide +kernel
theorem dX6_posture_26 : decode cX6_posture 26 = .ok (.goto 4, 3) := by decide +kernel
theorem dX6_posture_29 : decode cX6_posture 29 = .ok (.iconst 1, 1) := by decide +kernel
theorem dX6_posture_30 : decode cX6_posture 30 = .ok (.ireturn, 1) := by decide +kernel
theorem dX6_naps_0 : decode cX6_naps 0 = .ok (.aload_n 0, 1) := by decide +kernel
theorem dX6_naps_1 : decode cX6_naps 1 = .ok (.getfield 9, 3) := by decide +kernel
theorem dX6_naps_4 : decode cX6_naps 4 = .ok (.iload_n 1, 1) := by decide +kernel
theorem dX6_naps_5 : decode cX6_naps 5 = .ok (.iaload, 1) := by decide +kernel
theorem dX6_naps_6 : decode cX6_naps 6 = .ok (.ifCond .lt 33, 3) := by decide +kernel
theorem dX6_naps_9 : decode cX6_naps 9 = .ok (.aload_n 0, 1) := by decide +kernel
theorem dX6_naps_10 : decode cX6_naps 10 = .ok (.getfield 41, 3) := by decide +kernel
theorem dX6_naps_13 : decode cX6_naps 13 = .ok (.getfield 204, 3) := by decide +kernel
theorem dX6_naps_16 : decode cX6_naps 16 = .ok (.ifCond .le 23, 3) := by decide +kernel
theorem dX6_naps_19 : decode cX6_naps 19 = .ok (.aload_n 0, 1) := by decide +kernel
theorem dX6_naps_20 : decode cX6_naps 20 = .ok (.getfield 18, 3) := by decide +kernel
theorem dX6_naps_23 : decode cX6_naps 23 = .ok (.iload_n 1, 1) := by decide +kernel
theorem dX6_naps_24 : decode cX6_naps 24 = .ok (.iaload, 1) := by decide +kernel
theorem dX6_naps_25 : decode cX6_naps 25 = .ok (.aload_n 0, 1) := by decide +kernel
theorem dX6_naps_26 : decode cX6_naps 26 = .ok (.getfield 41, 3) := by decide +kernel
theorem dX6_naps_29 : decode cX6_naps 29 = .ok (.getfield 204, 3) := by decide +kernel
theorem dX6_naps_32 : decode cX6_naps 32 = .ok (.if_icmp .lt 7, 3) := by decide +kernel
theorem dX6_naps_35 : decode cX6_naps 35 = .ok (.iconst 1, 1) := by decide +kernel
theorem dX6_naps_36 : decode cX6_naps 36 = .ok (.goto 4, 3) := by decide +kernel
theorem dX6_naps_39 : decode cX6_naps 39 = .ok (.iconst 0, 1) := by decide +kernel
theorem dX6_naps_40 : decode cX6_naps 40 = .ok (.ireturn, 1) := by decide +kernel
theorem dX6_isBroken_0 : decode cX6_isBroken 0 = .ok (.aload_n 0, 1) := by decide +kernel
theorem dX6_isBroken_1 : decode cX6_isBroken 1 = .ok (.getfield 55, 3) := by decide +kernel
theorem dX6_isBroken_4 : decode cX6_isBroken 4 = .ok (.iload_n 1, 1) := by decide +kernel
theorem dX6_isBroken_5 : decode cX6_isBroken 5 = .ok (.ishr, 1) := by decide +kernel
theorem dX6_isBroken_6 : decode cX6_isBroken 6 = .ok (.iconst 1, 1) := by decide +kernel
theorem dX6_isBroken_7 : decode cX6_isBroken 7 = .ok (.iand, 1) := by decide +kernel
theorem dX6_isBroken_8 : decode cX6_isBroken 8 = .ok (.ifCond .eq 7, 3) := by decide +kernel
theorem dX6_isBroken_11 : decode cX6_isBroken 11 = .ok (.iconst 1, 1) := by decide +kernel
theorem dX6_isBroken_12 : decode cX6_isBroken 12 = .ok (.goto 4, 3) := by decide +kernel
theorem dX6_isBroken_15 : decode cX6_isBroken 15 = .ok (.iconst 0, 1) := by decide +kernel
theorem dX6_isBroken_16 : decode cX6_isBroken 16 = .ok (.ireturn, 1) := by decide +kernel
theorem dX6_isFound_0 : decode cX6_isFound 0 = .ok (.aload_n 0, 1) := by decide +kernel
theorem dX6_isFound_1 : decode cX6_isFound 1 = .ok (.getfield 58, 3) := by decide +kernel
theorem dX6_isFound_4 : decode cX6_isFound 4 = .ok (.iload_n 1, 1) := by decide +kernel
theorem dX6_isFound_5 : decode cX6_isFound 5 = .ok (.ishr, 1) := by decide +kernel
theorem dX6_isFound_6 : decode cX6_isFound 6 = .ok (.iconst 1, 1) := by decide +kernel
theorem dX6_isFound_7 : decode cX6_isFound 7 = .ok (.iand, 1) := by decide +kernel
theorem dX6_isFound_8 : decode cX6_isFound 8 = .ok (.ifCond .eq 7, 3) := by decide +kernel
theorem dX6_isFound_11 : decode cX6_isFound 11 = .ok (.iconst 1, 1) := by decide +kernel
theorem dX6_isFound_12 : decode cX6_isFound 12 = .ok (.goto 4, 3) := by decide +kernel
theorem dX6_isFound_15 : decode cX6_isFound 15 = .ok (.iconst 0, 1) := by decide +kernel
theorem dX6_isFound_16 : decode cX6_isFound 16 = .ok (.ireturn, 1) := by decide +kernel
theorem dX6_hasPlace_0 : decode cX6_hasPlace 0 = .ok (.aload_n 0, 1) := by decide +kernel
theorem dX6_hasPlace_1 : decode cX6_hasPlace 1 = .ok (.getfield 41, 3) := by decide +kernel
theorem dX6_hasPlace_4 : decode cX6_hasPlace 4 = .ok (.getfield 192, 3) := by decide +kernel
theorem dX6_hasPlace_7 : decode cX6_hasPlace 7 = .ok (.iload_n 1, 1) := by decide +kernel
theorem dX6_hasPlace_8 : decode cX6_hasPlace 8 = .ok (.invokevirtual 82, 3) := by decide +kernel
theorem dX6_hasPlace_11 : decode cX6_hasPlace 11 = .ok (.ifCond .eq 35, 3) := by decide +kernel
theorem dX6_hasPlace_14 : decode cX6_hasPlace 14 = .ok (.aload_n 0, 1) := by decide +kernel
theorem dX6_hasPlace_15 : decode cX6_hasPlace 15 = .ok (.iload_n 1, 1) := by decide +kernel
theorem dX6_hasPlace_16 : decode cX6_hasPlace 16 = .ok (.invokevirtual 195, 3) := by decide +kernel
theorem dX6_hasPlace_19 : decode cX6_hasPlace 19 = .ok (.ifCond .ne 27, 3) := by decide +kernel
theorem dX6_hasPlace_22 : decode cX6_hasPlace 22 = .ok (.aload_n 0, 1) := by decide +kernel
theorem dX6_hasPlace_23 : decode cX6_hasPlace 23 = .ok (.iload_n 1, 1) := by decide +kernel
theorem dX6_hasPlace_24 : decode cX6_hasPlace 24 = .ok (.invokevirtual 207, 3) := by decide +kernel
theorem dX6_hasPlace_27 : decode cX6_hasPlace 27 = .ok (.invokestatic 124, 3) := by decide +kernel
theorem dX6_hasPlace_30 : decode cX6_hasPlace 30 = .ok (.aload_n 0, 1) := by decide +kernel
theorem dX6_hasPlace_31 : decode cX6_hasPlace 31 = .ok (.getfield 41, 3) := by decide +kernel
theorem dX6_hasPlace_34 : decode cX6_hasPlace 34 = .ok (.getfield 210, 3) := by decide +kernel
theorem dX6_hasPlace_37 : decode cX6_hasPlace 37 = .ok (.iload_n 1, 1) := by decide +kernel
theorem dX6_hasPlace_38 : decode cX6_hasPlace 38 = .ok (.iaload, 1) := by decide +kernel
theorem dX6_hasPlace_39 : decode cX6_hasPlace 39 = .ok (.if_icmp .ge 7, 3) := by decide +kernel
theorem dX6_hasPlace_42 : decode cX6_hasPlace 42 = .ok (.iconst 1, 1) := by decide +kernel
theorem dX6_hasPlace_43 : decode cX6_hasPlace 43 = .ok (.goto 4, 3) := by decide +kernel
theorem dX6_hasPlace_46 : decode cX6_hasPlace 46 = .ok (.iconst 0, 1) := by decide +kernel
theorem dX6_hasPlace_47 : decode cX6_hasPlace 47 = .ok (.ireturn, 1) := by decide +kernel
theorem dX6_isAlive_0 : decode cX6_isAlive 0 = .ok (.aload_n 0, 1) := by decide +kernel
theorem dX6_isAlive_1 : decode cX6_isAlive 1 = .ok (.getfield 41, 3) := by decide +kernel
theorem dX6_isAlive_4 : decode cX6_isAlive 4 = .ok (.getfield 111, 3) := by decide +kernel
theorem dX6_isAlive_7 : decode cX6_isAlive 7 = .ok (.iload_n 1, 1) := by decide +kernel
theorem dX6_isAlive_8 : decode cX6_isAlive 8 = .ok (.invokevirtual 82, 3) := by decide +kernel
theorem dX6_isAlive_11 : decode cX6_isAlive 11 = .ok (.ifCond .eq 26, 3) := by decide +kernel
theorem dX6_isAlive_14 : decode cX6_isAlive 14 = .ok (.aload_n 0, 1) := by decide +kernel
theorem dX6_isAlive_15 : decode cX6_isAlive 15 = .ok (.getfield 24, 3) := by decide +kernel
theorem dX6_isAlive_18 : decode cX6_isAlive 18 = .ok (.iload_n 1, 1) := by decide +kernel
theorem dX6_isAlive_19 : decode cX6_isAlive 19 = .ok (.iaload, 1) := by decide +kernel
theorem dX6_isAlive_20 : decode cX6_isAlive 20 = .ok (.ifCond .eq 13, 3) := by decide +kernel
theorem dX6_isAlive_23 : decode cX6_isAlive 23 = .ok (.aload_n 0, 1) := by decide +kernel
theorem dX6_isAlive_24 : decode cX6_isAlive 24 = .ok (.getfield 24, 3) := by decide +kernel
theorem dX6_isAlive_27 : decode cX6_isAlive 27 = .ok (.iload_n 1, 1) := by decide +kernel
theorem dX6_isAlive_28 : decode cX6_isAlive 28 = .ok (.iaload, 1) := by decide +kernel
theorem dX6_isAlive_29 : decode cX6_isAlive 29 = .ok (.iconst 1, 1) := by decide +kernel
theorem dX6_isAlive_30 : decode cX6_isAlive 30 = .ok (.if_icmp .ne 7, 3) := by decide +kernel
theorem dX6_isAlive_33 : decode cX6_isAlive 33 = .ok (.iconst 1, 1) := by decide +kernel
theorem dX6_isAlive_34 : decode cX6_isAlive 34 = .ok (.goto 4, 3) := by decide +kernel
theorem dX6_isAlive_37 : decode cX6_isAlive 37 = .ok (.iconst 0, 1) := by decide +kernel
theorem dX6_isAlive_38 : decode cX6_isAlive 38 = .ok (.ireturn, 1) := by decide +kernel
theorem dX6_sitters_0 : decode cX6_sitters 0 = .ok (.iconst 0, 1) := by decide +kernel
theorem dX6_sitters_1 : decode cX6_sitters 1 = .ok (.istore_n 2, 1) := by decide +kernel
theorem dX6_sitters_2 : decode cX6_sitters 2 = .ok (.iconst 0, 1) := by decide +kernel
theorem dX6_sitters_3 : decode cX6_sitters 3 = .ok (.istore_n 3, 1) := by decide +kernel
theorem dX6_sitters_4 : decode cX6_sitters 4 = .ok (.iload_n 3, 1) := by decide +kernel
theorem dX6_sitters_5 : decode cX6_sitters 5 = .ok (.aload_n 0, 1) := by decide +kernel
theorem dX6_sitters_6 : decode cX6_sitters 6 = .ok (.getfield 41, 3) := by decide +kernel
theorem dX6_sitters_9 : decode cX6_sitters 9 = .ok (.getfield 78, 3) := by decide +kernel
theorem dX6_sitters_12 : decode cX6_sitters 12 = .ok (.getfield 167, 3) := by decide +kernel
theorem dX6_sitters_15 : decode cX6_sitters 15 = .ok (.if_icmp .ge 25, 3) := by decide +kernel
theorem dX6_sitters_18 : decode cX6_sitters 18 = .ok (.aload_n 0, 1) := by decide +kernel
theorem dX6_sitters_19 : decode cX6_sitters 19 = .ok (.getfield 9, 3) := by decide +kernel
theorem dX6_sitters_22 : decode cX6_sitters 22 = .ok (.iload_n 3, 1) := by decide +kernel
theorem dX6_sitters_23 : decode cX6_sitters 23 = .ok (.iaload, 1) := by decide +kernel
theorem dX6_sitters_24 : decode cX6_sitters 24 = .ok (.iload_n 1, 1) := by decide +kernel
theorem dX6_sitters_25 : decode cX6_sitters 25 = .ok (.if_icmp .ne 9, 3) := by decide +kernel
theorem dX6_sitters_28 : decode cX6_sitters 28 = .ok (.iload_n 2, 1) := by decide +kernel
theorem dX6_sitters_29 : decode cX6_sitters 29 = .ok (.iconst 1, 1) := by decide +kernel
theorem dX6_sitters_30 : decode cX6_sitters 30 = .ok (.iload_n 3, 1) := by decide +kernel
theorem dX6_sitters_31 : decode cX6_sitters 31 = .ok (.ishl, 1) := by decide +kernel
theorem dX6_sitters_32 : decode cX6_sitters 32 = .ok (.ior, 1) := by decide +kernel
theorem dX6_sitters_33 : decode cX6_sitters 33 = .ok (.istore_n 2, 1) := by decide +kernel
theorem dX6_sitters_34 : decode cX6_sitters 34 = .ok (.iinc 3 1, 3) := by decide +kernel
theorem dX6_sitters_37 : decode cX6_sitters 37 = .ok (.goto (-33), 3) := by decide +kernel
theorem dX6_sitters_40 : decode cX6_sitters 40 = .ok (.iload_n 2, 1) := by decide +kernel
theorem dX6_sitters_41 : decode cX6_sitters 41 = .ok (.ireturn, 1) := by decide +kernel
theorem dX6_allMen_0 : decode cX6_allMen 0 = .ok (.iconst 1, 1) := by decide +kernel
theorem dX6_allMen_1 : decode cX6_allMen 1 = .ok (.aload_n 0, 1) := by decide +kernel
theorem dX6_allMen_2 : decode cX6_allMen 2 = .ok (.getfield 41, 3) := by decide +kernel
theorem dX6_allMen_5 : decode cX6_allMen 5 = .ok (.getfield 78, 3) := by decide +kernel
theorem dX6_allMen_8 : decode cX6_allMen 8 = .ok (.getfield 167, 3) := by decide +kernel
theorem dX6_allMen_11 : decode cX6_allMen 11 = .ok (.ishl, 1) := by decide +kernel
theorem dX6_allMen_12 : decode cX6_allMen 12 = .ok (.iconst 1, 1) := by decide +kernel
theorem dX6_allMen_13 : decode cX6_allMen 13 = .ok (.isub, 1) := by decide +kernel
theorem dX6_allMen_14 : decode cX6_allMen 14 = .ok (.ireturn, 1) := by decide +kernel
theorem dX6_inHall_0 : decode cX6_inHall 0 = .ok (.aload_n 0, 1) := by decide +kernel
theorem dX6_inHall_1 : decode cX6_inHall 1 = .ok (.invokevirtual 164, 3) := by decide +kernel
theorem dX6_inHall_4 : decode cX6_inHall 4 = .ok (.aload_n 0, 1) := by decide +kernel
theorem dX6_inHall_5 : decode cX6_inHall 5 = .ok (.bipush (-2), 2) := by decide +kernel
theorem dX6_inHall_7 : decode cX6_inHall 7 = .ok (.invokevirtual 207, 3) := by decide +kernel
theorem dX6_inHall_10 : decode cX6_inHall 10 = .ok (.iconst (-1), 1) := by decide +kernel
theorem dX6_inHall_11 : decode cX6_inHall 11 = .ok (.ixor, 1) := by decide +kernel
theorem dX6_inHall_12 : decode cX6_inHall 12 = .ok (.iand, 1) := by decide +kernel
theorem dX6_inHall_13 : decode cX6_inHall 13 = .ok (.ireturn, 1) := by decide +kernel
theorem dX6_inChairs_0 : decode cX6_inChairs 0 = .ok (.aload_n 0, 1) := by decide +kernel
theorem dX6_inChairs_1 : decode cX6_inChairs 1 = .ok (.invokevirtual 129, 3) := by decide +kernel
theorem dX6_inChairs_4 : decode cX6_inChairs 4 = .ok (.aload_n 0, 1) := by decide +kernel
theorem dX6_inChairs_5 : decode cX6_inChairs 5 = .ok (.iconst (-1), 1) := by decide +kernel
theorem dX6_inChairs_6 : decode cX6_inChairs 6 = .ok (.invokevirtual 207, 3) := by decide +kernel
theorem dX6_inChairs_9 : decode cX6_inChairs 9 = .ok (.iconst (-1), 1) := by decide +kernel
theorem dX6_inChairs_10 : decode cX6_inChairs 10 = .ok (.ixor, 1) := by decide +kernel
theorem dX6_inChairs_11 : decode cX6_inChairs 11 = .ok (.iand, 1) := by decide +kernel
theorem dX6_inChairs_12 : decode cX6_inChairs 12 = .ok (.ireturn, 1) := by decide +kernel
theorem dX6_seats_0 : decode cX6_seats 0 = .ok (.iconst 0, 1) := by decide +kernel
theorem dX6_seats_1 : decode cX6_seats 1 = .ok (.istore_n 1, 1) := by decide +kernel
theorem dX6_seats_2 : decode cX6_seats 2 = .ok (.iconst 0, 1) := by decide +kernel
theorem dX6_seats_3 : decode cX6_seats 3 = .ok (.istore_n 2, 1) := by decide +kernel
theorem dX6_seats_4 : decode cX6_seats 4 = .ok (.iload_n 2, 1) := by decide +kernel
theorem dX6_seats_5 : decode cX6_seats 5 = .ok (.aload_n 0, 1) := by decide +kernel
theorem dX6_seats_6 : decode cX6_seats 6 = .ok (.getfield 41, 3) := by decide +kernel
theorem dX6_seats_9 : decode cX6_seats 9 = .ok (.getfield 192, 3) := by decide +kernel
theorem dX6_seats_12 : decode cX6_seats 12 = .ok (.getfield 167, 3) := by decide +kernel
theorem dX6_seats_15 : decode cX6_seats 15 = .ok (.if_icmp .ge 37, 3) := by decide +kernel
theorem dX6_seats_18 : decode cX6_seats 18 = .ok (.aload_n 0, 1) := by decide +kernel
theorem dX6_seats_19 : decode cX6_seats 19 = .ok (.iload_n 2, 1) := by decide +kernel
theorem dX6_seats_20 : decode cX6_seats 20 = .ok (.invokevirtual 195, 3) := by decide +kernel
theorem dX6_seats_23 : decode cX6_seats 23 = .ok (.ifCond .ne 23, 3) := by decide +kernel
theorem dX6_seats_26 : decode cX6_seats 26 = .ok (.aload_n 0, 1) := by decide +kernel
theorem dX6_seats_27 : decode cX6_seats 27 = .ok (.iload_n 2, 1) := by decide +kernel
theorem dX6_seats_28 : decode cX6_seats 28 = .ok (.invokevirtual 201, 3) := by decide +kernel
theorem dX6_seats_31 : decode cX6_seats 31 = .ok (.ifCond .ne 15, 3) := by decide +kernel
theorem dX6_seats_34 : decode cX6_seats 34 = .ok (.iload_n 1, 1) := by decide +kernel
theorem dX6_seats_35 : decode cX6_seats 35 = .ok (.aload_n 0, 1) := by decide +kernel
theorem dX6_seats_36 : decode cX6_seats 36 = .ok (.getfield 41, 3) := by decide +kernel
theorem dX6_seats_39 : decode cX6_seats 39 = .ok (.getfield 210, 3) := by decide +kernel
theorem dX6_seats_42 : decode cX6_seats 42 = .ok (.iload_n 2, 1) := by decide +kernel
theorem dX6_seats_43 : decode cX6_seats 43 = .ok (.iaload, 1) := by decide +kernel
theorem dX6_seats_44 : decode cX6_seats 44 = .ok (.iadd, 1) := by decide +kernel
theorem dX6_seats_45 : decode cX6_seats 45 = .ok (.istore_n 1, 1) := by decide +kernel
theorem dX6_seats_46 : decode cX6_seats 46 = .ok (.iinc 2 1, 3) := by decide +kernel
theorem dX6_seats_49 : decode cX6_seats 49 = .ok (.goto (-45), 3) := by decide +kernel
theorem dX6_seats_52 : decode cX6_seats 52 = .ok (.iload_n 1, 1) := by decide +kernel
theorem dX6_seats_53 : decode cX6_seats 53 = .ok (.ireturn, 1) := by decide +kernel
theorem dX6_onSeats_0 : decode cX6_onSeats 0 = .ok (.aload_n 0, 1) := by decide +kernel
theorem dX6_onSeats_1 : decode cX6_onSeats 1 = .ok (.invokevirtual 121, 3) := by decide +kernel
theorem dX6_onSeats_4 : decode cX6_onSeats 4 = .ok (.istore_n 1, 1) := by decide +kernel
theorem dX6_onSeats_5 : decode cX6_onSeats 5 = .ok (.iconst 0, 1) := by decide +kernel
theorem dX6_onSeats_6 : decode cX6_onSeats 6 = .ok (.istore_n 2, 1) := by decide +kernel
theorem dX6_onSeats_7 : decode cX6_onSeats 7 = .ok (.iload_n 2, 1) := by decide +kernel
theorem dX6_onSeats_8 : decode cX6_onSeats 8 = .ok (.aload_n 0, 1) := by decide +kernel
theorem dX6_onSeats_9 : decode cX6_onSeats 9 = .ok (.getfield 41, 3) := by decide +kernel
theorem dX6_onSeats_12 : decode cX6_onSeats 12 = .ok (.getfield 192, 3) := by decide +kernel
theorem dX6_onSeats_15 : decode cX6_onSeats 15 = .ok (.getfield 167, 3) := by decide +kernel
theorem dX6_onSeats_18 : decode cX6_onSeats 18 = .ok (.if_icmp .ge 27, 3) := by decide +kernel
theorem dX6_onSeats_21 : decode cX6_onSeats 21 = .ok (.aload_n 0, 1) := by decide +kernel
theorem dX6_onSeats_22 : decode cX6_onSeats 22 = .ok (.iload_n 2, 1) := by decide +kernel
theorem dX6_onSeats_23 : decode cX6_onSeats 23 = .ok (.invokevirtual 201, 3) := by decide +kernel
theorem dX6_onSeats_26 : decode cX6_onSeats 26 = .ok (.ifCond .eq 13, 3) := by decide +kernel
theorem dX6_onSeats_29 : decode cX6_onSeats 29 = .ok (.iload_n 1, 1) := by decide +kernel
theorem dX6_onSeats_30 : decode cX6_onSeats 30 = .ok (.aload_n 0, 1) := by decide +kernel
theorem dX6_onSeats_31 : decode cX6_onSeats 31 = .ok (.iload_n 2, 1) := by decide +kernel
theorem dX6_onSeats_32 : decode cX6_onSeats 32 = .ok (.invokevirtual 207, 3) := by decide +kernel
theorem dX6_onSeats_35 : decode cX6_onSeats 35 = .ok (.iconst (-1), 1) := by decide +kernel
theorem dX6_onSeats_36 : decode cX6_onSeats 36 = .ok (.ixor, 1) := by decide +kernel
theorem dX6_onSeats_37 : decode cX6_onSeats 37 = .ok (.iand, 1) := by decide +kernel
theorem dX6_onSeats_38 : decode cX6_onSeats 38 = .ok (.istore_n 1, 1) := by decide +kernel
theorem dX6_onSeats_39 : decode cX6_onSeats 39 = .ok (.iinc 2 1, 3) := by decide +kernel
theorem dX6_onSeats_42 : decode cX6_onSeats 42 = .ok (.goto (-35), 3) := by decide +kernel
theorem dX6_onSeats_45 : decode cX6_onSeats 45 = .ok (.iload_n 1, 1) := by decide +kernel
theorem dX6_onSeats_46 : decode cX6_onSeats 46 = .ok (.ireturn, 1) := by decide +kernel
theorem dX6_dueDeals_0 : decode cX6_dueDeals 0 = .ok (.iconst 0, 1) := by decide +kernel
theorem dX6_dueDeals_1 : decode cX6_dueDeals 1 = .ok (.istore_n 1, 1) := by decide +kernel
theorem dX6_dueDeals_2 : decode cX6_dueDeals 2 = .ok (.iconst 0, 1) := by decide +kernel
theorem dX6_dueDeals_3 : decode cX6_dueDeals 3 = .ok (.istore_n 2, 1) := by decide +kernel
theorem dX6_dueDeals_4 : decode cX6_dueDeals 4 = .ok (.iload_n 2, 1) := by decide +kernel
theorem dX6_dueDeals_5 : decode cX6_dueDeals 5 = .ok (.aload_n 0, 1) := by decide +kernel
theorem dX6_dueDeals_6 : decode cX6_dueDeals 6 = .ok (.getfield 41, 3) := by decide +kernel
theorem dX6_dueDeals_9 : decode cX6_dueDeals 9 = .ok (.getfield 155, 3) := by decide +kernel
theorem dX6_dueDeals_12 : decode cX6_dueDeals 12 = .ok (.if_icmp .ge 49, 3) := by decide +kernel
theorem dX6_dueDeals_15 : decode cX6_dueDeals 15 = .ok (.iload_n 2, 1) := by decide +kernel
theorem dX6_dueDeals_16 : decode cX6_dueDeals 16 = .ok (.iconst 4, 1) := by decide +kernel
theorem dX6_dueDeals_17 : decode cX6_dueDeals 17 = .ok (.if_icmp .ge 44, 3) := by decide +kernel
theorem dX6_dueDeals_20 : decode cX6_dueDeals 20 = .ok (.aload_n 0, 1) := by decide +kernel
theorem dX6_dueDeals_21 : decode cX6_dueDeals 21 = .ok (.getfield 21, 3) := by decide +kernel
theorem dX6_dueDeals_24 : decode cX6_dueDeals 24 = .ok (.aload_n 0, 1) := by decide +kernel
theorem dX6_dueDeals_25 : decode cX6_dueDeals 25 = .ok (.getfield 41, 3) := by decide +kernel
theorem dX6_dueDeals_28 : decode cX6_dueDeals 28 = .ok (.getfield 213, 3) := by decide +kernel
theorem dX6_dueDeals_31 : decode cX6_dueDeals 31 = .ok (.iload_n 2, 1) := by decide +kernel
theorem dX6_dueDeals_32 : decode cX6_dueDeals 32 = .ok (.iaload, 1) := by decide +kernel
theorem dX6_dueDeals_33 : decode cX6_dueDeals 33 = .ok (.iaload, 1) := by decide +kernel
theorem dX6_dueDeals_34 : decode cX6_dueDeals 34 = .ok (.aload_n 0, 1) := by decide +kernel
theorem dX6_dueDeals_35 : decode cX6_dueDeals 35 = .ok (.getfield 41, 3) := by decide +kernel
theorem dX6_dueDeals_38 : decode cX6_dueDeals 38 = .ok (.getfield 216, 3) := by decide +kernel
theorem dX6_dueDeals_41 : decode cX6_dueDeals 41 = .ok (.iload_n 2, 1) := by decide +kernel
theorem dX6_dueDeals_42 : decode cX6_dueDeals 42 = .ok (.iaload, 1) := by decide +kernel
theorem dX6_dueDeals_43 : decode cX6_dueDeals 43 = .ok (.ishr, 1) := by decide +kernel
theorem dX6_dueDeals_44 : decode cX6_dueDeals 44 = .ok (.iconst 1, 1) := by decide +kernel
theorem dX6_dueDeals_45 : decode cX6_dueDeals 45 = .ok (.iand, 1) := by decide +kernel
theorem dX6_dueDeals_46 : decode cX6_dueDeals 46 = .ok (.ifCond .eq 9, 3) := by decide +kernel
theorem dX6_dueDeals_49 : decode cX6_dueDeals 49 = .ok (.iload_n 1, 1) := by decide +kernel
theorem dX6_dueDeals_50 : decode cX6_dueDeals 50 = .ok (.iconst 1, 1) := by decide +kernel
theorem dX6_dueDeals_51 : decode cX6_dueDeals 51 = .ok (.iload_n 2, 1) := by decide +kernel
theorem dX6_dueDeals_52 : decode cX6_dueDeals 52 = .ok (.ishl, 1) := by decide +kernel
theorem dX6_dueDeals_53 : decode cX6_dueDeals 53 = .ok (.ior, 1) := by decide +kernel
theorem dX6_dueDeals_54 : decode cX6_dueDeals 54 = .ok (.istore_n 1, 1) := by decide +kernel
theorem dX6_dueDeals_55 : decode cX6_dueDeals 55 = .ok (.iinc 2 1, 3) := by decide +kernel
theorem dX6_dueDeals_58 : decode cX6_dueDeals 58 = .ok (.goto (-54), 3) := by decide +kernel
theorem dX6_dueDeals_61 : decode cX6_dueDeals 61 = .ok (.iload_n 1, 1) := by decide +kernel
theorem dX6_dueDeals_62 : decode cX6_dueDeals 62 = .ok (.ireturn, 1) := by decide +kernel
theorem dX6_dealState_0 : decode cX6_dealState 0 = .ok (.iload_n 1, 1) := by decide +kernel
theorem dX6_dealState_1 : decode cX6_dealState 1 = .ok (.ifCond .lt 19, 3) := by decide +kernel
theorem dX6_dealState_4 : decode cX6_dealState 4 = .ok (.iload_n 1, 1) := by decide +kernel
theorem dX6_dealState_5 : decode cX6_dealState 5 = .ok (.aload_n 0, 1) := by decide +kernel
theorem dX6_dealState_6 : decode cX6_dealState 6 = .ok (.getfield 41, 3) := by decide +kernel
theorem dX6_dealState_9 : decode cX6_dealState 9 = .ok (.getfield 155, 3) := by decide +kernel
theorem dX6_dealState_12 : decode cX6_dealState 12 = .ok (.if_icmp .ge 8, 3) := by decide +kernel
theorem dX6_dealState_15 : decode cX6_dealState 15 = .ok (.iload_n 1, 1) := by decide +kernel
theorem dX6_dealState_16 : decode cX6_dealState 16 = .ok (.iconst 4, 1) := by decide +kernel
theorem dX6_dealState_17 : decode cX6_dealState 17 = .ok (.if_icmp .lt 5, 3) := by decide +kernel
theorem dX6_dealState_20 : decode cX6_dealState 20 = .ok (.iconst (-1), 1) := by decide +kernel
theorem dX6_dealState_21 : decode cX6_dealState 21 = .ok (.ireturn, 1) := by decide +kernel
theorem dX6_dealState_22 : decode cX6_dealState 22 = .ok (.aload_n 0, 1) := by decide +kernel
theorem dX6_dealState_23 : decode cX6_dealState 23 = .ok (.getfield 27, 3) := by decide +kernel
theorem dX6_dealState_26 : decode cX6_dealState 26 = .ok (.iload_n 1, 1) := by decide +kernel
theorem dX6_dealState_27 : decode cX6_dealState 27 = .ok (.iaload, 1) := by decide +kernel
theorem dX6_dealState_28 : decode cX6_dealState 28 = .ok (.ifCond .eq 12, 3) := by decide +kernel
theorem dX6_dealState_31 : decode cX6_dealState 31 = .ok (.aload_n 0, 1) := by decide +kernel
theorem dX6_dealState_32 : decode cX6_dealState 32 = .ok (.getfield 27, 3) := by decide +kernel
theorem dX6_dealState_35 : decode cX6_dealState 35 = .ok (.iload_n 1, 1) := by decide +kernel
theorem dX6_dealState_36 : decode cX6_dealState 36 = .ok (.iaload, 1) := by decide +kernel
theorem dX6_dealState_37 : decode cX6_dealState 37 = .ok (.goto 13, 3) := by decide +kernel
theorem dX6_dealState_40 : decode cX6_dealState 40 = .ok (.aload_n 0, 1) := by decide +kernel
theorem dX6_dealState_41 : decode cX6_dealState 41 = .ok (.invokevirtual 152, 3) := by decide +kernel
theorem dX6_dealState_44 : decode cX6_dealState 44 = .ok (.iload_n 1, 1) := by decide +kernel
theorem dX6_dealState_45 : decode cX6_dealState 45 = .ok (.ishr, 1) := by decide +kernel
theorem dX6_dealState_46 : decode cX6_dealState 46 = .ok (.iconst 1, 1) := by decide +kernel
theorem dX6_dealState_47 : decode cX6_dealState 47 = .ok (.iand, 1) := by decide +kernel
theorem dX6_dealState_48 : decode cX6_dealState 48 = .ok (.iconst 1, 1) := by decide +kernel
theorem dX6_dealState_49 : decode cX6_dealState 49 = .ok (.imul, 1) := by decide +kernel
theorem dX6_dealState_50 : decode cX6_dealState 50 = .ok (.ireturn, 1) := by decide +kernel
theorem dX6_voters_0 : decode cX6_voters 0 = .ok (.aload_n 0, 1) := by decide +kernel
theorem dX6_voters_1 : decode cX6_voters 1 = .ok (.invokevirtual 219, 3) := by decide +kernel
theorem dX6_voters_4 : decode cX6_voters 4 = .ok (.istore_n 1, 1) := by decide +kernel
theorem dX6_voters_5 : decode cX6_voters 5 = .ok (.iconst 0, 1) := by decide +kernel
theorem dX6_voters_6 : decode cX6_voters 6 = .ok (.istore_n 2, 1) := by decide +kernel
theorem dX6_voters_7 : decode cX6_voters 7 = .ok (.iload_n 2, 1) := by decide +kernel
theorem dX6_voters_8 : decode cX6_voters 8 = .ok (.aload_n 0, 1) := by decide +kernel
theorem dX6_voters_9 : decode cX6_voters 9 = .ok (.getfield 41, 3) := by decide +kernel
theorem dX6_voters_12 : decode cX6_voters 12 = .ok (.getfield 78, 3) := by decide +kernel
theorem dX6_voters_15 : decode cX6_voters 15 = .ok (.getfield 167, 3) := by decide +kernel
theorem dX6_voters_18 : decode cX6_voters 18 = .ok (.if_icmp .ge 25, 3) := by decide +kernel
theorem dX6_voters_21 : decode cX6_voters 21 = .ok (.aload_n 0, 1) := by decide +kernel
theorem dX6_voters_22 : decode cX6_voters 22 = .ok (.iload_n 2, 1) := by decide +kernel
theorem dX6_voters_23 : decode cX6_voters 23 = .ok (.invokevirtual 222, 3) := by decide +kernel
theorem dX6_voters_26 : decode cX6_voters 26 = .ok (.ifCond .eq 11, 3) := by decide +kernel
theorem dX6_voters_29 : decode cX6_voters 29 = .ok (.iload_n 1, 1) := by decide +kernel
theorem dX6_voters_30 : decode cX6_voters 30 = .ok (.iconst 1, 1) := by decide +kernel
theorem dX6_voters_31 : decode cX6_voters 31 = .ok (.iload_n 2, 1) := by decide +kernel
theorem dX6_voters_32 : decode cX6_voters 32 = .ok (.ishl, 1) := by decide +kernel
theorem dX6_voters_33 : decode cX6_voters 33 = .ok (.iconst (-1), 1) := by decide +kernel
theorem dX6_voters_34 : decode cX6_voters 34 = .ok (.ixor, 1) := by decide +kernel
theorem dX6_voters_35 : decode cX6_voters 35 = .ok (.iand, 1) := by decide +kernel
theorem dX6_voters_36 : decode cX6_voters 36 = .ok (.istore_n 1, 1) := by decide +kernel
theorem dX6_voters_37 : decode cX6_voters 37 = .ok (.iinc 2 1, 3) := by decide +kernel
theorem dX6_voters_40 : decode cX6_voters 40 = .ok (.goto (-33), 3) := by decide +kernel
theorem dX6_voters_43 : decode cX6_voters 43 = .ok (.iload_n 1, 1) := by decide +kernel
theorem dX6_voters_44 : decode cX6_voters 44 = .ok (.ireturn, 1) := by decide +kernel
theorem dX6_yesMen_0 : decode cX6_yesMen 0 = .ok (.aload_n 0, 1) := by decide +kernel
theorem dX6_yesMen_1 : decode cX6_yesMen 1 = .ok (.invokevirtual 225, 3) := by decide +kernel
theorem dX6_yesMen_4 : decode cX6_yesMen 4 = .ok (.aload_n 0, 1) := by decide +kernel
theorem dX6_yesMen_5 : decode cX6_yesMen 5 = .ok (.getfield 41, 3) := by decide +kernel
theorem dX6_yesMen_8 : decode cX6_yesMen 8 = .ok (.getfield 228, 3) := by decide +kernel
theorem dX6_yesMen_11 : decode cX6_yesMen 11 = .ok (.iload_n 1, 1) := by decide +kernel
theorem dX6_yesMen_12 : decode cX6_yesMen 12 = .ok (.iaload, 1) := by decide +kernel
theorem dX6_yesMen_13 : decode cX6_yesMen 13 = .ok (.aload_n 0, 1) := by decide +kernel
theorem dX6_yesMen_14 : decode cX6_yesMen 14 = .ok (.getfield 41, 3) := by decide +kernel
theorem dX6_yesMen_17 : decode cX6_yesMen 17 = .ok (.iload_n 1, 1) := by decide +kernel
theorem dX6_yesMen_18 : decode cX6_yesMen 18 = .ok (.aload_n 0, 1) := by decide +kernel
theorem dX6_yesMen_19 : decode cX6_yesMen 19 = .ok (.invokevirtual 152, 3) := by decide +kernel
theorem dX6_yesMen_22 : decode cX6_yesMen 22 = .ok (.invokevirtual 231, 3) := by decide +kernel
theorem dX6_yesMen_25 : decode cX6_yesMen 25 = .ok (.ior, 1) := by decide +kernel
theorem dX6_yesMen_26 : decode cX6_yesMen 26 = .ok (.iand, 1) := by decide +kernel
theorem dX6_yesMen_27 : decode cX6_yesMen 27 = .ok (.ireturn, 1) := by decide +kernel
theorem dX6_noMen_0 : decode cX6_noMen 0 = .ok (.aload_n 0, 1) := by decide +kernel
theorem dX6_noMen_1 : decode cX6_noMen 1 = .ok (.invokevirtual 225, 3) := by decide +kernel
theorem dX6_noMen_4 : decode cX6_noMen 4 = .ok (.aload_n 0, 1) := by decide +kernel
theorem dX6_noMen_5 : decode cX6_noMen 5 = .ok (.getfield 41, 3) := by decide +kernel
theorem dX6_noMen_8 : decode cX6_noMen 8 = .ok (.getfield 234, 3) := by decide +kernel
theorem dX6_noMen_11 : decode cX6_noMen 11 = .ok (.iload_n 1, 1) := by decide +kernel
theorem dX6_noMen_12 : decode cX6_noMen 12 = .ok (.iaload, 1) := by decide +kernel
theorem dX6_noMen_13 : decode cX6_noMen 13 = .ok (.iand, 1) := by decide +kernel
theorem dX6_noMen_14 : decode cX6_noMen 14 = .ok (.aload_n 0, 1) := by decide +kernel
theorem dX6_noMen_15 : decode cX6_noMen 15 = .ok (.getfield 41, 3) := by decide +kernel
theorem dX6_noMen_18 : decode cX6_noMen 18 = .ok (.iload_n 1, 1) := by decide +kernel
theorem dX6_noMen_19 : decode cX6_noMen 19 = .ok (.aload_n 0, 1) := by decide +kernel
theorem dX6_noMen_20 : decode cX6_noMen 20 = .ok (.invokevirtual 152, 3) := by decide +kernel
theorem dX6_noMen_23 : decode cX6_noMen 23 = .ok (.invokevirtual 231, 3) := by decide +kernel
theorem dX6_noMen_26 : decode cX6_noMen 26 = .ok (.iconst (-1), 1) := by decide +kernel
theorem dX6_noMen_27 : decode cX6_noMen 27 = .ok (.ixor, 1) := by decide +kernel
theorem dX6_noMen_28 : decode cX6_noMen 28 = .ok (.iand, 1) := by decide +kernel
theorem dX6_noMen_29 : decode cX6_noMen 29 = .ok (.ireturn, 1) := by decide +kernel
theorem dX6_floorTime_0 : decode cX6_floorTime 0 = .ok (.iload_n 1, 1) := by decide +kernel
theorem dX6_floorTime_1 : decode cX6_floorTime 1 = .ok (.invokestatic 124, 3) := by decide +kernel
theorem dX6_floorTime_4 : decode cX6_floorTime 4 = .ok (.istore_n 2, 1) := by decide +kernel
theorem dX6_floorTime_5 : decode cX6_floorTime 5 = .ok (.iload_n 2, 1) := by decide +kernel
theorem dX6_floorTime_6 : decode cX6_floorTime 6 = .ok (.iconst 1, 1) := by decide +kernel
theorem dX6_floorTime_7 : decode cX6_floorTime 7 = .ok (.if_icmp .lt 19, 3) := by decide +kernel
theorem dX6_floorTime_10 : decode cX6_floorTime 10 = .ok (.iload_n 2, 1) := by decide +kernel
theorem dX6_floorTime_11 : decode cX6_floorTime 11 = .ok (.iconst 3, 1) := by decide +kernel
theorem dX6_floorTime_12 : decode cX6_floorTime 12 = .ok (.if_icmp .gt 14, 3) := by decide +kernel
theorem dX6_floorTime_15 : decode cX6_floorTime 15 = .ok (.iload_n 1, 1) := by decide +kernel
theorem dX6_floorTime_16 : decode cX6_floorTime 16 = .ok (.aload_n 0, 1) := by decide +kernel
theorem dX6_floorTime_17 : decode cX6_floorTime 17 = .ok (.invokevirtual 129, 3) := by decide +kernel
theorem dX6_floorTime_20 : decode cX6_floorTime 20 = .ok (.iconst (-1), 1) := by decide +kernel
theorem dX6_floorTime_21 : decode cX6_floorTime 21 = .ok (.ixor, 1) := by decide +kernel
theorem dX6_floorTime_22 : decode cX6_floorTime 22 = .ok (.iand, 1) := by decide +kernel
theorem dX6_floorTime_23 : decode cX6_floorTime 23 = .ok (.ifCond .eq 5, 3) := by decide +kernel
theorem dX6_floorTime_26 : decode cX6_floorTime 26 = .ok (.iconst (-1), 1) := by decide +kernel
theorem dX6_floorTime_27 : decode cX6_floorTime 27 = .ok (.ireturn, 1) := by decide +kernel
theorem dX6_floorTime_28 : decode cX6_floorTime 28 = .ok (.iconst 0, 1) := by decide +kernel
theorem dX6_floorTime_29 : decode cX6_floorTime 29 = .ok (.istore_n 3, 1) := by decide +kernel
theorem dX6_floorTime_30 : decode cX6_floorTime 30 = .ok (.iconst 0, 1) := by decide +kernel
theorem dX6_floorTime_31 : decode cX6_floorTime 31 = .ok (.istore 4, 2) := by decide +kernel
theorem dX6_floorTime_33 : decode cX6_floorTime 33 = .ok (.iload 4, 2) := by decide +kernel
theorem dX6_floorTime_35 : decode cX6_floorTime 35 = .ok (.aload_n 0, 1) := by decide +kernel
theorem dX6_floorTime_36 : decode cX6_floorTime 36 = .ok (.getfield 41, 3) := by decide +kernel
theorem dX6_floorTime_39 : decode cX6_floorTime 39 = .ok (.getfield 78, 3) := by decide +kernel
theorem dX6_floorTime_42 : decode cX6_floorTime 42 = .ok (.getfield 167, 3) := by decide +kernel
theorem dX6_floorTime_45 : decode cX6_floorTime 45 = .ok (.if_icmp .ge 58, 3) := by decide +kernel
theorem dX6_floorTime_48 : decode cX6_floorTime 48 = .ok (.iload_n 1, 1) := by decide +kernel
theorem dX6_floorTime_49 : decode cX6_floorTime 49 = .ok (.iload 4, 2) := by decide +kernel
theorem dX6_floorTime_51 : decode cX6_floorTime 51 = .ok (.ishr, 1) := by decide +kernel
theorem dX6_floorTime_52 : decode cX6_floorTime 52 = .ok (.iconst 1, 1) := by decide +kernel
theorem dX6_floorTime_53 : decode cX6_floorTime 53 = .ok (.iand, 1) := by decide +kernel
theorem dX6_floorTime_54 : decode cX6_floorTime 54 = .ok (.ifCond .eq 43, 3) := by decide +kernel
theorem dX6_floorTime_57 : decode cX6_floorTime 57 = .ok (.aload_n 0, 1) := by decide +kernel
theorem dX6_floorTime_58 : decode cX6_floorTime 58 = .ok (.getfield 41, 3) := by decide +kernel
theorem dX6_floorTime_61 : decode cX6_floorTime 61 = .ok (.getfield 105, 3) := by decide +kernel
theorem dX6_floorTime_64 : decode cX6_floorTime 64 = .ok (.iload 4, 2) := by decide +kernel
theorem dX6_floorTime_66 : decode cX6_floorTime 66 = .ok (.iaload, 1) := by decide +kernel
theorem dX6_floorTime_67 : decode cX6_floorTime 67 = .ok (.bipush 15, 2) := by decide +kernel
theorem dX6_floorTime_69 : decode cX6_floorTime 69 = .ok (.if_icmp .le 5, 3) := by decide +kernel
theorem dX6_floorTime_72 : decode cX6_floorTime 72 = .ok (.iconst (-1), 1) := by decide +kernel
theorem dX6_floorTime_73 : decode cX6_floorTime 73 = .ok (.ireturn, 1) := by decide +kernel
theorem dX6_floorTime_74 : decode cX6_floorTime 74 = .ok (.iload_n 3, 1) := by decide +kernel
theorem dX6_floorTime_75 : decode cX6_floorTime 75 = .ok (.aload_n 0, 1) := by decide +kernel
theorem dX6_floorTime_76 : decode cX6_floorTime 76 = .ok (.getfield 41, 3) := by decide +kernel
theorem dX6_floorTime_79 : decode cX6_floorTime 79 = .ok (.getfield 105, 3) := by decide +kernel
theorem dX6_floorTime_82 : decode cX6_floorTime 82 = .ok (.iload 4, 2) := by decide +kernel
theorem dX6_floorTime_84 : decode cX6_floorTime 84 = .ok (.iaload, 1) := by decide +kernel
theorem dX6_floorTime_85 : decode cX6_floorTime 85 = .ok (.aload_n 0, 1) := by decide +kernel
theorem dX6_floorTime_86 : decode cX6_floorTime 86 = .ok (.getfield 15, 3) := by decide +kernel
theorem dX6_floorTime_89 : decode cX6_floorTime 89 = .ok (.iload 4, 2) := by decide +kernel
theorem dX6_floorTime_91 : decode cX6_floorTime 91 = .ok (.iaload, 1) := by decide +kernel
theorem dX6_floorTime_92 : decode cX6_floorTime 92 = .ok (.isub, 1) := by decide +kernel
theorem dX6_floorTime_93 : decode cX6_floorTime 93 = .ok (.invokestatic 189, 3) := by decide +kernel
theorem dX6_floorTime_96 : decode cX6_floorTime 96 = .ok (.istore_n 3, 1) := by decide +kernel
theorem dX6_floorTime_97 : decode cX6_floorTime 97 = .ok (.iinc 4 1, 3) := by decide +kernel
theorem dX6_floorTime_100 : decode cX6_floorTime 100 = .ok (.goto (-67), 3) := by decide +kernel
theorem dX6_floorTime_103 : decode cX6_floorTime 103 = .ok (.iload_n 2, 1) := by decide +kernel
theorem dX6_floorTime_104 : decode cX6_floorTime 104 = .ok (.iconst 1, 1) := by decide +kernel
theorem dX6_floorTime_105 : decode cX6_floorTime 105 = .ok (.if_icmp .le 13, 3) := by decide +kernel
theorem dX6_floorTime_108 : decode cX6_floorTime 108 = .ok (.iload_n 3, 1) := by decide +kernel
theorem dX6_floorTime_109 : decode cX6_floorTime 109 = .ok (.ifCond .le 9, 3) := by decide +kernel
theorem dX6_floorTime_112 : decode cX6_floorTime 112 = .ok (.sipush 200, 3) := by decide +kernel
theorem dX6_floorTime_115 : decode cX6_floorTime 115 = .ok (.goto 4, 3) := by decide +kernel
theorem dX6_floorTime_118 : decode cX6_floorTime 118 = .ok (.iload_n 3, 1) := by decide +kernel
theorem dX6_floorTime_119 : decode cX6_floorTime 119 = .ok (.ireturn, 1) := by decide +kernel
theorem dX6_voteFact_0 : decode cX6_voteFact 0 = .ok (.aload_n 0, 1) := by decide +kernel
theorem dX6_voteFact_1 : decode cX6_voteFact 1 = .ok (.iload_n 1, 1) := by decide +kernel
theorem dX6_voteFact_2 : decode cX6_voteFact 2 = .ok (.invokevirtual 237, 3) := by decide +kernel
theorem dX6_voteFact_5 : decode cX6_voteFact 5 = .ok (.ifCond .eq 13, 3) := by decide +kernel
theorem dX6_voteFact_8 : decode cX6_voteFact 8 = .ok (.iload_n 2, 1) := by decide +kernel
theorem dX6_voteFact_9 : decode cX6_voteFact 9 = .ok (.ifCond .lt 9, 3) := by decide +kernel
theorem dX6_voteFact_12 : decode cX6_voteFact 12 = .ok (.iload_n 2, 1) := by decide +kernel
theorem dX6_voteFact_13 : decode cX6_voteFact 13 = .ok (.bipush 6, 2) := by decide +kernel
theorem dX6_voteFact_15 : decode cX6_voteFact 15 = .ok (.if_icmp .lt 5, 3) := by decide +kernel
theorem dX6_voteFact_18 : decode cX6_voteFact 18 = .ok (.iconst (-1), 1) := by decide +kernel
theorem dX6_voteFact_19 : decode cX6_voteFact 19 = .ok (.ireturn, 1) := by decide +kernel
theorem dX6_voteFact_20 : decode cX6_voteFact 20 = .ok (.aload_n 0, 1) := by decide +kernel
theorem dX6_voteFact_21 : decode cX6_voteFact 21 = .ok (.getfield 30, 3) := by decide +kernel
theorem dX6_voteFact_24 : decode cX6_voteFact 24 = .ok (.iload_n 1, 1) := by decide +kernel
theorem dX6_voteFact_25 : decode cX6_voteFact 25 = .ok (.bipush 6, 2) := by decide +kernel
theorem dX6_voteFact_27 : decode cX6_voteFact 27 = .ok (.imul, 1) := by decide +kernel
theorem dX6_voteFact_28 : decode cX6_voteFact 28 = .ok (.iload_n 2, 1) := by decide +kernel
theorem dX6_voteFact_29 : decode cX6_voteFact 29 = .ok (.iadd, 1) := by decide +kernel
theorem dX6_voteFact_30 : decode cX6_voteFact 30 = .ok (.iaload, 1) := by decide +kernel
theorem dX6_voteFact_31 : decode cX6_voteFact 31 = .ok (.ireturn, 1) := by decide +kernel
theorem dX6_isKept_0 : decode cX6_isKept 0 = .ok (.iload_n 1, 1) := by decide +kernel
theorem dX6_isKept_1 : decode cX6_isKept 1 = .ok (.ifCond .lt 20, 3) := by decide +kernel
theorem dX6_isKept_4 : decode cX6_isKept 4 = .ok (.iload_n 1, 1) := by decide +kernel
theorem dX6_isKept_5 : decode cX6_isKept 5 = .ok (.aload_n 0, 1) := by decide +kernel
theorem dX6_isKept_6 : decode cX6_isKept 6 = .ok (.getfield 49, 3) := by decide +kernel
theorem dX6_isKept_9 : decode cX6_isKept 9 = .ok (.if_icmp .ge 12, 3) := by decide +kernel
theorem dX6_isKept_12 : decode cX6_isKept 12 = .ok (.iload_n 1, 1) := by decide +kernel
theorem dX6_isKept_13 : decode cX6_isKept 13 = .ok (.iconst 4, 1) := by decide +kernel
theorem dX6_isKept_14 : decode cX6_isKept 14 = .ok (.if_icmp .ge 7, 3) := by decide +kernel
theorem dX6_isKept_17 : decode cX6_isKept 17 = .ok (.iconst 1, 1) := by decide +kernel
theorem dX6_isKept_18 : decode cX6_isKept 18 = .ok (.goto 4, 3) := by decide +kernel
theorem dX6_isKept_21 : decode cX6_isKept 21 = .ok (.iconst 0, 1) := by decide +kernel
theorem dX6_isKept_22 : decode cX6_isKept 22 = .ok (.ireturn, 1) := by decide +kernel
theorem dX6_saidIn_0 : decode cX6_saidIn 0 = .ok (.aload_n 0, 1) := by decide +kernel
theorem dX6_saidIn_1 : decode cX6_saidIn 1 = .ok (.iload_n 1, 1) := by decide +kernel
theorem dX6_saidIn_2 : decode cX6_saidIn 2 = .ok (.iconst 2, 1) := by decide +kernel
theorem dX6_saidIn_3 : decode cX6_saidIn 3 = .ok (.invokevirtual 240, 3) := by decide +kernel
theorem dX6_saidIn_6 : decode cX6_saidIn 6 = .ok (.iload_n 2, 1) := by decide +kernel
theorem dX6_saidIn_7 : decode cX6_saidIn 7 = .ok (.ishr, 1) := by decide +kernel
theorem dX6_saidIn_8 : decode cX6_saidIn 8 = .ok (.iconst 1, 1) := by decide +kernel
theorem dX6_saidIn_9 : decode cX6_saidIn 9 = .ok (.iand, 1) := by decide +kernel
theorem dX6_saidIn_10 : decode cX6_saidIn 10 = .ok (.aload_n 0, 1) := by decide +kernel
theorem dX6_saidIn_11 : decode cX6_saidIn 11 = .ok (.iload_n 1, 1) := by decide +kernel
theorem dX6_saidIn_12 : decode cX6_saidIn 12 = .ok (.iconst 3, 1) := by decide +kernel
theorem dX6_saidIn_13 : decode cX6_saidIn 13 = .ok (.invokevirtual 240, 3) := by decide +kernel
theorem dX6_saidIn_16 : decode cX6_saidIn 16 = .ok (.iload_n 2, 1) := by decide +kernel
theorem dX6_saidIn_17 : decode cX6_saidIn 17 = .ok (.ishr, 1) := by decide +kernel
theorem dX6_saidIn_18 : decode cX6_saidIn 18 = .ok (.iconst 1, 1) := by decide +kernel
theorem dX6_saidIn_19 : decode cX6_saidIn 19 = .ok (.iand, 1) := by decide +kernel
theorem dX6_saidIn_20 : decode cX6_saidIn 20 = .ok (.isub, 1) := by decide +kernel
theorem dX6_saidIn_21 : decode cX6_saidIn 21 = .ok (.ireturn, 1) := by decide +kernel
theorem dX6_stoodIn_0 : decode cX6_stoodIn 0 = .ok (.aload_n 0, 1) := by decide +kernel
theorem dX6_stoodIn_1 : decode cX6_stoodIn 1 = .ok (.iload_n 1, 1) := by decide +kernel
theorem dX6_stoodIn_2 : decode cX6_stoodIn 2 = .ok (.iconst 4, 1) := by decide +kernel
theorem dX6_stoodIn_3 : decode cX6_stoodIn 3 = .ok (.invokevirtual 240, 3) := by decide +kernel
theorem dX6_stoodIn_6 : decode cX6_stoodIn 6 = .ok (.iload_n 2, 1) := by decide +kernel
theorem dX6_stoodIn_7 : decode cX6_stoodIn 7 = .ok (.ishr, 1) := by decide +kernel
theorem dX6_stoodIn_8 : decode cX6_stoodIn 8 = .ok (.iconst 1, 1) := by decide +kernel
theorem dX6_stoodIn_9 : decode cX6_stoodIn 9 = .ok (.iand, 1) := by decide +kernel
theorem dX6_stoodIn_10 : decode cX6_stoodIn 10 = .ok (.ifCond .eq 7, 3) := by decide +kernel
theorem dX6_stoodIn_13 : decode cX6_stoodIn 13 = .ok (.iconst 1, 1) := by decide +kernel
theorem dX6_stoodIn_14 : decode cX6_stoodIn 14 = .ok (.goto 4, 3) := by decide +kernel
theorem dX6_stoodIn_17 : decode cX6_stoodIn 17 = .ok (.iconst 0, 1) := by decide +kernel
theorem dX6_stoodIn_18 : decode cX6_stoodIn 18 = .ok (.ireturn, 1) := by decide +kernel
theorem dX6_keptSitters_0 : decode cX6_keptSitters 0 = .ok (.aload_n 0, 1) := by decide +kernel
theorem dX6_keptSitters_1 : decode cX6_keptSitters 1 = .ok (.getfield 41, 3) := by decide +kernel
theorem dX6_keptSitters_4 : decode cX6_keptSitters 4 = .ok (.getfield 192, 3) := by decide +kernel
theorem dX6_keptSitters_7 : decode cX6_keptSitters 7 = .ok (.iload_n 1, 1) := by decide +kernel
theorem dX6_keptSitters_8 : decode cX6_keptSitters 8 = .ok (.invokevirtual 82, 3) := by decide +kernel
theorem dX6_keptSitters_11 : decode cX6_keptSitters 11 = .ok (.ifCond .eq 23, 3) := by decide +kernel
theorem dX6_keptSitters_14 : decode cX6_keptSitters 14 = .ok (.iload_n 2, 1) := by decide +kernel
theorem dX6_keptSitters_15 : decode cX6_keptSitters 15 = .ok (.iconst 1, 1) := by decide +kernel
theorem dX6_keptSitters_16 : decode cX6_keptSitters 16 = .ok (.if_icmp .lt 18, 3) := by decide +kernel
theorem dX6_keptSitters_19 : decode cX6_keptSitters 19 = .ok (.iload_n 2, 1) := by decide +kernel
theorem dX6_keptSitters_20 : decode cX6_keptSitters 20 = .ok (.sipush 200, 3) := by decide +kernel
theorem dX6_keptSitters_23 : decode cX6_keptSitters 23 = .ok (.if_icmp .gt 11, 3) := by decide +kernel
theorem dX6_keptSitters_26 : decode cX6_keptSitters 26 = .ok (.iload_n 2, 1) := by decide +kernel
theorem dX6_keptSitters_27 : decode cX6_keptSitters 27 = .ok (.aload_n 0, 1) := by decide +kernel
theorem dX6_keptSitters_28 : decode cX6_keptSitters 28 = .ok (.getfield 45, 3) := by decide +kernel
theorem dX6_keptSitters_31 : decode cX6_keptSitters 31 = .ok (.if_icmp .le 5, 3) := by decide +kernel
theorem dX6_keptSitters_34 : decode cX6_keptSitters 34 = .ok (.iconst (-1), 1) := by decide +kernel
theorem dX6_keptSitters_35 : decode cX6_keptSitters 35 = .ok (.ireturn, 1) := by decide +kernel
theorem dX6_keptSitters_36 : decode cX6_keptSitters 36 = .ok (.aload_n 0, 1) := by decide +kernel
theorem dX6_keptSitters_37 : decode cX6_keptSitters 37 = .ok (.getfield 33, 3) := by decide +kernel
theorem dX6_keptSitters_40 : decode cX6_keptSitters 40 = .ok (.iload_n 2, 1) := by decide +kernel
theorem dX6_keptSitters_41 : decode cX6_keptSitters 41 = .ok (.iconst 1, 1) := by decide +kernel
theorem dX6_keptSitters_42 : decode cX6_keptSitters 42 = .ok (.isub, 1) := by decide +kernel
theorem dX6_keptSitters_43 : decode cX6_keptSitters 43 = .ok (.laload, 1) := by decide +kernel
theorem dX6_keptSitters_44 : decode cX6_keptSitters 44 = .ok (.iload_n 1, 1) := by decide +kernel
theorem dX6_keptSitters_45 : decode cX6_keptSitters 45 = .ok (.bipush 6, 2) := by decide +kernel
theorem dX6_keptSitters_47 : decode cX6_keptSitters 47 = .ok (.imul, 1) := by decide +kernel
theorem dX6_keptSitters_48 : decode cX6_keptSitters 48 = .ok (.lushr, 1) := by decide +kernel
theorem dX6_keptSitters_49 : decode cX6_keptSitters 49 = .ok (.l2i, 1) := by decide +kernel
theorem dX6_keptSitters_50 : decode cX6_keptSitters 50 = .ok (.bipush 63, 2) := by decide +kernel
theorem dX6_keptSitters_52 : decode cX6_keptSitters 52 = .ok (.iand, 1) := by decide +kernel
theorem dX6_keptSitters_53 : decode cX6_keptSitters 53 = .ok (.ireturn, 1) := by decide +kernel
theorem dL_law_0 : decode cL_law 0 = .ok (.new 7, 3) := by decide +kernel
theorem dL_law_3 : decode cL_law 3 = .ok (.dup, 1) := by decide +kernel
theorem dL_law_4 : decode cL_law 4 = .ok (.invokespecial 9, 3) := by decide +kernel
theorem dL_law_7 : decode cL_law 7 = .ok (.astore_n 1, 1) := by decide +kernel
theorem dL_law_8 : decode cL_law 8 = .ok (.new 10, 3) := by decide +kernel
theorem dL_law_11 : decode cL_law 11 = .ok (.dup, 1) := by decide +kernel
theorem dL_law_12 : decode cL_law 12 = .ok (.invokespecial 12, 3) := by decide +kernel
theorem dL_law_15 : decode cL_law 15 = .ok (.astore_n 2, 1) := by decide +kernel
theorem dL_law_16 : decode cL_law 16 = .ok (.iconst 0, 1) := by decide +kernel
theorem dL_law_17 : decode cL_law 17 = .ok (.istore_n 3, 1) := by decide +kernel
theorem dL_law_18 : decode cL_law 18 = .ok (.iload_n 3, 1) := by decide +kernel
theorem dL_law_19 : decode cL_law 19 = .ok (.aload_n 0, 1) := by decide +kernel
theorem dL_law_20 : decode cL_law 20 = .ok (.arraylength, 1) := by decide +kernel
theorem dL_law_21 : decode cL_law 21 = .ok (.bipush 6, 2) := by decide +kernel
theorem dL_law_23 : decode cL_law 23 = .ok (.isub, 1) := by decide +kernel
theorem dL_law_24 : decode cL_law 24 = .ok (.if_icmp .gt 1046, 3) := by decide +kernel
theorem dL_law_27 : decode cL_law 27 = .ok (.aload_n 0, 1) := by decide +kernel
theorem dL_law_28 : decode cL_law 28 = .ok (.iload_n 3, 1) := by decide +kernel
theorem dL_law_29 : decode cL_law 29 = .ok (.iaload, 1) := by decide +kernel
theorem dL_law_30 : decode cL_law 30 = .ok (.bipush 31, 2) := by decide +kernel
theorem dL_law_32 : decode cL_law 32 = .ok (.iand, 1) := by decide +kernel
theorem dL_law_33 : decode cL_law 33 = .ok (.tableswitch 1031 0 29 #[135, 198, 221, 234, 257, 280, 313, 346, 369, 392, 415, 464, 487, 520, 553, 586, 609, 642, 675, 708, 731, 764, 787, 840, 883, 906, 929, 962, 985, 1008], 135) := by decide +kernel
theorem dL_law_168 : decode cL_law 168 = .ok (.aload_n 1, 1) := by decide +kernel
theorem dL_law_169 : decode cL_law 169 = .ok (.aload_n 0, 1) := by decide +kernel
theorem dL_law_170 : decode cL_law 170 = .ok (.iload_n 3, 1) := by decide +kernel
theorem dL_law_171 : decode cL_law 171 = .ok (.iconst 1, 1) := by decide +kernel
theorem dL_law_172 : decode cL_law 172 = .ok (.iadd, 1) := by decide +kernel
theorem dL_law_173 : decode cL_law 173 = .ok (.iaload, 1) := by decide +kernel
theorem dL_law_174 : decode cL_law 174 = .ok (.aload_n 0, 1) := by decide +kernel
theorem dL_law_175 : decode cL_law 175 = .ok (.iload_n 3, 1) := by decide +kernel
theorem dL_law_176 : decode cL_law 176 = .ok (.iconst 2, 1) := by decide +kernel
theorem dL_law_177 : decode cL_law 177 = .ok (.iadd, 1) := by decide +kernel
theorem dL_law_178 : decode cL_law 178 = .ok (.iaload, 1) := by decide +kernel
theorem dL_law_179 : decode cL_law 179 = .ok (.aload_n 0, 1) := by decide +kernel
theorem dL_law_180 : decode cL_law 180 = .ok (.iload_n 3, 1) := by decide +kernel
theorem dL_law_181 : decode cL_law 181 = .ok (.iconst 3, 1) := by decide +kernel
theorem dL_law_182 : decode cL_law 182 = .ok (.iadd, 1) := by decide +kernel
theorem dL_law_183 : decode cL_law 183 = .ok (.iaload, 1) := by decide +kernel
theorem dL_law_184 : decode cL_law 184 = .ok (.aload_n 0, 1) := by decide +kernel
theorem dL_law_185 : decode cL_law 185 = .ok (.iload_n 3, 1) := by decide +kernel
theorem dL_law_186 : decode cL_law 186 = .ok (.iconst 4, 1) := by decide +kernel
theorem dL_law_187 : decode cL_law 187 = .ok (.iadd, 1) := by decide +kernel
theorem dL_law_188 : decode cL_law 188 = .ok (.iaload, 1) := by decide +kernel
theorem dL_law_189 : decode cL_law 189 = .ok (.aload_n 0, 1) := by decide +kernel
theorem dL_law_190 : decode cL_law 190 = .ok (.iload_n 3, 1) := by decide +kernel
theorem dL_law_191 : decode cL_law 191 = .ok (.iconst 5, 1) := by decide +kernel
theorem dL_law_192 : decode cL_law 192 = .ok (.iadd, 1) := by decide +kernel
theorem dL_law_193 : decode cL_law 193 = .ok (.iaload, 1) := by decide +kernel
theorem dL_law_194 : decode cL_law 194 = .ok (.invokevirtual 13, 3) := by decide +kernel
theorem dL_law_197 : decode cL_law 197 = .ok (.aload_n 2, 1) := by decide +kernel
theorem dL_law_198 : decode cL_law 198 = .ok (.aload_n 0, 1) := by decide +kernel
theorem dL_law_199 : decode cL_law 199 = .ok (.iload_n 3, 1) := by decide +kernel
theorem dL_law_200 : decode cL_law 200 = .ok (.iconst 1, 1) := by decide +kernel
theorem dL_law_201 : decode cL_law 201 = .ok (.iadd, 1) := by decide +kernel
theorem dL_law_202 : decode cL_law 202 = .ok (.iaload, 1) := by decide +kernel
theorem dL_law_203 : decode cL_law 203 = .ok (.aload_n 0, 1) := by decide +kernel
theorem dL_law_204 : decode cL_law 204 = .ok (.iload_n 3, 1) := by decide +kernel
theorem dL_law_205 : decode cL_law 205 = .ok (.iconst 2, 1) := by decide +kernel
theorem dL_law_206 : decode cL_law 206 = .ok (.iadd, 1) := by decide +kernel
theorem dL_law_207 : decode cL_law 207 = .ok (.iaload, 1) := by decide +kernel
theorem dL_law_208 : decode cL_law 208 = .ok (.aload_n 0, 1) := by decide +kernel
theorem dL_law_209 : decode cL_law 209 = .ok (.iload_n 3, 1) := by decide +kernel
theorem dL_law_210 : decode cL_law 210 = .ok (.iconst 3, 1) := by decide +kernel
theorem dL_law_211 : decode cL_law 211 = .ok (.iadd, 1) := by decide +kernel
theorem dL_law_212 : decode cL_law 212 = .ok (.iaload, 1) := by decide +kernel
theorem dL_law_213 : decode cL_law 213 = .ok (.aload_n 0, 1) := by decide +kernel
theorem dL_law_214 : decode cL_law 214 = .ok (.iload_n 3, 1) := by decide +kernel
theorem dL_law_215 : decode cL_law 215 = .ok (.iconst 4, 1) := by decide +kernel
theorem dL_law_216 : decode cL_law 216 = .ok (.iadd, 1) := by decide +kernel
theorem dL_law_217 : decode cL_law 217 = .ok (.iaload, 1) := by decide +kernel
theorem dL_law_218 : decode cL_law 218 = .ok (.aload_n 0, 1) := by decide +kernel
theorem dL_law_219 : decode cL_law 219 = .ok (.iload_n 3, 1) := by decide +kernel
theorem dL_law_220 : decode cL_law 220 = .ok (.iconst 5, 1) := by decide +kernel
theorem dL_law_221 : decode cL_law 221 = .ok (.iadd, 1) := by decide +kernel
theorem dL_law_222 : decode cL_law 222 = .ok (.iaload, 1) := by decide +kernel
theorem dL_law_223 : decode cL_law 223 = .ok (.invokevirtual 17, 3) := by decide +kernel
theorem dL_law_226 : decode cL_law 226 = .ok (.if_icmp .eq 838, 3) := by decide +kernel
theorem dL_law_229 : decode cL_law 229 = .ok (.iconst 0, 1) := by decide +kernel
theorem dL_law_230 : decode cL_law 230 = .ok (.ireturn, 1) := by decide +kernel
theorem dL_law_231 : decode cL_law 231 = .ok (.aload_n 1, 1) := by decide +kernel
theorem dL_law_232 : decode cL_law 232 = .ok (.aload_n 0, 1) := by decide +kernel
theorem dL_law_233 : decode cL_law 233 = .ok (.iload_n 3, 1) := by decide +kernel
theorem dL_law_234 : decode cL_law 234 = .ok (.iconst 1, 1) := by decide +kernel
theorem dL_law_235 : decode cL_law 235 = .ok (.iadd, 1) := by decide +kernel
theorem dL_law_236 : decode cL_law 236 = .ok (.iaload, 1) := by decide +kernel
theorem dL_law_237 : decode cL_law 237 = .ok (.invokevirtual 18, 3) := by decide +kernel
theorem dL_law_240 : decode cL_law 240 = .ok (.aload_n 2, 1) := by decide +kernel
theorem dL_law_241 : decode cL_law 241 = .ok (.aload_n 0, 1) := by decide +kernel
theorem dL_law_242 : decode cL_law 242 = .ok (.iload_n 3, 1) := by decide +kernel
theorem dL_law_243 : decode cL_law 243 = .ok (.iconst 1, 1) := by decide +kernel
theorem dL_law_244 : decode cL_law 244 = .ok (.iadd, 1) := by decide +kernel
theorem dL_law_245 : decode cL_law 245 = .ok (.iaload, 1) := by decide +kernel
theorem dL_law_246 : decode cL_law 246 = .ok (.invokevirtual 22, 3) := by decide +kernel
theorem dL_law_249 : decode cL_law 249 = .ok (.if_icmp .eq 815, 3) := by decide +kernel
theorem dL_law_252 : decode cL_law 252 = .ok (.iconst 0, 1) := by decide +kernel
theorem dL_law_253 : decode cL_law 253 = .ok (.ireturn, 1) := by decide +kernel
theorem dL_law_254 : decode cL_law 254 = .ok (.aload_n 1, 1) := by decide +kernel
theorem dL_law_255 : decode cL_law 255 = .ok (.invokevirtual 23, 3) := by decide +kernel
theorem dL_law_258 : decode cL_law 258 = .ok (.aload_n 2, 1) := by decide +kernel
theorem dL_law_259 : decode cL_law 259 = .ok (.invokevirtual 27, 3) := by decide +kernel
theorem dL_law_262 : decode cL_law 262 = .ok (.if_icmp .eq 802, 3) := by decide +kernel
theorem dL_law_265 : decode cL_law 265 = .ok (.iconst 0, 1) := by decide +kernel
theorem dL_law_266 : decode cL_law 266 = .ok (.ireturn, 1) := by decide +kernel
theorem dL_law_267 : decode cL_law 267 = .ok (.aload_n 1, 1) := by decide +kernel
theorem dL_law_268 : decode cL_law 268 = .ok (.aload_n 0, 1) := by decide +kernel
theorem dL_law_269 : decode cL_law 269 = .ok (.iload_n 3, 1) := by decide +kernel
theorem dL_law_270 : decode cL_law 270 = .ok (.iconst 1, 1) := by decide +kernel
theorem dL_law_271 : decode cL_law 271 = .ok (.iadd, 1) := by decide +kernel
theorem dL_law_272 : decode cL_law 272 = .ok (.iaload, 1) := by decide +kernel
theorem dL_law_273 : decode cL_law 273 = .ok (.invokevirtual 28, 3) := by decide +kernel
theorem dL_law_276 : decode cL_law 276 = .ok (.aload_n 2, 1) := by decide +kernel
theorem dL_law_277 : decode cL_law 277 = .ok (.aload_n 0, 1) := by decide +kernel
theorem dL_law_278 : decode cL_law 278 = .ok (.iload_n 3, 1) := by decide +kernel
theorem dL_law_279 : decode cL_law 279 = .ok (.iconst 1, 1) := by decide +kernel
theorem dL_law_280 : decode cL_law 280 = .ok (.iadd, 1) := by decide +kernel
theorem dL_law_281 : decode cL_law 281 = .ok (.iaload, 1) := by decide +kernel
theorem dL_law_282 : decode cL_law 282 = .ok (.invokevirtual 31, 3) := by decide +kernel
theorem dL_law_285 : decode cL_law 285 = .ok (.if_icmp .eq 779, 3) := by decide +kernel
theorem dL_law_288 : decode cL_law 288 = .ok (.iconst 0, 1) := by decide +kernel
theorem dL_law_289 : decode cL_law 289 = .ok (.ireturn, 1) := by decide +kernel
theorem dL_law_290 : decode cL_law 290 = .ok (.aload_n 1, 1) := by decide +kernel
theorem dL_law_291 : decode cL_law 291 = .ok (.aload_n 0, 1) := by decide +kernel
theorem dL_law_292 : decode cL_law 292 = .ok (.iload_n 3, 1) := by decide +kernel
theorem dL_law_293 : decode cL_law 293 = .ok (.iconst 1, 1) := by decide +kernel
theorem dL_law_294 : decode cL_law 294 = .ok (.iadd, 1) := by decide +kernel
theorem dL_law_295 : decode cL_law 295 = .ok (.iaload, 1) := by decide +kernel
theorem dL_law_296 : decode cL_law 296 = .ok (.invokevirtual 32, 3) := by decide +kernel
theorem dL_law_299 : decode cL_law 299 = .ok (.aload_n 2, 1) := by decide +kernel
theorem dL_law_300 : decode cL_law 300 = .ok (.aload_n 0, 1) := by decide +kernel
theorem dL_law_301 : decode cL_law 301 = .ok (.iload_n 3, 1) := by decide +kernel
theorem dL_law_302 : decode cL_law 302 = .ok (.iconst 1, 1) := by decide +kernel
theorem dL_law_303 : decode cL_law 303 = .ok (.iadd, 1) := by decide +kernel
theorem dL_law_304 : decode cL_law 304 = .ok (.iaload, 1) := by decide +kernel
theorem dL_law_305 : decode cL_law 305 = .ok (.invokevirtual 35, 3) := by decide +kernel
theorem dL_law_308 : decode cL_law 308 = .ok (.if_icmp .eq 756, 3) := by decide +kernel
theorem dL_law_311 : decode cL_law 311 = .ok (.iconst 0, 1) := by decide +kernel
theorem dL_law_312 : decode cL_law 312 = .ok (.ireturn, 1) := by decide +kernel
theorem dL_law_313 : decode cL_law 313 = .ok (.aload_n 1, 1) := by decide +kernel
theorem dL_law_314 : decode cL_law 314 = .ok (.aload_n 0, 1) := by decide +kernel
theorem dL_law_315 : decode cL_law 315 = .ok (.iload_n 3, 1) := by decide +kernel
theorem dL_law_316 : decode cL_law 316 = .ok (.iconst 1, 1) := by decide +kernel
theorem dL_law_317 : decode cL_law 317 = .ok (.iadd, 1) := by decide +kernel
theorem dL_law_318 : decode cL_law 318 = .ok (.iaload, 1) := by decide +kernel
theorem dL_law_319 : decode cL_law 319 = .ok (.aload_n 0, 1) := by decide +kernel
theorem dL_law_320 : decode cL_law 320 = .ok (.iload_n 3, 1) := by decide +kernel
theorem dL_law_321 : decode cL_law 321 = .ok (.iconst 2, 1) := by decide +kernel
theorem dL_law_322 : decode cL_law 322 = .ok (.iadd, 1) := by decide +kernel
theorem dL_law_323 : decode cL_law 323 = .ok (.iaload, 1) := by decide +kernel
theorem dL_law_324 : decode cL_law 324 = .ok (.invokevirtual 36, 3) := by decide +kernel
theorem dL_law_327 : decode cL_law 327 = .ok (.aload_n 2, 1) := by decide +kernel
theorem dL_law_328 : decode cL_law 328 = .ok (.aload_n 0, 1) := by decide +kernel
theorem dL_law_329 : decode cL_law 329 = .ok (.iload_n 3, 1) := by decide +kernel
theorem dL_law_330 : decode cL_law 330 = .ok (.iconst 1, 1) := by decide +kernel
theorem dL_law_331 : decode cL_law 331 = .ok (.iadd, 1) := by decide +kernel
theorem dL_law_332 : decode cL_law 332 = .ok (.iaload, 1) := by decide +kernel
theorem dL_law_333 : decode cL_law 333 = .ok (.aload_n 0, 1) := by decide +kernel
theorem dL_law_334 : decode cL_law 334 = .ok (.iload_n 3, 1) := by decide +kernel
theorem dL_law_335 : decode cL_law 335 = .ok (.iconst 2, 1) := by decide +kernel
theorem dL_law_336 : decode cL_law 336 = .ok (.iadd, 1) := by decide +kernel
theorem dL_law_337 : decode cL_law 337 = .ok (.iaload, 1) := by decide +kernel
theorem dL_law_338 : decode cL_law 338 = .ok (.invokevirtual 40, 3) := by decide +kernel
theorem dL_law_341 : decode cL_law 341 = .ok (.if_icmp .eq 723, 3) := by decide +kernel
theorem dL_law_344 : decode cL_law 344 = .ok (.iconst 0, 1) := by decide +kernel
theorem dL_law_345 : decode cL_law 345 = .ok (.ireturn, 1) := by decide +kernel
theorem dL_law_346 : decode cL_law 346 = .ok (.aload_n 1, 1) := by decide +kernel
theorem dL_law_347 : decode cL_law 347 = .ok (.aload_n 0, 1) := by decide +kernel
theorem dL_law_348 : decode cL_law 348 = .ok (.iload_n 3, 1) := by decide +kernel
theorem dL_law_349 : decode cL_law 349 = .ok (.iconst 1, 1) := by decide +kernel
theorem dL_law_350 : decode cL_law 350 = .ok (.iadd, 1) := by decide +kernel
theorem dL_law_351 : decode cL_law 351 = .ok (.iaload, 1) := by decide +kernel
theorem dL_law_352 : decode cL_law 352 = .ok (.aload_n 0, 1) := by decide +kernel
theorem dL_law_353 : decode cL_law 353 = .ok (.iload_n 3, 1) := by decide +kernel
theorem dL_law_354 : decode cL_law 354 = .ok (.iconst 2, 1) := by decide +kernel
theorem dL_law_355 : decode cL_law 355 = .ok (.iadd, 1) := by decide +kernel
theorem dL_law_356 : decode cL_law 356 = .ok (.iaload, 1) := by decide +kernel
theorem dL_law_357 : decode cL_law 357 = .ok (.invokevirtual 41, 3) := by decide +kernel
theorem dL_law_360 : decode cL_law 360 = .ok (.aload_n 2, 1) := by decide +kernel
theorem dL_law_361 : decode cL_law 361 = .ok (.aload_n 0, 1) := by decide +kernel
theorem dL_law_362 : decode cL_law 362 = .ok (.iload_n 3, 1) := by decide +kernel
theorem dL_law_363 : decode cL_law 363 = .ok (.iconst 1, 1) := by decide +kernel
theorem dL_law_364 : decode cL_law 364 = .ok (.iadd, 1) := by decide +kernel
theorem dL_law_365 : decode cL_law 365 = .ok (.iaload, 1) := by decide +kernel
theorem dL_law_366 : decode cL_law 366 = .ok (.aload_n 0, 1) := by decide +kernel
theorem dL_law_367 : decode cL_law 367 = .ok (.iload_n 3, 1) := by decide +kernel
theorem dL_law_368 : decode cL_law 368 = .ok (.iconst 2, 1) := by decide +kernel
theorem dL_law_369 : decode cL_law 369 = .ok (.iadd, 1) := by decide +kernel
theorem dL_law_370 : decode cL_law 370 = .ok (.iaload, 1) := by decide +kernel
theorem dL_law_371 : decode cL_law 371 = .ok (.invokevirtual 44, 3) := by decide +kernel
theorem dL_law_374 : decode cL_law 374 = .ok (.if_icmp .eq 690, 3) := by decide +kernel
theorem dL_law_377 : decode cL_law 377 = .ok (.iconst 0, 1) := by decide +kernel
theorem dL_law_378 : decode cL_law 378 = .ok (.ireturn, 1) := by decide +kernel
theorem dL_law_379 : decode cL_law 379 = .ok (.aload_n 1, 1) := by decide +kernel
theorem dL_law_380 : decode cL_law 380 = .ok (.aload_n 0, 1) := by decide +kernel
theorem dL_law_381 : decode cL_law 381 = .ok (.iload_n 3, 1) := by decide +kernel
theorem dL_law_382 : decode cL_law 382 = .ok (.iconst 1, 1) := by decide +kernel
theorem dL_law_383 : decode cL_law 383 = .ok (.iadd, 1) := by decide +kernel
theorem dL_law_384 : decode cL_law 384 = .ok (.iaload, 1) := by decide +kernel
theorem dL_law_385 : decode cL_law 385 = .ok (.invokevirtual 45, 3) := by decide +kernel
theorem dL_law_388 : decode cL_law 388 = .ok (.aload_n 2, 1) := by decide +kernel
theorem dL_law_389 : decode cL_law 389 = .ok (.aload_n 0, 1) := by decide +kernel
theorem dL_law_390 : decode cL_law 390 = .ok (.iload_n 3, 1) := by decide +kernel
theorem dL_law_391 : decode cL_law 391 = .ok (.iconst 1, 1) := by decide +kernel
theorem dL_law_392 : decode cL_law 392 = .ok (.iadd, 1) := by decide +kernel
theorem dL_law_393 : decode cL_law 393 = .ok (.iaload, 1) := by decide +kernel
theorem dL_law_394 : decode cL_law 394 = .ok (.invokevirtual 48, 3) := by decide +kernel
theorem dL_law_397 : decode cL_law 397 = .ok (.if_icmp .eq 667, 3) := by decide +kernel
theorem dL_law_400 : decode cL_law 400 = .ok (.iconst 0, 1) := by decide +kernel
theorem dL_law_401 : decode cL_law 401 = .ok (.ireturn, 1) := by decide +kernel
theorem dL_law_402 : decode cL_law 402 = .ok (.aload_n 1, 1) := by decide +kernel
theorem dL_law_403 : decode cL_law 403 = .ok (.aload_n 0, 1) := by decide +kernel
theorem dL_law_404 : decode cL_law 404 = .ok (.iload_n 3, 1) := by decide +kernel
theorem dL_law_405 : decode cL_law 405 = .ok (.iconst 1, 1) := by decide +kernel
theorem dL_law_406 : decode cL_law 406 = .ok (.iadd, 1) := by decide +kernel
theorem dL_law_407 : decode cL_law 407 = .ok (.iaload, 1) := by decide +kernel
theorem dL_law_408 : decode cL_law 408 = .ok (.invokevirtual 49, 3) := by decide +kernel
theorem dL_law_411 : decode cL_law 411 = .ok (.aload_n 2, 1) := by decide +kernel
theorem dL_law_412 : decode cL_law 412 = .ok (.aload_n 0, 1) := by decide +kernel
theorem dL_law_413 : decode cL_law 413 = .ok (.iload_n 3, 1) := by decide +kernel
theorem dL_law_414 : decode cL_law 414 = .ok (.iconst 1, 1) := by decide +kernel
theorem dL_law_415 : decode cL_law 415 = .ok (.iadd, 1) := by decide +kernel
theorem dL_law_416 : decode cL_law 416 = .ok (.iaload, 1) := by decide +kernel
theorem dL_law_417 : decode cL_law 417 = .ok (.invokevirtual 52, 3) := by decide +kernel
theorem dL_law_420 : decode cL_law 420 = .ok (.if_icmp .eq 644, 3) := by decide +kernel
theorem dL_law_423 : decode cL_law 423 = .ok (.iconst 0, 1) := by decide +kernel
theorem dL_law_424 : decode cL_law 424 = .ok (.ireturn, 1) := by decide +kernel
theorem dL_law_425 : decode cL_law 425 = .ok (.aload_n 1, 1) := by decide +kernel
theorem dL_law_426 : decode cL_law 426 = .ok (.aload_n 0, 1) := by decide +kernel
theorem dL_law_427 : decode cL_law 427 = .ok (.iload_n 3, 1) := by decide +kernel
theorem dL_law_428 : decode cL_law 428 = .ok (.iconst 1, 1) := by decide +kernel
theorem dL_law_429 : decode cL_law 429 = .ok (.iadd, 1) := by decide +kernel
theorem dL_law_430 : decode cL_law 430 = .ok (.iaload, 1) := by decide +kernel
theorem dL_law_431 : decode cL_law 431 = .ok (.invokevirtual 53, 3) := by decide +kernel
theorem dL_law_434 : decode cL_law 434 = .ok (.aload_n 2, 1) := by decide +kernel
theorem dL_law_435 : decode cL_law 435 = .ok (.aload_n 0, 1) := by decide +kernel
theorem dL_law_436 : decode cL_law 436 = .ok (.iload_n 3, 1) := by decide +kernel
theorem dL_law_437 : decode cL_law 437 = .ok (.iconst 1, 1) := by decide +kernel
theorem dL_law_438 : decode cL_law 438 = .ok (.iadd, 1) := by decide +kernel
theorem dL_law_439 : decode cL_law 439 = .ok (.iaload, 1) := by decide +kernel
theorem dL_law_440 : decode cL_law 440 = .ok (.invokevirtual 56, 3) := by decide +kernel
theorem dL_law_443 : decode cL_law 443 = .ok (.if_icmp .eq 621, 3) := by decide +kernel
theorem dL_law_446 : decode cL_law 446 = .ok (.iconst 0, 1) := by decide +kernel
theorem dL_law_447 : decode cL_law 447 = .ok (.ireturn, 1) := by decide +kernel
theorem dL_law_448 : decode cL_law 448 = .ok (.aload_n 1, 1) := by decide +kernel
theorem dL_law_449 : decode cL_law 449 = .ok (.aload_n 0, 1) := by decide +kernel
theorem dL_law_450 : decode cL_law 450 = .ok (.iload_n 3, 1) := by decide +kernel
theorem dL_law_451 : decode cL_law 451 = .ok (.iconst 1, 1) := by decide +kernel
theorem dL_law_452 : decode cL_law 452 = .ok (.iadd, 1) := by decide +kernel
theorem dL_law_453 : decode cL_law 453 = .ok (.iaload, 1) := by decide +kernel
theorem dL_law_454 : decode cL_law 454 = .ok (.aload_n 0, 1) := by decide +kernel
theorem dL_law_455 : decode cL_law 455 = .ok (.iload_n 3, 1) := by decide +kernel
theorem dL_law_456 : decode cL_law 456 = .ok (.iconst 2, 1) := by decide +kernel
theorem dL_law_457 : decode cL_law 457 = .ok (.iadd, 1) := by decide +kernel
theorem dL_law_458 : decode cL_law 458 = .ok (.iaload, 1) := by decide +kernel
theorem dL_law_459 : decode cL_law 459 = .ok (.ifCond .eq 7, 3) := by decide +kernel
theorem dL_law_462 : decode cL_law 462 = .ok (.iconst 1, 1) := by decide +kernel
theorem dL_law_463 : decode cL_law 463 = .ok (.goto 4, 3) := by decide +kernel
theorem dL_law_466 : decode cL_law 466 = .ok (.iconst 0, 1) := by decide +kernel
theorem dL_law_467 : decode cL_law 467 = .ok (.invokevirtual 57, 3) := by decide +kernel
theorem dL_law_470 : decode cL_law 470 = .ok (.aload_n 2, 1) := by decide +kernel
theorem dL_law_471 : decode cL_law 471 = .ok (.aload_n 0, 1) := by decide +kernel
theorem dL_law_472 : decode cL_law 472 = .ok (.iload_n 3, 1) := by decide +kernel
theorem dL_law_473 : decode cL_law 473 = .ok (.iconst 1, 1) := by decide +kernel
theorem dL_law_474 : decode cL_law 474 = .ok (.iadd, 1) := by decide +kernel
theorem dL_law_475 : decode cL_law 475 = .ok (.iaload, 1) := by decide +kernel
theorem dL_law_476 : decode cL_law 476 = .ok (.aload_n 0, 1) := by decide +kernel
theorem dL_law_477 : decode cL_law 477 = .ok (.iload_n 3, 1) := by decide +kernel
theorem dL_law_478 : decode cL_law 478 = .ok (.iconst 2, 1) := by decide +kernel
theorem dL_law_479 : decode cL_law 479 = .ok (.iadd, 1) := by decide +kernel
theorem dL_law_480 : decode cL_law 480 = .ok (.iaload, 1) := by decide +kernel
theorem dL_law_481 : decode cL_law 481 = .ok (.ifCond .eq 7, 3) := by decide +kernel
theorem dL_law_484 : decode cL_law 484 = .ok (.iconst 1, 1) := by decide +kernel
theorem dL_law_485 : decode cL_law 485 = .ok (.goto 4, 3) := by decide +kernel
theorem dL_law_488 : decode cL_law 488 = .ok (.iconst 0, 1) := by decide +kernel
theorem dL_law_489 : decode cL_law 489 = .ok (.invokevirtual 61, 3) := by decide +kernel
theorem dL_law_492 : decode cL_law 492 = .ok (.if_icmp .eq 572, 3) := by decide +kernel
theorem dL_law_495 : decode cL_law 495 = .ok (.iconst 0, 1) := by decide +kernel
theorem dL_law_496 : decode cL_law 496 = .ok (.ireturn, 1) := by decide +kernel
theorem dL_law_497 : decode cL_law 497 = .ok (.aload_n 1, 1) := by decide +kernel
theorem dL_law_498 : decode cL_law 498 = .ok (.aload_n 0, 1) := by decide +kernel
theorem dL_law_499 : decode cL_law 499 = .ok (.iload_n 3, 1) := by decide +kernel
theorem dL_law_500 : decode cL_law 500 = .ok (.iconst 1, 1) := by decide +kernel
theorem dL_law_501 : decode cL_law 501 = .ok (.iadd, 1) := by decide +kernel
theorem dL_law_502 : decode cL_law 502 = .ok (.iaload, 1) := by decide +kernel
theorem dL_law_503 : decode cL_law 503 = .ok (.invokevirtual 62, 3) := by decide +kernel
theorem dL_law_506 : decode cL_law 506 = .ok (.aload_n 2, 1) := by decide +kernel
theorem dL_law_507 : decode cL_law 507 = .ok (.aload_n 0, 1) := by decide +kernel
theorem dL_law_508 : decode cL_law 508 = .ok (.iload_n 3, 1) := by decide +kernel
theorem dL_law_509 : decode cL_law 509 = .ok (.iconst 1, 1) := by decide +kernel
theorem dL_law_510 : decode cL_law 510 = .ok (.iadd, 1) := by decide +kernel
theorem dL_law_511 : decode cL_law 511 = .ok (.iaload, 1) := by decide +kernel
theorem dL_law_512 : decode cL_law 512 = .ok (.invokevirtual 66, 3) := by decide +kernel
theorem dL_law_515 : decode cL_law 515 = .ok (.if_icmp .eq 549, 3) := by decide +kernel
theorem dL_law_518 : decode cL_law 518 = .ok (.iconst 0, 1) := by decide +kernel
theorem dL_law_519 : decode cL_law 519 = .ok (.ireturn, 1) := by decide +kernel
theorem dL_law_520 : decode cL_law 520 = .ok (.aload_n 1, 1) := by decide +kernel
theorem dL_law_521 : decode cL_law 521 = .ok (.aload_n 0, 1) := by decide +kernel
theorem dL_law_522 : decode cL_law 522 = .ok (.iload_n 3, 1) := by decide +kernel
theorem dL_law_523 : decode cL_law 523 = .ok (.iconst 1, 1) := by decide +kernel
theorem dL_law_524 : decode cL_law 524 = .ok (.iadd, 1) := by decide +kernel
theorem dL_law_525 : decode cL_law 525 = .ok (.iaload, 1) := by decide +kernel
theorem dL_law_526 : decode cL_law 526 = .ok (.aload_n 0, 1) := by decide +kernel
theorem dL_law_527 : decode cL_law 527 = .ok (.iload_n 3, 1) := by decide +kernel
theorem dL_law_528 : decode cL_law 528 = .ok (.iconst 2, 1) := by decide +kernel
theorem dL_law_529 : decode cL_law 529 = .ok (.iadd, 1) := by decide +kernel
theorem dL_law_530 : decode cL_law 530 = .ok (.iaload, 1) := by decide +kernel
theorem dL_law_531 : decode cL_law 531 = .ok (.invokevirtual 67, 3) := by decide +kernel
theorem dL_law_534 : decode cL_law 534 = .ok (.aload_n 2, 1) := by decide +kernel
theorem dL_law_535 : decode cL_law 535 = .ok (.aload_n 0, 1) := by decide +kernel
theorem dL_law_536 : decode cL_law 536 = .ok (.iload_n 3, 1) := by decide +kernel
theorem dL_law_537 : decode cL_law 537 = .ok (.iconst 1, 1) := by decide +kernel
theorem dL_law_538 : decode cL_law 538 = .ok (.iadd, 1) := by decide +kernel
theorem dL_law_539 : decode cL_law 539 = .ok (.iaload, 1) := by decide +kernel
theorem dL_law_540 : decode cL_law 540 = .ok (.aload_n 0, 1) := by decide +kernel
theorem dL_law_541 : decode cL_law 541 = .ok (.iload_n 3, 1) := by decide +kernel
theorem dL_law_542 : decode cL_law 542 = .ok (.iconst 2, 1) := by decide +kernel
theorem dL_law_543 : decode cL_law 543 = .ok (.iadd, 1) := by decide +kernel
theorem dL_law_544 : decode cL_law 544 = .ok (.iaload, 1) := by decide +kernel
theorem dL_law_545 : decode cL_law 545 = .ok (.invokevirtual 70, 3) := by decide +kernel
theorem dL_law_548 : decode cL_law 548 = .ok (.if_icmp .eq 516, 3) := by decide +kernel
theorem dL_law_551 : decode cL_law 551 = .ok (.iconst 0, 1) := by decide +kernel
theorem dL_law_552 : decode cL_law 552 = .ok (.ireturn, 1) := by decide +kernel
theorem dL_law_553 : decode cL_law 553 = .ok (.aload_n 1, 1) := by decide +kernel
theorem dL_law_554 : decode cL_law 554 = .ok (.aload_n 0, 1) := by decide +kernel
theorem dL_law_555 : decode cL_law 555 = .ok (.iload_n 3, 1) := by decide +kernel
theorem dL_law_556 : decode cL_law 556 = .ok (.iconst 1, 1) := by decide +kernel
theorem dL_law_557 : decode cL_law 557 = .ok (.iadd, 1) := by decide +kernel
theorem dL_law_558 : decode cL_law 558 = .ok (.iaload, 1) := by decide +kernel
theorem dL_law_559 : decode cL_law 559 = .ok (.aload_n 0, 1) := by decide +kernel
theorem dL_law_560 : decode cL_law 560 = .ok (.iload_n 3, 1) := by decide +kernel
theorem dL_law_561 : decode cL_law 561 = .ok (.iconst 2, 1) := by decide +kernel
theorem dL_law_562 : decode cL_law 562 = .ok (.iadd, 1) := by decide +kernel
theorem dL_law_563 : decode cL_law 563 = .ok (.iaload, 1) := by decide +kernel
theorem dL_law_564 : decode cL_law 564 = .ok (.invokevirtual 71, 3) := by decide +kernel
theorem dL_law_567 : decode cL_law 567 = .ok (.aload_n 2, 1) := by decide +kernel
theorem dL_law_568 : decode cL_law 568 = .ok (.aload_n 0, 1) := by decide +kernel
theorem dL_law_569 : decode cL_law 569 = .ok (.iload_n 3, 1) := by decide +kernel
theorem dL_law_570 : decode cL_law 570 = .ok (.iconst 1, 1) := by decide +kernel
theorem dL_law_571 : decode cL_law 571 = .ok (.iadd, 1) := by decide +kernel
theorem dL_law_572 : decode cL_law 572 = .ok (.iaload, 1) := by decide +kernel
theorem dL_law_573 : decode cL_law 573 = .ok (.aload_n 0, 1) := by decide +kernel
theorem dL_law_574 : decode cL_law 574 = .ok (.iload_n 3, 1) := by decide +kernel
theorem dL_law_575 : decode cL_law 575 = .ok (.iconst 2, 1) := by decide +kernel
theorem dL_law_576 : decode cL_law 576 = .ok (.iadd, 1) := by decide +kernel
theorem dL_law_577 : decode cL_law 577 = .ok (.iaload, 1) := by decide +kernel
theorem dL_law_578 : decode cL_law 578 = .ok (.invokevirtual 74, 3) := by decide +kernel
theorem dL_law_581 : decode cL_law 581 = .ok (.if_icmp .eq 483, 3) := by decide +kernel
theorem dL_law_584 : decode cL_law 584 = .ok (.iconst 0, 1) := by decide +kernel
theorem dL_law_585 : decode cL_law 585 = .ok (.ireturn, 1) := by decide +kernel
theorem dL_law_586 : decode cL_law 586 = .ok (.aload_n 1, 1) := by decide +kernel
theorem dL_law_587 : decode cL_law 587 = .ok (.aload_n 0, 1) := by decide +kernel
theorem dL_law_588 : decode cL_law 588 = .ok (.iload_n 3, 1) := by decide +kernel
theorem dL_law_589 : decode cL_law 589 = .ok (.iconst 1, 1) := by decide +kernel
theorem dL_law_590 : decode cL_law 590 = .ok (.iadd, 1) := by decide +kernel
theorem dL_law_591 : decode cL_law 591 = .ok (.iaload, 1) := by decide +kernel
theorem dL_law_592 : decode cL_law 592 = .ok (.aload_n 0, 1) := by decide +kernel
theorem dL_law_593 : decode cL_law 593 = .ok (.iload_n 3, 1) := by decide +kernel
theorem dL_law_594 : decode cL_law 594 = .ok (.iconst 2, 1) := by decide +kernel
theorem dL_law_595 : decode cL_law 595 = .ok (.iadd, 1) := by decide +kernel
theorem dL_law_596 : decode cL_law 596 = .ok (.iaload, 1) := by decide +kernel
theorem dL_law_597 : decode cL_law 597 = .ok (.invokevirtual 75, 3) := by decide +kernel
theorem dL_law_600 : decode cL_law 600 = .ok (.aload_n 2, 1) := by decide +kernel
theorem dL_law_601 : decode cL_law 601 = .ok (.aload_n 0, 1) := by decide +kernel
theorem dL_law_602 : decode cL_law 602 = .ok (.iload_n 3, 1) := by decide +kernel
theorem dL_law_603 : decode cL_law 603 = .ok (.iconst 1, 1) := by decide +kernel
theorem dL_law_604 : decode cL_law 604 = .ok (.iadd, 1) := by decide +kernel
theorem dL_law_605 : decode cL_law 605 = .ok (.iaload, 1) := by decide +kernel
theorem dL_law_606 : decode cL_law 606 = .ok (.aload_n 0, 1) := by decide +kernel
theorem dL_law_607 : decode cL_law 607 = .ok (.iload_n 3, 1) := by decide +kernel
theorem dL_law_608 : decode cL_law 608 = .ok (.iconst 2, 1) := by decide +kernel
theorem dL_law_609 : decode cL_law 609 = .ok (.iadd, 1) := by decide +kernel
theorem dL_law_610 : decode cL_law 610 = .ok (.iaload, 1) := by decide +kernel
theorem dL_law_611 : decode cL_law 611 = .ok (.invokevirtual 78, 3) := by decide +kernel
theorem dL_law_614 : decode cL_law 614 = .ok (.if_icmp .eq 450, 3) := by decide +kernel
theorem dL_law_617 : decode cL_law 617 = .ok (.iconst 0, 1) := by decide +kernel
theorem dL_law_618 : decode cL_law 618 = .ok (.ireturn, 1) := by decide +kernel
theorem dL_law_619 : decode cL_law 619 = .ok (.aload_n 1, 1) := by decide +kernel
theorem dL_law_620 : decode cL_law 620 = .ok (.aload_n 0, 1) := by decide +kernel
theorem dL_law_621 : decode cL_law 621 = .ok (.iload_n 3, 1) := by decide +kernel
theorem dL_law_622 : decode cL_law 622 = .ok (.iconst 1, 1) := by decide +kernel
theorem dL_law_623 : decode cL_law 623 = .ok (.iadd, 1) := by decide +kernel
theorem dL_law_624 : decode cL_law 624 = .ok (.iaload, 1) := by decide +kernel
theorem dL_law_625 : decode cL_law 625 = .ok (.invokevirtual 79, 3) := by decide +kernel
theorem dL_law_628 : decode cL_law 628 = .ok (.aload_n 2, 1) := by decide +kernel
theorem dL_law_629 : decode cL_law 629 = .ok (.aload_n 0, 1) := by decide +kernel
theorem dL_law_630 : decode cL_law 630 = .ok (.iload_n 3, 1) := by decide +kernel
theorem dL_law_631 : decode cL_law 631 = .ok (.iconst 1, 1) := by decide +kernel
theorem dL_law_632 : decode cL_law 632 = .ok (.iadd, 1) := by decide +kernel
theorem dL_law_633 : decode cL_law 633 = .ok (.iaload, 1) := by decide +kernel
theorem dL_law_634 : decode cL_law 634 = .ok (.invokevirtual 82, 3) := by decide +kernel
theorem dL_law_637 : decode cL_law 637 = .ok (.if_icmp .eq 427, 3) := by decide +kernel
theorem dL_law_640 : decode cL_law 640 = .ok (.iconst 0, 1) := by decide +kernel
theorem dL_law_641 : decode cL_law 641 = .ok (.ireturn, 1) := by decide +kernel
theorem dL_law_642 : decode cL_law 642 = .ok (.aload_n 1, 1) := by decide +kernel
theorem dL_law_643 : decode cL_law 643 = .ok (.aload_n 0, 1) := by decide +kernel
theorem dL_law_644 : decode cL_law 644 = .ok (.iload_n 3, 1) := by decide +kernel
theorem dL_law_645 : decode cL_law 645 = .ok (.iconst 1, 1) := by decide +kernel
theorem dL_law_646 : decode cL_law 646 = .ok (.iadd, 1) := by decide +kernel
theorem dL_law_647 : decode cL_law 647 = .ok (.iaload, 1) := by decide +kernel
theorem dL_law_648 : decode cL_law 648 = .ok (.aload_n 0, 1) := by decide +kernel
theorem dL_law_649 : decode cL_law 649 = .ok (.iload_n 3, 1) := by decide +kernel
theorem dL_law_650 : decode cL_law 650 = .ok (.iconst 2, 1) := by decide +kernel
theorem dL_law_651 : decode cL_law 651 = .ok (.iadd, 1) := by decide +kernel
theorem dL_law_652 : decode cL_law 652 = .ok (.iaload, 1) := by decide +kernel
theorem dL_law_653 : decode cL_law 653 = .ok (.invokevirtual 83, 3) := by decide +kernel
theorem dL_law_656 : decode cL_law 656 = .ok (.aload_n 2, 1) := by decide +kernel
theorem dL_law_657 : decode cL_law 657 = .ok (.aload_n 0, 1) := by decide +kernel
theorem dL_law_658 : decode cL_law 658 = .ok (.iload_n 3, 1) := by decide +kernel
theorem dL_law_659 : decode cL_law 659 = .ok (.iconst 1, 1) := by decide +kernel
theorem dL_law_660 : decode cL_law 660 = .ok (.iadd, 1) := by decide +kernel
theorem dL_law_661 : decode cL_law 661 = .ok (.iaload, 1) := by decide +kernel
theorem dL_law_662 : decode cL_law 662 = .ok (.aload_n 0, 1) := by decide +kernel
theorem dL_law_663 : decode cL_law 663 = .ok (.iload_n 3, 1) := by decide +kernel
theorem dL_law_664 : decode cL_law 664 = .ok (.iconst 2, 1) := by decide +kernel
theorem dL_law_665 : decode cL_law 665 = .ok (.iadd, 1) := by decide +kernel
theorem dL_law_666 : decode cL_law 666 = .ok (.iaload, 1) := by decide +kernel
theorem dL_law_667 : decode cL_law 667 = .ok (.invokevirtual 86, 3) := by decide +kernel
theorem dL_law_670 : decode cL_law 670 = .ok (.if_icmp .eq 394, 3) := by decide +kernel
theorem dL_law_673 : decode cL_law 673 = .ok (.iconst 0, 1) := by decide +kernel
theorem dL_law_674 : decode cL_law 674 = .ok (.ireturn, 1) := by decide +kernel
theorem dL_law_675 : decode cL_law 675 = .ok (.aload_n 1, 1) := by decide +kernel
theorem dL_law_676 : decode cL_law 676 = .ok (.aload_n 0, 1) := by decide +kernel
theorem dL_law_677 : decode cL_law 677 = .ok (.iload_n 3, 1) := by decide +kernel
theorem dL_law_678 : decode cL_law 678 = .ok (.iconst 1, 1) := by decide +kernel
theorem dL_law_679 : decode cL_law 679 = .ok (.iadd, 1) := by decide +kernel
theorem dL_law_680 : decode cL_law 680 = .ok (.iaload, 1) := by decide +kernel
theorem dL_law_681 : decode cL_law 681 = .ok (.aload_n 0, 1) := by decide +kernel
theorem dL_law_682 : decode cL_law 682 = .ok (.iload_n 3, 1) := by decide +kernel
theorem dL_law_683 : decode cL_law 683 = .ok (.iconst 2, 1) := by decide +kernel
theorem dL_law_684 : decode cL_law 684 = .ok (.iadd, 1) := by decide +kernel
theorem dL_law_685 : decode cL_law 685 = .ok (.iaload, 1) := by decide +kernel
theorem dL_law_686 : decode cL_law 686 = .ok (.invokevirtual 87, 3) := by decide +kernel
theorem dL_law_689 : decode cL_law 689 = .ok (.aload_n 2, 1) := by decide +kernel
theorem dL_law_690 : decode cL_law 690 = .ok (.aload_n 0, 1) := by decide +kernel
theorem dL_law_691 : decode cL_law 691 = .ok (.iload_n 3, 1) := by decide +kernel
theorem dL_law_692 : decode cL_law 692 = .ok (.iconst 1, 1) := by decide +kernel
theorem dL_law_693 : decode cL_law 693 = .ok (.iadd, 1) := by decide +kernel
theorem dL_law_694 : decode cL_law 694 = .ok (.iaload, 1) := by decide +kernel
theorem dL_law_695 : decode cL_law 695 = .ok (.aload_n 0, 1) := by decide +kernel
theorem dL_law_696 : decode cL_law 696 = .ok (.iload_n 3, 1) := by decide +kernel
theorem dL_law_697 : decode cL_law 697 = .ok (.iconst 2, 1) := by decide +kernel
theorem dL_law_698 : decode cL_law 698 = .ok (.iadd, 1) := by decide +kernel
theorem dL_law_699 : decode cL_law 699 = .ok (.iaload, 1) := by decide +kernel
theorem dL_law_700 : decode cL_law 700 = .ok (.invokevirtual 90, 3) := by decide +kernel
theorem dL_law_703 : decode cL_law 703 = .ok (.if_icmp .eq 361, 3) := by decide +kernel
theorem dL_law_706 : decode cL_law 706 = .ok (.iconst 0, 1) := by decide +kernel
theorem dL_law_707 : decode cL_law 707 = .ok (.ireturn, 1) := by decide +kernel
theorem dL_law_708 : decode cL_law 708 = .ok (.aload_n 1, 1) := by decide +kernel
theorem dL_law_709 : decode cL_law 709 = .ok (.aload_n 0, 1) := by decide +kernel
theorem dL_law_710 : decode cL_law 710 = .ok (.iload_n 3, 1) := by decide +kernel
theorem dL_law_711 : decode cL_law 711 = .ok (.iconst 1, 1) := by decide +kernel
theorem dL_law_712 : decode cL_law 712 = .ok (.iadd, 1) := by decide +kernel
theorem dL_law_713 : decode cL_law 713 = .ok (.iaload, 1) := by decide +kernel
theorem dL_law_714 : decode cL_law 714 = .ok (.aload_n 0, 1) := by decide +kernel
theorem dL_law_715 : decode cL_law 715 = .ok (.iload_n 3, 1) := by decide +kernel
theorem dL_law_716 : decode cL_law 716 = .ok (.iconst 2, 1) := by decide +kernel
theorem dL_law_717 : decode cL_law 717 = .ok (.iadd, 1) := by decide +kernel
theorem dL_law_718 : decode cL_law 718 = .ok (.iaload, 1) := by decide +kernel
theorem dL_law_719 : decode cL_law 719 = .ok (.invokevirtual 91, 3) := by decide +kernel
theorem dL_law_722 : decode cL_law 722 = .ok (.aload_n 2, 1) := by decide +kernel
theorem dL_law_723 : decode cL_law 723 = .ok (.aload_n 0, 1) := by decide +kernel
theorem dL_law_724 : decode cL_law 724 = .ok (.iload_n 3, 1) := by decide +kernel
theorem dL_law_725 : decode cL_law 725 = .ok (.iconst 1, 1) := by decide +kernel
theorem dL_law_726 : decode cL_law 726 = .ok (.iadd, 1) := by decide +kernel
theorem dL_law_727 : decode cL_law 727 = .ok (.iaload, 1) := by decide +kernel
theorem dL_law_728 : decode cL_law 728 = .ok (.aload_n 0, 1) := by decide +kernel
theorem dL_law_729 : decode cL_law 729 = .ok (.iload_n 3, 1) := by decide +kernel
theorem dL_law_730 : decode cL_law 730 = .ok (.iconst 2, 1) := by decide +kernel
theorem dL_law_731 : decode cL_law 731 = .ok (.iadd, 1) := by decide +kernel
theorem dL_law_732 : decode cL_law 732 = .ok (.iaload, 1) := by decide +kernel
theorem dL_law_733 : decode cL_law 733 = .ok (.invokevirtual 94, 3) := by decide +kernel
theorem dL_law_736 : decode cL_law 736 = .ok (.if_icmp .eq 328, 3) := by decide +kernel
theorem dL_law_739 : decode cL_law 739 = .ok (.iconst 0, 1) := by decide +kernel
theorem dL_law_740 : decode cL_law 740 = .ok (.ireturn, 1) := by decide +kernel
theorem dL_law_741 : decode cL_law 741 = .ok (.aload_n 1, 1) := by decide +kernel
theorem dL_law_742 : decode cL_law 742 = .ok (.aload_n 0, 1) := by decide +kernel
theorem dL_law_743 : decode cL_law 743 = .ok (.iload_n 3, 1) := by decide +kernel
theorem dL_law_744 : decode cL_law 744 = .ok (.iconst 1, 1) := by decide +kernel
theorem dL_law_745 : decode cL_law 745 = .ok (.iadd, 1) := by decide +kernel
theorem dL_law_746 : decode cL_law 746 = .ok (.iaload, 1) := by decide +kernel
theorem dL_law_747 : decode cL_law 747 = .ok (.invokevirtual 95, 3) := by decide +kernel
theorem dL_law_750 : decode cL_law 750 = .ok (.aload_n 2, 1) := by decide +kernel
theorem dL_law_751 : decode cL_law 751 = .ok (.aload_n 0, 1) := by decide +kernel
theorem dL_law_752 : decode cL_law 752 = .ok (.iload_n 3, 1) := by decide +kernel
theorem dL_law_753 : decode cL_law 753 = .ok (.iconst 1, 1) := by decide +kernel
theorem dL_law_754 : decode cL_law 754 = .ok (.iadd, 1) := by decide +kernel
theorem dL_law_755 : decode cL_law 755 = .ok (.iaload, 1) := by decide +kernel
theorem dL_law_756 : decode cL_law 756 = .ok (.invokevirtual 98, 3) := by decide +kernel
theorem dL_law_759 : decode cL_law 759 = .ok (.if_icmp .eq 305, 3) := by decide +kernel
theorem dL_law_762 : decode cL_law 762 = .ok (.iconst 0, 1) := by decide +kernel
theorem dL_law_763 : decode cL_law 763 = .ok (.ireturn, 1) := by decide +kernel
theorem dL_law_764 : decode cL_law 764 = .ok (.aload_n 1, 1) := by decide +kernel
theorem dL_law_765 : decode cL_law 765 = .ok (.aload_n 0, 1) := by decide +kernel
theorem dL_law_766 : decode cL_law 766 = .ok (.iload_n 3, 1) := by decide +kernel
theorem dL_law_767 : decode cL_law 767 = .ok (.iconst 1, 1) := by decide +kernel
theorem dL_law_768 : decode cL_law 768 = .ok (.iadd, 1) := by decide +kernel
theorem dL_law_769 : decode cL_law 769 = .ok (.iaload, 1) := by decide +kernel
theorem dL_law_770 : decode cL_law 770 = .ok (.aload_n 0, 1) := by decide +kernel
theorem dL_law_771 : decode cL_law 771 = .ok (.iload_n 3, 1) := by decide +kernel
theorem dL_law_772 : decode cL_law 772 = .ok (.iconst 2, 1) := by decide +kernel
theorem dL_law_773 : decode cL_law 773 = .ok (.iadd, 1) := by decide +kernel
theorem dL_law_774 : decode cL_law 774 = .ok (.iaload, 1) := by decide +kernel
theorem dL_law_775 : decode cL_law 775 = .ok (.invokevirtual 99, 3) := by decide +kernel
theorem dL_law_778 : decode cL_law 778 = .ok (.aload_n 2, 1) := by decide +kernel
theorem dL_law_779 : decode cL_law 779 = .ok (.aload_n 0, 1) := by decide +kernel
theorem dL_law_780 : decode cL_law 780 = .ok (.iload_n 3, 1) := by decide +kernel
theorem dL_law_781 : decode cL_law 781 = .ok (.iconst 1, 1) := by decide +kernel
theorem dL_law_782 : decode cL_law 782 = .ok (.iadd, 1) := by decide +kernel
theorem dL_law_783 : decode cL_law 783 = .ok (.iaload, 1) := by decide +kernel
theorem dL_law_784 : decode cL_law 784 = .ok (.aload_n 0, 1) := by decide +kernel
theorem dL_law_785 : decode cL_law 785 = .ok (.iload_n 3, 1) := by decide +kernel
theorem dL_law_786 : decode cL_law 786 = .ok (.iconst 2, 1) := by decide +kernel
theorem dL_law_787 : decode cL_law 787 = .ok (.iadd, 1) := by decide +kernel
theorem dL_law_788 : decode cL_law 788 = .ok (.iaload, 1) := by decide +kernel
theorem dL_law_789 : decode cL_law 789 = .ok (.invokevirtual 102, 3) := by decide +kernel
theorem dL_law_792 : decode cL_law 792 = .ok (.if_icmp .eq 272, 3) := by decide +kernel
theorem dL_law_795 : decode cL_law 795 = .ok (.iconst 0, 1) := by decide +kernel
theorem dL_law_796 : decode cL_law 796 = .ok (.ireturn, 1) := by decide +kernel
theorem dL_law_797 : decode cL_law 797 = .ok (.aload_n 1, 1) := by decide +kernel
theorem dL_law_798 : decode cL_law 798 = .ok (.aload_n 0, 1) := by decide +kernel
theorem dL_law_799 : decode cL_law 799 = .ok (.iload_n 3, 1) := by decide +kernel
theorem dL_law_800 : decode cL_law 800 = .ok (.iconst 1, 1) := by decide +kernel
theorem dL_law_801 : decode cL_law 801 = .ok (.iadd, 1) := by decide +kernel
theorem dL_law_802 : decode cL_law 802 = .ok (.iaload, 1) := by decide +kernel
theorem dL_law_803 : decode cL_law 803 = .ok (.invokevirtual 103, 3) := by decide +kernel
theorem dL_law_806 : decode cL_law 806 = .ok (.aload_n 2, 1) := by decide +kernel
theorem dL_law_807 : decode cL_law 807 = .ok (.aload_n 0, 1) := by decide +kernel
theorem dL_law_808 : decode cL_law 808 = .ok (.iload_n 3, 1) := by decide +kernel
theorem dL_law_809 : decode cL_law 809 = .ok (.iconst 1, 1) := by decide +kernel
theorem dL_law_810 : decode cL_law 810 = .ok (.iadd, 1) := by decide +kernel
theorem dL_law_811 : decode cL_law 811 = .ok (.iaload, 1) := by decide +kernel
theorem dL_law_812 : decode cL_law 812 = .ok (.invokevirtual 106, 3) := by decide +kernel
theorem dL_law_815 : decode cL_law 815 = .ok (.if_icmp .eq 249, 3) := by decide +kernel
theorem dL_law_818 : decode cL_law 818 = .ok (.iconst 0, 1) := by decide +kernel
theorem dL_law_819 : decode cL_law 819 = .ok (.ireturn, 1) := by decide +kernel
theorem dL_law_820 : decode cL_law 820 = .ok (.aload_n 1, 1) := by decide +kernel
theorem dL_law_821 : decode cL_law 821 = .ok (.aload_n 0, 1) := by decide +kernel
theorem dL_law_822 : decode cL_law 822 = .ok (.iload_n 3, 1) := by decide +kernel
theorem dL_law_823 : decode cL_law 823 = .ok (.iconst 1, 1) := by decide +kernel
theorem dL_law_824 : decode cL_law 824 = .ok (.iadd, 1) := by decide +kernel
theorem dL_law_825 : decode cL_law 825 = .ok (.iaload, 1) := by decide +kernel
theorem dL_law_826 : decode cL_law 826 = .ok (.aload_n 0, 1) := by decide +kernel
theorem dL_law_827 : decode cL_law 827 = .ok (.iload_n 3, 1) := by decide +kernel
theorem dL_law_828 : decode cL_law 828 = .ok (.iconst 2, 1) := by decide +kernel
theorem dL_law_829 : decode cL_law 829 = .ok (.iadd, 1) := by decide +kernel
theorem dL_law_830 : decode cL_law 830 = .ok (.iaload, 1) := by decide +kernel
theorem dL_law_831 : decode cL_law 831 = .ok (.aload_n 0, 1) := by decide +kernel
theorem dL_law_832 : decode cL_law 832 = .ok (.iload_n 3, 1) := by decide +kernel
theorem dL_law_833 : decode cL_law 833 = .ok (.iconst 3, 1) := by decide +kernel
theorem dL_law_834 : decode cL_law 834 = .ok (.iadd, 1) := by decide +kernel
theorem dL_law_835 : decode cL_law 835 = .ok (.iaload, 1) := by decide +kernel
theorem dL_law_836 : decode cL_law 836 = .ok (.aload_n 0, 1) := by decide +kernel
theorem dL_law_837 : decode cL_law 837 = .ok (.iload_n 3, 1) := by decide +kernel
theorem dL_law_838 : decode cL_law 838 = .ok (.iconst 4, 1) := by decide +kernel
theorem dL_law_839 : decode cL_law 839 = .ok (.iadd, 1) := by decide +kernel
theorem dL_law_840 : decode cL_law 840 = .ok (.iaload, 1) := by decide +kernel
theorem dL_law_841 : decode cL_law 841 = .ok (.invokevirtual 107, 3) := by decide +kernel
theorem dL_law_844 : decode cL_law 844 = .ok (.aload_n 2, 1) := by decide +kernel
theorem dL_law_845 : decode cL_law 845 = .ok (.aload_n 0, 1) := by decide +kernel
theorem dL_law_846 : decode cL_law 846 = .ok (.iload_n 3, 1) := by decide +kernel
theorem dL_law_847 : decode cL_law 847 = .ok (.iconst 1, 1) := by decide +kernel
theorem dL_law_848 : decode cL_law 848 = .ok (.iadd, 1) := by decide +kernel
theorem dL_law_849 : decode cL_law 849 = .ok (.iaload, 1) := by decide +kernel
theorem dL_law_850 : decode cL_law 850 = .ok (.aload_n 0, 1) := by decide +kernel
theorem dL_law_851 : decode cL_law 851 = .ok (.iload_n 3, 1) := by decide +kernel
theorem dL_law_852 : decode cL_law 852 = .ok (.iconst 2, 1) := by decide +kernel
theorem dL_law_853 : decode cL_law 853 = .ok (.iadd, 1) := by decide +kernel
theorem dL_law_854 : decode cL_law 854 = .ok (.iaload, 1) := by decide +kernel
theorem dL_law_855 : decode cL_law 855 = .ok (.aload_n 0, 1) := by decide +kernel
theorem dL_law_856 : decode cL_law 856 = .ok (.iload_n 3, 1) := by decide +kernel
theorem dL_law_857 : decode cL_law 857 = .ok (.iconst 3, 1) := by decide +kernel
theorem dL_law_858 : decode cL_law 858 = .ok (.iadd, 1) := by decide +kernel
theorem dL_law_859 : decode cL_law 859 = .ok (.iaload, 1) := by decide +kernel
theorem dL_law_860 : decode cL_law 860 = .ok (.aload_n 0, 1) := by decide +kernel
theorem dL_law_861 : decode cL_law 861 = .ok (.iload_n 3, 1) := by decide +kernel
theorem dL_law_862 : decode cL_law 862 = .ok (.iconst 4, 1) := by decide +kernel
theorem dL_law_863 : decode cL_law 863 = .ok (.iadd, 1) := by decide +kernel
theorem dL_law_864 : decode cL_law 864 = .ok (.iaload, 1) := by decide +kernel
theorem dL_law_865 : decode cL_law 865 = .ok (.invokevirtual 111, 3) := by decide +kernel
theorem dL_law_868 : decode cL_law 868 = .ok (.if_icmp .eq 196, 3) := by decide +kernel
theorem dL_law_871 : decode cL_law 871 = .ok (.iconst 0, 1) := by decide +kernel
theorem dL_law_872 : decode cL_law 872 = .ok (.ireturn, 1) := by decide +kernel
theorem dL_law_873 : decode cL_law 873 = .ok (.aload_n 1, 1) := by decide +kernel
theorem dL_law_874 : decode cL_law 874 = .ok (.aload_n 0, 1) := by decide +kernel
theorem dL_law_875 : decode cL_law 875 = .ok (.iload_n 3, 1) := by decide +kernel
theorem dL_law_876 : decode cL_law 876 = .ok (.iconst 1, 1) := by decide +kernel
theorem dL_law_877 : decode cL_law 877 = .ok (.iadd, 1) := by decide +kernel
theorem dL_law_878 : decode cL_law 878 = .ok (.iaload, 1) := by decide +kernel
theorem dL_law_879 : decode cL_law 879 = .ok (.aload_n 0, 1) := by decide +kernel
theorem dL_law_880 : decode cL_law 880 = .ok (.iload_n 3, 1) := by decide +kernel
theorem dL_law_881 : decode cL_law 881 = .ok (.iconst 2, 1) := by decide +kernel
theorem dL_law_882 : decode cL_law 882 = .ok (.iadd, 1) := by decide +kernel
theorem dL_law_883 : decode cL_law 883 = .ok (.iaload, 1) := by decide +kernel
theorem dL_law_884 : decode cL_law 884 = .ok (.aload_n 0, 1) := by decide +kernel
theorem dL_law_885 : decode cL_law 885 = .ok (.iload_n 3, 1) := by decide +kernel
theorem dL_law_886 : decode cL_law 886 = .ok (.iconst 3, 1) := by decide +kernel
theorem dL_law_887 : decode cL_law 887 = .ok (.iadd, 1) := by decide +kernel
theorem dL_law_888 : decode cL_law 888 = .ok (.iaload, 1) := by decide +kernel
theorem dL_law_889 : decode cL_law 889 = .ok (.invokevirtual 112, 3) := by decide +kernel
theorem dL_law_892 : decode cL_law 892 = .ok (.aload_n 2, 1) := by decide +kernel
theorem dL_law_893 : decode cL_law 893 = .ok (.aload_n 0, 1) := by decide +kernel
theorem dL_law_894 : decode cL_law 894 = .ok (.iload_n 3, 1) := by decide +kernel
theorem dL_law_895 : decode cL_law 895 = .ok (.iconst 1, 1) := by decide +kernel
theorem dL_law_896 : decode cL_law 896 = .ok (.iadd, 1) := by decide +kernel
theorem dL_law_897 : decode cL_law 897 = .ok (.iaload, 1) := by decide +kernel
theorem dL_law_898 : decode cL_law 898 = .ok (.aload_n 0, 1) := by decide +kernel
theorem dL_law_899 : decode cL_law 899 = .ok (.iload_n 3, 1) := by decide +kernel
theorem dL_law_900 : decode cL_law 900 = .ok (.iconst 2, 1) := by decide +kernel
theorem dL_law_901 : decode cL_law 901 = .ok (.iadd, 1) := by decide +kernel
theorem dL_law_902 : decode cL_law 902 = .ok (.iaload, 1) := by decide +kernel
theorem dL_law_903 : decode cL_law 903 = .ok (.aload_n 0, 1) := by decide +kernel
theorem dL_law_904 : decode cL_law 904 = .ok (.iload_n 3, 1) := by decide +kernel
theorem dL_law_905 : decode cL_law 905 = .ok (.iconst 3, 1) := by decide +kernel
theorem dL_law_906 : decode cL_law 906 = .ok (.iadd, 1) := by decide +kernel
theorem dL_law_907 : decode cL_law 907 = .ok (.iaload, 1) := by decide +kernel
theorem dL_law_908 : decode cL_law 908 = .ok (.invokevirtual 116, 3) := by decide +kernel
theorem dL_law_911 : decode cL_law 911 = .ok (.if_icmp .eq 153, 3) := by decide +kernel
theorem dL_law_914 : decode cL_law 914 = .ok (.iconst 0, 1) := by decide +kernel
theorem dL_law_915 : decode cL_law 915 = .ok (.ireturn, 1) := by decide +kernel
theorem dL_law_916 : decode cL_law 916 = .ok (.aload_n 1, 1) := by decide +kernel
theorem dL_law_917 : decode cL_law 917 = .ok (.aload_n 0, 1) := by decide +kernel
theorem dL_law_918 : decode cL_law 918 = .ok (.iload_n 3, 1) := by decide +kernel
theorem dL_law_919 : decode cL_law 919 = .ok (.iconst 1, 1) := by decide +kernel
theorem dL_law_920 : decode cL_law 920 = .ok (.iadd, 1) := by decide +kernel
theorem dL_law_921 : decode cL_law 921 = .ok (.iaload, 1) := by decide +kernel
theorem dL_law_922 : decode cL_law 922 = .ok (.invokevirtual 117, 3) := by decide +kernel
theorem dL_law_925 : decode cL_law 925 = .ok (.aload_n 2, 1) := by decide +kernel
theorem dL_law_926 : decode cL_law 926 = .ok (.aload_n 0, 1) := by decide +kernel
theorem dL_law_927 : decode cL_law 927 = .ok (.iload_n 3, 1) := by decide +kernel
theorem dL_law_928 : decode cL_law 928 = .ok (.iconst 1, 1) := by decide +kernel
theorem dL_law_929 : decode cL_law 929 = .ok (.iadd, 1) := by decide +kernel
theorem dL_law_930 : decode cL_law 930 = .ok (.iaload, 1) := by decide +kernel
theorem dL_law_931 : decode cL_law 931 = .ok (.invokevirtual 120, 3) := by decide +kernel
theorem dL_law_934 : decode cL_law 934 = .ok (.if_icmp .eq 130, 3) := by decide +kernel
theorem dL_law_937 : decode cL_law 937 = .ok (.iconst 0, 1) := by decide +kernel
theorem dL_law_938 : decode cL_law 938 = .ok (.ireturn, 1) := by decide +kernel
theorem dL_law_939 : decode cL_law 939 = .ok (.aload_n 1, 1) := by decide +kernel
theorem dL_law_940 : decode cL_law 940 = .ok (.aload_n 0, 1) := by decide +kernel
theorem dL_law_941 : decode cL_law 941 = .ok (.iload_n 3, 1) := by decide +kernel
theorem dL_law_942 : decode cL_law 942 = .ok (.iconst 1, 1) := by decide +kernel
theorem dL_law_943 : decode cL_law 943 = .ok (.iadd, 1) := by decide +kernel
theorem dL_law_944 : decode cL_law 944 = .ok (.iaload, 1) := by decide +kernel
theorem dL_law_945 : decode cL_law 945 = .ok (.invokevirtual 121, 3) := by decide +kernel
theorem dL_law_948 : decode cL_law 948 = .ok (.aload_n 2, 1) := by decide +kernel
theorem dL_law_949 : decode cL_law 949 = .ok (.aload_n 0, 1) := by decide +kernel
theorem dL_law_950 : decode cL_law 950 = .ok (.iload_n 3, 1) := by decide +kernel
theorem dL_law_951 : decode cL_law 951 = .ok (.iconst 1, 1) := by decide +kernel
theorem dL_law_952 : decode cL_law 952 = .ok (.iadd, 1) := by decide +kernel
theorem dL_law_953 : decode cL_law 953 = .ok (.iaload, 1) := by decide +kernel
theorem dL_law_954 : decode cL_law 954 = .ok (.invokevirtual 124, 3) := by decide +kernel
theorem dL_law_957 : decode cL_law 957 = .ok (.if_icmp .eq 107, 3) := by decide +kernel
theorem dL_law_960 : decode cL_law 960 = .ok (.iconst 0, 1) := by decide +kernel
theorem dL_law_961 : decode cL_law 961 = .ok (.ireturn, 1) := by decide +kernel
theorem dL_law_962 : decode cL_law 962 = .ok (.aload_n 1, 1) := by decide +kernel
theorem dL_law_963 : decode cL_law 963 = .ok (.aload_n 0, 1) := by decide +kernel
theorem dL_law_964 : decode cL_law 964 = .ok (.iload_n 3, 1) := by decide +kernel
theorem dL_law_965 : decode cL_law 965 = .ok (.iconst 1, 1) := by decide +kernel
theorem dL_law_966 : decode cL_law 966 = .ok (.iadd, 1) := by decide +kernel
theorem dL_law_967 : decode cL_law 967 = .ok (.iaload, 1) := by decide +kernel
theorem dL_law_968 : decode cL_law 968 = .ok (.aload_n 0, 1) := by decide +kernel
theorem dL_law_969 : decode cL_law 969 = .ok (.iload_n 3, 1) := by decide +kernel
theorem dL_law_970 : decode cL_law 970 = .ok (.iconst 2, 1) := by decide +kernel
theorem dL_law_971 : decode cL_law 971 = .ok (.iadd, 1) := by decide +kernel
theorem dL_law_972 : decode cL_law 972 = .ok (.iaload, 1) := by decide +kernel
theorem dL_law_973 : decode cL_law 973 = .ok (.invokevirtual 125, 3) := by decide +kernel
theorem dL_law_976 : decode cL_law 976 = .ok (.aload_n 2, 1) := by decide +kernel
theorem dL_law_977 : decode cL_law 977 = .ok (.aload_n 0, 1) := by decide +kernel
theorem dL_law_978 : decode cL_law 978 = .ok (.iload_n 3, 1) := by decide +kernel
theorem dL_law_979 : decode cL_law 979 = .ok (.iconst 1, 1) := by decide +kernel
theorem dL_law_980 : decode cL_law 980 = .ok (.iadd, 1) := by decide +kernel
theorem dL_law_981 : decode cL_law 981 = .ok (.iaload, 1) := by decide +kernel
theorem dL_law_982 : decode cL_law 982 = .ok (.aload_n 0, 1) := by decide +kernel
theorem dL_law_983 : decode cL_law 983 = .ok (.iload_n 3, 1) := by decide +kernel
theorem dL_law_984 : decode cL_law 984 = .ok (.iconst 2, 1) := by decide +kernel
theorem dL_law_985 : decode cL_law 985 = .ok (.iadd, 1) := by decide +kernel
theorem dL_law_986 : decode cL_law 986 = .ok (.iaload, 1) := by decide +kernel
theorem dL_law_987 : decode cL_law 987 = .ok (.invokevirtual 128, 3) := by decide +kernel
theorem dL_law_990 : decode cL_law 990 = .ok (.if_icmp .eq 74, 3) := by decide +kernel
theorem dL_law_993 : decode cL_law 993 = .ok (.iconst 0, 1) := by decide +kernel
theorem dL_law_994 : decode cL_law 994 = .ok (.ireturn, 1) := by decide +kernel
theorem dL_law_995 : decode cL_law 995 = .ok (.aload_n 1, 1) := by decide +kernel
theorem dL_law_996 : decode cL_law 996 = .ok (.aload_n 0, 1) := by decide +kernel
theorem dL_law_997 : decode cL_law 997 = .ok (.iload_n 3, 1) := by decide +kernel
theorem dL_law_998 : decode cL_law 998 = .ok (.iconst 1, 1) := by decide +kernel
theorem dL_law_999 : decode cL_law 999 = .ok (.iadd, 1) := by decide +kernel
theorem dL_law_1000 : decode cL_law 1000 = .ok (.iaload, 1) := by decide +kernel
theorem dL_law_1001 : decode cL_law 1001 = .ok (.invokevirtual 129, 3) := by decide +kernel
theorem dL_law_1004 : decode cL_law 1004 = .ok (.aload_n 2, 1) := by decide +kernel
theorem dL_law_1005 : decode cL_law 1005 = .ok (.aload_n 0, 1) := by decide +kernel
theorem dL_law_1006 : decode cL_law 1006 = .ok (.iload_n 3, 1) := by decide +kernel
theorem dL_law_1007 : decode cL_law 1007 = .ok (.iconst 1, 1) := by decide +kernel
theorem dL_law_1008 : decode cL_law 1008 = .ok (.iadd, 1) := by decide +kernel
theorem dL_law_1009 : decode cL_law 1009 = .ok (.iaload, 1) := by decide +kernel
theorem dL_law_1010 : decode cL_law 1010 = .ok (.invokevirtual 132, 3) := by decide +kernel
theorem dL_law_1013 : decode cL_law 1013 = .ok (.if_icmp .eq 51, 3) := by decide +kernel
theorem dL_law_1016 : decode cL_law 1016 = .ok (.iconst 0, 1) := by decide +kernel
theorem dL_law_1017 : decode cL_law 1017 = .ok (.ireturn, 1) := by decide +kernel
theorem dL_law_1018 : decode cL_law 1018 = .ok (.aload_n 1, 1) := by decide +kernel
theorem dL_law_1019 : decode cL_law 1019 = .ok (.aload_n 0, 1) := by decide +kernel
theorem dL_law_1020 : decode cL_law 1020 = .ok (.iload_n 3, 1) := by decide +kernel
theorem dL_law_1021 : decode cL_law 1021 = .ok (.iconst 1, 1) := by decide +kernel
theorem dL_law_1022 : decode cL_law 1022 = .ok (.iadd, 1) := by decide +kernel
theorem dL_law_1023 : decode cL_law 1023 = .ok (.iaload, 1) := by decide +kernel
theorem dL_law_1024 : decode cL_law 1024 = .ok (.invokevirtual 133, 3) := by decide +kernel
theorem dL_law_1027 : decode cL_law 1027 = .ok (.aload_n 2, 1) := by decide +kernel
theorem dL_law_1028 : decode cL_law 1028 = .ok (.aload_n 0, 1) := by decide +kernel
theorem dL_law_1029 : decode cL_law 1029 = .ok (.iload_n 3, 1) := by decide +kernel
theorem dL_law_1030 : decode cL_law 1030 = .ok (.iconst 1, 1) := by decide +kernel
theorem dL_law_1031 : decode cL_law 1031 = .ok (.iadd, 1) := by decide +kernel
theorem dL_law_1032 : decode cL_law 1032 = .ok (.iaload, 1) := by decide +kernel
theorem dL_law_1033 : decode cL_law 1033 = .ok (.invokevirtual 136, 3) := by decide +kernel
theorem dL_law_1036 : decode cL_law 1036 = .ok (.if_icmp .eq 28, 3) := by decide +kernel
theorem dL_law_1039 : decode cL_law 1039 = .ok (.iconst 0, 1) := by decide +kernel
theorem dL_law_1040 : decode cL_law 1040 = .ok (.ireturn, 1) := by decide +kernel
theorem dL_law_1041 : decode cL_law 1041 = .ok (.aload_n 1, 1) := by decide +kernel
theorem dL_law_1042 : decode cL_law 1042 = .ok (.aload_n 0, 1) := by decide +kernel
theorem dL_law_1043 : decode cL_law 1043 = .ok (.iload_n 3, 1) := by decide +kernel
theorem dL_law_1044 : decode cL_law 1044 = .ok (.iconst 1, 1) := by decide +kernel
theorem dL_law_1045 : decode cL_law 1045 = .ok (.iadd, 1) := by decide +kernel
theorem dL_law_1046 : decode cL_law 1046 = .ok (.iaload, 1) := by decide +kernel
theorem dL_law_1047 : decode cL_law 1047 = .ok (.invokevirtual 137, 3) := by decide +kernel
theorem dL_law_1050 : decode cL_law 1050 = .ok (.aload_n 2, 1) := by decide +kernel
theorem dL_law_1051 : decode cL_law 1051 = .ok (.aload_n 0, 1) := by decide +kernel
theorem dL_law_1052 : decode cL_law 1052 = .ok (.iload_n 3, 1) := by decide +kernel
theorem dL_law_1053 : decode cL_law 1053 = .ok (.iconst 1, 1) := by decide +kernel
theorem dL_law_1054 : decode cL_law 1054 = .ok (.iadd, 1) := by decide +kernel
theorem dL_law_1055 : decode cL_law 1055 = .ok (.iaload, 1) := by decide +kernel
theorem dL_law_1056 : decode cL_law 1056 = .ok (.invokevirtual 140, 3) := by decide +kernel
theorem dL_law_1059 : decode cL_law 1059 = .ok (.if_icmp .eq 5, 3) := by decide +kernel
theorem dL_law_1062 : decode cL_law 1062 = .ok (.iconst 0, 1) := by decide +kernel
theorem dL_law_1063 : decode cL_law 1063 = .ok (.ireturn, 1) := by decide +kernel
theorem dL_law_1064 : decode cL_law 1064 = .ok (.iinc 3 6, 3) := by decide +kernel
theorem dL_law_1067 : decode cL_law 1067 = .ok (.goto (-1049), 3) := by decide +kernel
theorem dL_law_1070 : decode cL_law 1070 = .ok (.iconst 1, 1) := by decide +kernel
theorem dL_law_1071 : decode cL_law 1071 = .ok (.ireturn, 1) := by decide +kernel
