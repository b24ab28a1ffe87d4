theorem dX9_dueSet_26 : decode cX9_dueSet 26 = .ok (.iaload, 1) := by decide +kernel
theorem dX9_dueSet_27 : decode cX9_dueSet 27 = .ok (.iaload, 1) := by decide +kernel
theorem dX9_dueSet_28 : decode cX9_dueSet 28 = .ok (.aload_n 0, 1) := by decide +kernel
theorem dX9_dueSet_29 : decode cX9_dueSet 29 = .ok (.getfield 75, 3) := by decide +kernel
theorem dX9_dueSet_32 : decode cX9_dueSet 32 = .ok (.iconst 4, 1) := by decide +kernel
theorem dX9_dueSet_33 : decode cX9_dueSet 33 = .ok (.iload_n 2, 1) := by decide +kernel
theorem dX9_dueSet_34 : decode cX9_dueSet 34 = .ok (.imul, 1) := by decide +kernel
theorem dX9_dueSet_35 : decode cX9_dueSet 35 = .ok (.iconst 3, 1) := by decide +kernel
theorem dX9_dueSet_36 : decode cX9_dueSet 36 = .ok (.iadd, 1) := by decide +kernel
theorem dX9_dueSet_37 : decode cX9_dueSet 37 = .ok (.iaload, 1) := by decide +kernel
theorem dX9_dueSet_38 : decode cX9_dueSet 38 = .ok (.ishr, 1) := by decide +kernel
theorem dX9_dueSet_39 : decode cX9_dueSet 39 = .ok (.iconst 1, 1) := by decide +kernel
theorem dX9_dueSet_40 : decode cX9_dueSet 40 = .ok (.iand, 1) := by decide +kernel
theorem dX9_dueSet_41 : decode cX9_dueSet 41 = .ok (.iconst 1, 1) := by decide +kernel
theorem dX9_dueSet_42 : decode cX9_dueSet 42 = .ok (.if_icmp .ne 9, 3) := by decide +kernel
theorem dX9_dueSet_45 : decode cX9_dueSet 45 = .ok (.iconst 1, 1) := by decide +kernel
theorem dX9_dueSet_46 : decode cX9_dueSet 46 = .ok (.iload_n 2, 1) := by decide +kernel
theorem dX9_dueSet_47 : decode cX9_dueSet 47 = .ok (.ishl, 1) := by decide +kernel
theorem dX9_dueSet_48 : decode cX9_dueSet 48 = .ok (.goto 4, 3) := by decide +kernel
theorem dX9_dueSet_51 : decode cX9_dueSet 51 = .ok (.iconst 0, 1) := by decide +kernel
theorem dX9_dueSet_52 : decode cX9_dueSet 52 = .ok (.ior, 1) := by decide +kernel
theorem dX9_dueSet_53 : decode cX9_dueSet 53 = .ok (.istore_n 1, 1) := by decide +kernel
theorem dX9_dueSet_54 : decode cX9_dueSet 54 = .ok (.iinc 2 1, 3) := by decide +kernel
theorem dX9_dueSet_57 : decode cX9_dueSet 57 = .ok (.goto (-53), 3) := by decide +kernel
theorem dX9_dueSet_60 : decode cX9_dueSet 60 = .ok (.iload_n 1, 1) := by decide +kernel
theorem dX9_dueSet_61 : decode cX9_dueSet 61 = .ok (.ireturn, 1) := by decide +kernel
theorem dX9_isLong_0 : decode cX9_isLong 0 = .ok (.aload_n 0, 1) := by decide +kernel
theorem dX9_isLong_1 : decode cX9_isLong 1 = .ok (.getfield 424, 3) := by decide +kernel
theorem dX9_isLong_4 : decode cX9_isLong 4 = .ok (.iload_n 1, 1) := by decide +kernel
theorem dX9_isLong_5 : decode cX9_isLong 5 = .ok (.iadd, 1) := by decide +kernel
theorem dX9_isLong_6 : decode cX9_isLong 6 = .ok (.sipush 10000, 3) := by decide +kernel
theorem dX9_isLong_9 : decode cX9_isLong 9 = .ok (.if_icmp .le 7, 3) := by decide +kernel
theorem dX9_isLong_12 : decode cX9_isLong 12 = .ok (.iconst 1, 1) := by decide +kernel
theorem dX9_isLong_13 : decode cX9_isLong 13 = .ok (.goto 4, 3) := by decide +kernel
theorem dX9_isLong_16 : decode cX9_isLong 16 = .ok (.iconst 0, 1) := by decide +kernel
theorem dX9_isLong_17 : decode cX9_isLong 17 = .ok (.ireturn, 1) := by decide +kernel
theorem dX9_tire_0 : decode cX9_tire 0 = .ok (.aload_n 0, 1) := by decide +kernel
theorem dX9_tire_1 : decode cX9_tire 1 = .ok (.getfield 94, 3) := by decide +kernel
theorem dX9_tire_4 : decode cX9_tire 4 = .ok (.iload_n 1, 1) := by decide +kernel
theorem dX9_tire_5 : decode cX9_tire 5 = .ok (.iaload, 1) := by decide +kernel
theorem dX9_tire_6 : decode cX9_tire 6 = .ok (.iconst (-1), 1) := by decide +kernel
theorem dX9_tire_7 : decode cX9_tire 7 = .ok (.if_icmp .ne 28, 3) := by decide +kernel
theorem dX9_tire_10 : decode cX9_tire 10 = .ok (.aload_n 0, 1) := by decide +kernel
theorem dX9_tire_11 : decode cX9_tire 11 = .ok (.getfield 97, 3) := by decide +kernel
theorem dX9_tire_14 : decode cX9_tire 14 = .ok (.iload_n 1, 1) := by decide +kernel
theorem dX9_tire_15 : decode cX9_tire 15 = .ok (.iaload, 1) := by decide +kernel
theorem dX9_tire_16 : decode cX9_tire 16 = .ok (.aload_n 0, 1) := by decide +kernel
theorem dX9_tire_17 : decode cX9_tire 17 = .ok (.getfield 66, 3) := by decide +kernel
theorem dX9_tire_20 : decode cX9_tire 20 = .ok (.iload_n 1, 1) := by decide +kernel
theorem dX9_tire_21 : decode cX9_tire 21 = .ok (.iaload, 1) := by decide +kernel
theorem dX9_tire_22 : decode cX9_tire 22 = .ok (.if_icmp .ge 13, 3) := by decide +kernel
theorem dX9_tire_25 : decode cX9_tire 25 = .ok (.aload_n 0, 1) := by decide +kernel
theorem dX9_tire_26 : decode cX9_tire 26 = .ok (.getfield 97, 3) := by decide +kernel
theorem dX9_tire_29 : decode cX9_tire 29 = .ok (.iload_n 1, 1) := by decide +kernel
theorem dX9_tire_30 : decode cX9_tire 30 = .ok (.dup2, 1) := by decide +kernel
theorem dX9_tire_31 : decode cX9_tire 31 = .ok (.iaload, 1) := by decide +kernel
theorem dX9_tire_32 : decode cX9_tire 32 = .ok (.iconst 1, 1) := by decide +kernel
theorem dX9_tire_33 : decode cX9_tire 33 = .ok (.iadd, 1) := by decide +kernel
theorem dX9_tire_34 : decode cX9_tire 34 = .ok (.iastore, 1) := by decide +kernel
theorem dX9_tire_35 : decode cX9_tire 35 = .ok (.aload_n 0, 1) := by decide +kernel
theorem dX9_tire_36 : decode cX9_tire 36 = .ok (.getfield 94, 3) := by decide +kernel
theorem dX9_tire_39 : decode cX9_tire 39 = .ok (.iload_n 1, 1) := by decide +kernel
theorem dX9_tire_40 : decode cX9_tire 40 = .ok (.iaload, 1) := by decide +kernel
theorem dX9_tire_41 : decode cX9_tire 41 = .ok (.ifCond .ge 4, 3) := by decide +kernel
theorem dX9_tire_44 : decode cX9_tire 44 = .ok (.return_, 1) := by decide +kernel
theorem dX9_tire_45 : decode cX9_tire 45 = .ok (.aload_n 0, 1) := by decide +kernel
theorem dX9_tire_46 : decode cX9_tire 46 = .ok (.getfield 97, 3) := by decide +kernel
theorem dX9_tire_49 : decode cX9_tire 49 = .ok (.iload_n 1, 1) := by decide +kernel
theorem dX9_tire_50 : decode cX9_tire 50 = .ok (.aload_n 0, 1) := by decide +kernel
theorem dX9_tire_51 : decode cX9_tire 51 = .ok (.getfield 97, 3) := by decide +kernel
theorem dX9_tire_54 : decode cX9_tire 54 = .ok (.iload_n 1, 1) := by decide +kernel
theorem dX9_tire_55 : decode cX9_tire 55 = .ok (.iaload, 1) := by decide +kernel
theorem dX9_tire_56 : decode cX9_tire 56 = .ok (.iconst 2, 1) := by decide +kernel
theorem dX9_tire_57 : decode cX9_tire 57 = .ok (.if_icmp .ge 7, 3) := by decide +kernel
theorem dX9_tire_60 : decode cX9_tire 60 = .ok (.iconst 0, 1) := by decide +kernel
theorem dX9_tire_61 : decode cX9_tire 61 = .ok (.goto 11, 3) := by decide +kernel
theorem dX9_tire_64 : decode cX9_tire 64 = .ok (.aload_n 0, 1) := by decide +kernel
theorem dX9_tire_65 : decode cX9_tire 65 = .ok (.getfield 97, 3) := by decide +kernel
theorem dX9_tire_68 : decode cX9_tire 68 = .ok (.iload_n 1, 1) := by decide +kernel
theorem dX9_tire_69 : decode cX9_tire 69 = .ok (.iaload, 1) := by decide +kernel
theorem dX9_tire_70 : decode cX9_tire 70 = .ok (.iconst 2, 1) := by decide +kernel
theorem dX9_tire_71 : decode cX9_tire 71 = .ok (.isub, 1) := by decide +kernel
theorem dX9_tire_72 : decode cX9_tire 72 = .ok (.iastore, 1) := by decide +kernel
theorem dX9_tire_73 : decode cX9_tire 73 = .ok (.aload_n 0, 1) := by decide +kernel
theorem dX9_tire_74 : decode cX9_tire 74 = .ok (.getfield 100, 3) := by decide +kernel
theorem dX9_tire_77 : decode cX9_tire 77 = .ok (.iload_n 1, 1) := by decide +kernel
theorem dX9_tire_78 : decode cX9_tire 78 = .ok (.dup2, 1) := by decide +kernel
theorem dX9_tire_79 : decode cX9_tire 79 = .ok (.iaload, 1) := by decide +kernel
theorem dX9_tire_80 : decode cX9_tire 80 = .ok (.iconst 1, 1) := by decide +kernel
theorem dX9_tire_81 : decode cX9_tire 81 = .ok (.iadd, 1) := by decide +kernel
theorem dX9_tire_82 : decode cX9_tire 82 = .ok (.iastore, 1) := by decide +kernel
theorem dX9_tire_83 : decode cX9_tire 83 = .ok (.return_, 1) := by decide +kernel
theorem dX9_sink_0 : decode cX9_sink 0 = .ok (.aload_n 0, 1) := by decide +kernel
theorem dX9_sink_1 : decode cX9_sink 1 = .ok (.getfield 94, 3) := by decide +kernel
theorem dX9_sink_4 : decode cX9_sink 4 = .ok (.iload_n 1, 1) := by decide +kernel
theorem dX9_sink_5 : decode cX9_sink 5 = .ok (.iaload, 1) := by decide +kernel
theorem dX9_sink_6 : decode cX9_sink 6 = .ok (.iconst (-1), 1) := by decide +kernel
theorem dX9_sink_7 : decode cX9_sink 7 = .ok (.if_icmp .ne 18, 3) := by decide +kernel
theorem dX9_sink_10 : decode cX9_sink 10 = .ok (.aload_n 0, 1) := by decide +kernel
theorem dX9_sink_11 : decode cX9_sink 11 = .ok (.getfield 97, 3) := by decide +kernel
theorem dX9_sink_14 : decode cX9_sink 14 = .ok (.iload_n 1, 1) := by decide +kernel
theorem dX9_sink_15 : decode cX9_sink 15 = .ok (.iaload, 1) := by decide +kernel
theorem dX9_sink_16 : decode cX9_sink 16 = .ok (.aload_n 0, 1) := by decide +kernel
theorem dX9_sink_17 : decode cX9_sink 17 = .ok (.getfield 66, 3) := by decide +kernel
theorem dX9_sink_20 : decode cX9_sink 20 = .ok (.iload_n 1, 1) := by decide +kernel
theorem dX9_sink_21 : decode cX9_sink 21 = .ok (.iaload, 1) := by decide +kernel
theorem dX9_sink_22 : decode cX9_sink 22 = .ok (.if_icmp .ge 4, 3) := by decide +kernel
theorem dX9_sink_25 : decode cX9_sink 25 = .ok (.return_, 1) := by decide +kernel
theorem dX9_sink_26 : decode cX9_sink 26 = .ok (.iconst 0, 1) := by decide +kernel
theorem dX9_sink_27 : decode cX9_sink 27 = .ok (.istore_n 2, 1) := by decide +kernel
theorem dX9_sink_28 : decode cX9_sink 28 = .ok (.iload_n 2, 1) := by decide +kernel
theorem dX9_sink_29 : decode cX9_sink 29 = .ok (.aload_n 0, 1) := by decide +kernel
theorem dX9_sink_30 : decode cX9_sink 30 = .ok (.getfield 45, 3) := by decide +kernel
theorem dX9_sink_33 : decode cX9_sink 33 = .ok (.iconst 0, 1) := by decide +kernel
theorem dX9_sink_34 : decode cX9_sink 34 = .ok (.iaload, 1) := by decide +kernel
theorem dX9_sink_35 : decode cX9_sink 35 = .ok (.if_icmp .ge 45, 3) := by decide +kernel
theorem dX9_sink_38 : decode cX9_sink 38 = .ok (.aload_n 0, 1) := by decide +kernel
theorem dX9_sink_39 : decode cX9_sink 39 = .ok (.iload_n 2, 1) := by decide +kernel
theorem dX9_sink_40 : decode cX9_sink 40 = .ok (.invokevirtual 448, 3) := by decide +kernel
theorem dX9_sink_43 : decode cX9_sink 43 = .ok (.ifCond .ne 6, 3) := by decide +kernel
theorem dX9_sink_46 : decode cX9_sink 46 = .ok (.goto 28, 3) := by decide +kernel
theorem dX9_sink_49 : decode cX9_sink 49 = .ok (.aload_n 0, 1) := by decide +kernel
theorem dX9_sink_50 : decode cX9_sink 50 = .ok (.getfield 94, 3) := by decide +kernel
theorem dX9_sink_53 : decode cX9_sink 53 = .ok (.iload_n 1, 1) := by decide +kernel
theorem dX9_sink_54 : decode cX9_sink 54 = .ok (.iload_n 2, 1) := by decide +kernel
theorem dX9_sink_55 : decode cX9_sink 55 = .ok (.iastore, 1) := by decide +kernel
theorem dX9_sink_56 : decode cX9_sink 56 = .ok (.aload_n 0, 1) := by decide +kernel
theorem dX9_sink_57 : decode cX9_sink 57 = .ok (.getfield 100, 3) := by decide +kernel
theorem dX9_sink_60 : decode cX9_sink 60 = .ok (.iload_n 1, 1) := by decide +kernel
theorem dX9_sink_61 : decode cX9_sink 61 = .ok (.iconst 0, 1) := by decide +kernel
theorem dX9_sink_62 : decode cX9_sink 62 = .ok (.iastore, 1) := by decide +kernel
theorem dX9_sink_63 : decode cX9_sink 63 = .ok (.aload_n 0, 1) := by decide +kernel
theorem dX9_sink_64 : decode cX9_sink 64 = .ok (.dup, 1) := by decide +kernel
theorem dX9_sink_65 : decode cX9_sink 65 = .ok (.getfield 430, 3) := by decide +kernel
theorem dX9_sink_68 : decode cX9_sink 68 = .ok (.iconst 1, 1) := by decide +kernel
theorem dX9_sink_69 : decode cX9_sink 69 = .ok (.iadd, 1) := by decide +kernel
theorem dX9_sink_70 : decode cX9_sink 70 = .ok (.putfield 430, 3) := by decide +kernel
theorem dX9_sink_73 : decode cX9_sink 73 = .ok (.return_, 1) := by decide +kernel
theorem dX9_sink_74 : decode cX9_sink 74 = .ok (.iinc 2 1, 3) := by decide +kernel
theorem dX9_sink_77 : decode cX9_sink 77 = .ok (.goto (-49), 3) := by decide +kernel
theorem dX9_sink_80 : decode cX9_sink 80 = .ok (.return_, 1) := by decide +kernel
theorem dX9_over_0 : decode cX9_over 0 = .ok (.aload_n 0, 1) := by decide +kernel
theorem dX9_over_1 : decode cX9_over 1 = .ok (.dup, 1) := by decide +kernel
theorem dX9_over_2 : decode cX9_over 2 = .ok (.getfield 424, 3) := by decide +kernel
theorem dX9_over_5 : decode cX9_over 5 = .ok (.iconst 1, 1) := by decide +kernel
theorem dX9_over_6 : decode cX9_over 6 = .ok (.iadd, 1) := by decide +kernel
theorem dX9_over_7 : decode cX9_over 7 = .ok (.putfield 424, 3) := by decide +kernel
theorem dX9_over_10 : decode cX9_over 10 = .ok (.iconst 0, 1) := by decide +kernel
theorem dX9_over_11 : decode cX9_over 11 = .ok (.istore_n 1, 1) := by decide +kernel
theorem dX9_over_12 : decode cX9_over 12 = .ok (.iload_n 1, 1) := by decide +kernel
theorem dX9_over_13 : decode cX9_over 13 = .ok (.aload_n 0, 1) := by decide +kernel
theorem dX9_over_14 : decode cX9_over 14 = .ok (.getfield 45, 3) := by decide +kernel
theorem dX9_over_17 : decode cX9_over 17 = .ok (.iconst 2, 1) := by decide +kernel
theorem dX9_over_18 : decode cX9_over 18 = .ok (.iaload, 1) := by decide +kernel
theorem dX9_over_19 : decode cX9_over 19 = .ok (.if_icmp .ge 39, 3) := by decide +kernel
theorem dX9_over_22 : decode cX9_over 22 = .ok (.aload_n 0, 1) := by decide +kernel
theorem dX9_over_23 : decode cX9_over 23 = .ok (.getfield 106, 3) := by decide +kernel
theorem dX9_over_26 : decode cX9_over 26 = .ok (.iload_n 1, 1) := by decide +kernel
theorem dX9_over_27 : decode cX9_over 27 = .ok (.iaload, 1) := by decide +kernel
theorem dX9_over_28 : decode cX9_over 28 = .ok (.iconst 2, 1) := by decide +kernel
theorem dX9_over_29 : decode cX9_over 29 = .ok (.if_icmp .ge 23, 3) := by decide +kernel
theorem dX9_over_32 : decode cX9_over 32 = .ok (.aload_n 0, 1) := by decide +kernel
theorem dX9_over_33 : decode cX9_over 33 = .ok (.getfield 69, 3) := by decide +kernel
theorem dX9_over_36 : decode cX9_over 36 = .ok (.iload_n 1, 1) := by decide +kernel
theorem dX9_over_37 : decode cX9_over 37 = .ok (.iaload, 1) := by decide +kernel
theorem dX9_over_38 : decode cX9_over 38 = .ok (.aload_n 0, 1) := by decide +kernel
theorem dX9_over_39 : decode cX9_over 39 = .ok (.getfield 424, 3) := by decide +kernel
theorem dX9_over_42 : decode cX9_over 42 = .ok (.if_icmp .ne 10, 3) := by decide +kernel
theorem dX9_over_45 : decode cX9_over 45 = .ok (.aload_n 0, 1) := by decide +kernel
theorem dX9_over_46 : decode cX9_over 46 = .ok (.getfield 106, 3) := by decide +kernel
theorem dX9_over_49 : decode cX9_over 49 = .ok (.iload_n 1, 1) := by decide +kernel
theorem dX9_over_50 : decode cX9_over 50 = .ok (.iconst 3, 1) := by decide +kernel
theorem dX9_over_51 : decode cX9_over 51 = .ok (.iastore, 1) := by decide +kernel
theorem dX9_over_52 : decode cX9_over 52 = .ok (.iinc 1 1, 3) := by decide +kernel
theorem dX9_over_55 : decode cX9_over 55 = .ok (.goto (-43), 3) := by decide +kernel
theorem dX9_over_58 : decode cX9_over 58 = .ok (.iconst 0, 1) := by decide +kernel
theorem dX9_over_59 : decode cX9_over 59 = .ok (.istore_n 1, 1) := by decide +kernel
theorem dX9_over_60 : decode cX9_over 60 = .ok (.iload_n 1, 1) := by decide +kernel
theorem dX9_over_61 : decode cX9_over 61 = .ok (.aload_n 0, 1) := by decide +kernel
theorem dX9_over_62 : decode cX9_over 62 = .ok (.invokevirtual 417, 3) := by decide +kernel
theorem dX9_over_65 : decode cX9_over 65 = .ok (.if_icmp .ge 14, 3) := by decide +kernel
theorem dX9_over_68 : decode cX9_over 68 = .ok (.aload_n 0, 1) := by decide +kernel
theorem dX9_over_69 : decode cX9_over 69 = .ok (.iload_n 1, 1) := by decide +kernel
theorem dX9_over_70 : decode cX9_over 70 = .ok (.invokevirtual 451, 3) := by decide +kernel
theorem dX9_over_73 : decode cX9_over 73 = .ok (.iinc 1 1, 3) := by decide +kernel
theorem dX9_over_76 : decode cX9_over 76 = .ok (.goto (-16), 3) := by decide +kernel
theorem dX9_over_79 : decode cX9_over 79 = .ok (.iconst 0, 1) := by decide +kernel
theorem dX9_over_80 : decode cX9_over 80 = .ok (.istore_n 1, 1) := by decide +kernel
theorem dX9_over_81 : decode cX9_over 81 = .ok (.iload_n 1, 1) := by decide +kernel
theorem dX9_over_82 : decode cX9_over 82 = .ok (.aload_n 0, 1) := by decide +kernel
theorem dX9_over_83 : decode cX9_over 83 = .ok (.invokevirtual 417, 3) := by decide +kernel
theorem dX9_over_86 : decode cX9_over 86 = .ok (.if_icmp .ge 14, 3) := by decide +kernel
theorem dX9_over_89 : decode cX9_over 89 = .ok (.aload_n 0, 1) := by decide +kernel
theorem dX9_over_90 : decode cX9_over 90 = .ok (.iload_n 1, 1) := by decide +kernel
theorem dX9_over_91 : decode cX9_over 91 = .ok (.invokevirtual 454, 3) := by decide +kernel
theorem dX9_over_94 : decode cX9_over 94 = .ok (.iinc 1 1, 3) := by decide +kernel
theorem dX9_over_97 : decode cX9_over 97 = .ok (.goto (-16), 3) := by decide +kernel
theorem dX9_over_100 : decode cX9_over 100 = .ok (.iconst 0, 1) := by decide +kernel
theorem dX9_over_101 : decode cX9_over 101 = .ok (.istore_n 1, 1) := by decide +kernel
theorem dX9_over_102 : decode cX9_over 102 = .ok (.iload_n 1, 1) := by decide +kernel
theorem dX9_over_103 : decode cX9_over 103 = .ok (.aload_n 0, 1) := by decide +kernel
theorem dX9_over_104 : decode cX9_over 104 = .ok (.getfield 45, 3) := by decide +kernel
theorem dX9_over_107 : decode cX9_over 107 = .ok (.iconst 0, 1) := by decide +kernel
theorem dX9_over_108 : decode cX9_over 108 = .ok (.iaload, 1) := by decide +kernel
theorem dX9_over_109 : decode cX9_over 109 = .ok (.if_icmp .ge 38, 3) := by decide +kernel
theorem dX9_over_112 : decode cX9_over 112 = .ok (.aload_n 0, 1) := by decide +kernel
theorem dX9_over_113 : decode cX9_over 113 = .ok (.getfield 424, 3) := by decide +kernel
theorem dX9_over_116 : decode cX9_over 116 = .ok (.sipush 200, 3) := by decide +kernel
theorem dX9_over_119 : decode cX9_over 119 = .ok (.if_icmp .gt 28, 3) := by decide +kernel
theorem dX9_over_122 : decode cX9_over 122 = .ok (.aload_n 0, 1) := by decide +kernel
theorem dX9_over_123 : decode cX9_over 123 = .ok (.getfield 121, 3) := by decide +kernel
theorem dX9_over_126 : decode cX9_over 126 = .ok (.bipush 6, 2) := by decide +kernel
theorem dX9_over_128 : decode cX9_over 128 = .ok (.aload_n 0, 1) := by decide +kernel
theorem dX9_over_129 : decode cX9_over 129 = .ok (.getfield 424, 3) := by decide +kernel
theorem dX9_over_132 : decode cX9_over 132 = .ok (.imul, 1) := by decide +kernel
theorem dX9_over_133 : decode cX9_over 133 = .ok (.iload_n 1, 1) := by decide +kernel
theorem dX9_over_134 : decode cX9_over 134 = .ok (.iadd, 1) := by decide +kernel
theorem dX9_over_135 : decode cX9_over 135 = .ok (.aload_n 0, 1) := by decide +kernel
theorem dX9_over_136 : decode cX9_over 136 = .ok (.iload_n 1, 1) := by decide +kernel
theorem dX9_over_137 : decode cX9_over 137 = .ok (.invokevirtual 439, 3) := by decide +kernel
theorem dX9_over_140 : decode cX9_over 140 = .ok (.iastore, 1) := by decide +kernel
theorem dX9_over_141 : decode cX9_over 141 = .ok (.iinc 1 1, 3) := by decide +kernel
theorem dX9_over_144 : decode cX9_over 144 = .ok (.goto (-42), 3) := by decide +kernel
theorem dX9_over_147 : decode cX9_over 147 = .ok (.aload_n 0, 1) := by decide +kernel
theorem dX9_over_148 : decode cX9_over 148 = .ok (.getfield 424, 3) := by decide +kernel
theorem dX9_over_151 : decode cX9_over 151 = .ok (.ireturn, 1) := by decide +kernel
theorem dX9_rise_0 : decode cX9_rise 0 = .ok (.aload_n 0, 1) := by decide +kernel
theorem dX9_rise_1 : decode cX9_rise 1 = .ok (.iload_n 1, 1) := by decide +kernel
theorem dX9_rise_2 : decode cX9_rise 2 = .ok (.invokevirtual 433, 3) := by decide +kernel
theorem dX9_rise_5 : decode cX9_rise 5 = .ok (.ifCond .eq 20, 3) := by decide +kernel
theorem dX9_rise_8 : decode cX9_rise 8 = .ok (.aload_n 0, 1) := by decide +kernel
theorem dX9_rise_9 : decode cX9_rise 9 = .ok (.getfield 94, 3) := by decide +kernel
theorem dX9_rise_12 : decode cX9_rise 12 = .ok (.iload_n 1, 1) := by decide +kernel
theorem dX9_rise_13 : decode cX9_rise 13 = .ok (.iaload, 1) := by decide +kernel
theorem dX9_rise_14 : decode cX9_rise 14 = .ok (.ifCond .lt 11, 3) := by decide +kernel
theorem dX9_rise_17 : decode cX9_rise 17 = .ok (.aload_n 0, 1) := by decide +kernel
theorem dX9_rise_18 : decode cX9_rise 18 = .ok (.iconst 1, 1) := by decide +kernel
theorem dX9_rise_19 : decode cX9_rise 19 = .ok (.invokevirtual 457, 3) := by decide +kernel
theorem dX9_rise_22 : decode cX9_rise 22 = .ok (.ifCond .eq 5, 3) := by decide +kernel
theorem dX9_rise_25 : decode cX9_rise 25 = .ok (.iconst (-1), 1) := by decide +kernel
theorem dX9_rise_26 : decode cX9_rise 26 = .ok (.ireturn, 1) := by decide +kernel
theorem dX9_rise_27 : decode cX9_rise 27 = .ok (.aload_n 0, 1) := by decide +kernel
theorem dX9_rise_28 : decode cX9_rise 28 = .ok (.getfield 94, 3) := by decide +kernel
theorem dX9_rise_31 : decode cX9_rise 31 = .ok (.iload_n 1, 1) := by decide +kernel
theorem dX9_rise_32 : decode cX9_rise 32 = .ok (.iconst (-1), 1) := by decide +kernel
theorem dX9_rise_33 : decode cX9_rise 33 = .ok (.iastore, 1) := by decide +kernel
theorem dX9_rise_34 : decode cX9_rise 34 = .ok (.aload_n 0, 1) := by decide +kernel
theorem dX9_rise_35 : decode cX9_rise 35 = .ok (.getfield 100, 3) := by decide +kernel
theorem dX9_rise_38 : decode cX9_rise 38 = .ok (.iload_n 1, 1) := by decide +kernel
theorem dX9_rise_39 : decode cX9_rise 39 = .ok (.iconst 0, 1) := by decide +kernel
theorem dX9_rise_40 : decode cX9_rise 40 = .ok (.iastore, 1) := by decide +kernel
theorem dX9_rise_41 : decode cX9_rise 41 = .ok (.aload_n 0, 1) := by decide +kernel
theorem dX9_rise_42 : decode cX9_rise 42 = .ok (.invokevirtual 460, 3) := by decide +kernel
theorem dX9_rise_45 : decode cX9_rise 45 = .ok (.ireturn, 1) := by decide +kernel
theorem dX9_sit_0 : decode cX9_sit 0 = .ok (.aload_n 0, 1) := by decide +kernel
theorem dX9_sit_1 : decode cX9_sit 1 = .ok (.iload_n 1, 1) := by decide +kernel
theorem dX9_sit_2 : decode cX9_sit 2 = .ok (.invokevirtual 463, 3) := by decide +kernel
theorem dX9_sit_5 : decode cX9_sit 5 = .ok (.ifCond .eq 27, 3) := by decide +kernel
theorem dX9_sit_8 : decode cX9_sit 8 = .ok (.aload_n 0, 1) := by decide +kernel
theorem dX9_sit_9 : decode cX9_sit 9 = .ok (.iload_n 2, 1) := by decide +kernel
theorem dX9_sit_10 : decode cX9_sit 10 = .ok (.invokevirtual 466, 3) := by decide +kernel
theorem dX9_sit_13 : decode cX9_sit 13 = .ok (.ifCond .eq 19, 3) := by decide +kernel
theorem dX9_sit_16 : decode cX9_sit 16 = .ok (.aload_n 0, 1) := by decide +kernel
theorem dX9_sit_17 : decode cX9_sit 17 = .ok (.iload_n 2, 1) := by decide +kernel
theorem dX9_sit_18 : decode cX9_sit 18 = .ok (.invokevirtual 448, 3) := by decide +kernel
theorem dX9_sit_21 : decode cX9_sit 21 = .ok (.ifCond .eq 11, 3) := by decide +kernel
theorem dX9_sit_24 : decode cX9_sit 24 = .ok (.aload_n 0, 1) := by decide +kernel
theorem dX9_sit_25 : decode cX9_sit 25 = .ok (.iconst 1, 1) := by decide +kernel
theorem dX9_sit_26 : decode cX9_sit 26 = .ok (.invokevirtual 457, 3) := by decide +kernel
theorem dX9_sit_29 : decode cX9_sit 29 = .ok (.ifCond .eq 5, 3) := by decide +kernel
theorem dX9_sit_32 : decode cX9_sit 32 = .ok (.iconst (-1), 1) := by decide +kernel
theorem dX9_sit_33 : decode cX9_sit 33 = .ok (.ireturn, 1) := by decide +kernel
theorem dX9_sit_34 : decode cX9_sit 34 = .ok (.aload_n 0, 1) := by decide +kernel
theorem dX9_sit_35 : decode cX9_sit 35 = .ok (.getfield 94, 3) := by decide +kernel
theorem dX9_sit_38 : decode cX9_sit 38 = .ok (.iload_n 1, 1) := by decide +kernel
theorem dX9_sit_39 : decode cX9_sit 39 = .ok (.iload_n 2, 1) := by decide +kernel
theorem dX9_sit_40 : decode cX9_sit 40 = .ok (.iastore, 1) := by decide +kernel
theorem dX9_sit_41 : decode cX9_sit 41 = .ok (.aload_n 0, 1) := by decide +kernel
theorem dX9_sit_42 : decode cX9_sit 42 = .ok (.getfield 100, 3) := by decide +kernel
theorem dX9_sit_45 : decode cX9_sit 45 = .ok (.iload_n 1, 1) := by decide +kernel
theorem dX9_sit_46 : decode cX9_sit 46 = .ok (.iconst 0, 1) := by decide +kernel
theorem dX9_sit_47 : decode cX9_sit 47 = .ok (.iastore, 1) := by decide +kernel
theorem dX9_sit_48 : decode cX9_sit 48 = .ok (.aload_n 0, 1) := by decide +kernel
theorem dX9_sit_49 : decode cX9_sit 49 = .ok (.invokevirtual 460, 3) := by decide +kernel
theorem dX9_sit_52 : decode cX9_sit 52 = .ok (.ireturn, 1) := by decide +kernel
theorem dX9_layDue_0 : decode cX9_layDue 0 = .ok (.iconst 0, 1) := by decide +kernel
theorem dX9_layDue_1 : decode cX9_layDue 1 = .ok (.istore_n 1, 1) := by decide +kernel
theorem dX9_layDue_2 : decode cX9_layDue 2 = .ok (.iload_n 1, 1) := by decide +kernel
theorem dX9_layDue_3 : decode cX9_layDue 3 = .ok (.aload_n 0, 1) := by decide +kernel
theorem dX9_layDue_4 : decode cX9_layDue 4 = .ok (.getfield 398, 3) := by decide +kernel
theorem dX9_layDue_7 : decode cX9_layDue 7 = .ok (.if_icmp .ge 37, 3) := by decide +kernel
theorem dX9_layDue_10 : decode cX9_layDue 10 = .ok (.aload_n 0, 1) := by decide +kernel
theorem dX9_layDue_11 : decode cX9_layDue 11 = .ok (.getfield 109, 3) := by decide +kernel
theorem dX9_layDue_14 : decode cX9_layDue 14 = .ok (.iload_n 1, 1) := by decide +kernel
theorem dX9_layDue_15 : decode cX9_layDue 15 = .ok (.iaload, 1) := by decide +kernel
theorem dX9_layDue_16 : decode cX9_layDue 16 = .ok (.ifCond .ne 22, 3) := by decide +kernel
theorem dX9_layDue_19 : decode cX9_layDue 19 = .ok (.aload_n 0, 1) := by decide +kernel
theorem dX9_layDue_20 : decode cX9_layDue 20 = .ok (.invokevirtual 469, 3) := by decide +kernel
theorem dX9_layDue_23 : decode cX9_layDue 23 = .ok (.iload_n 1, 1) := by decide +kernel
theorem dX9_layDue_24 : decode cX9_layDue 24 = .ok (.ishr, 1) := by decide +kernel
theorem dX9_layDue_25 : decode cX9_layDue 25 = .ok (.iconst 1, 1) := by decide +kernel
theorem dX9_layDue_26 : decode cX9_layDue 26 = .ok (.iand, 1) := by decide +kernel
theorem dX9_layDue_27 : decode cX9_layDue 27 = .ok (.iconst 1, 1) := by decide +kernel
theorem dX9_layDue_28 : decode cX9_layDue 28 = .ok (.if_icmp .ne 10, 3) := by decide +kernel
theorem dX9_layDue_31 : decode cX9_layDue 31 = .ok (.aload_n 0, 1) := by decide +kernel
theorem dX9_layDue_32 : decode cX9_layDue 32 = .ok (.getfield 109, 3) := by decide +kernel
theorem dX9_layDue_35 : decode cX9_layDue 35 = .ok (.iload_n 1, 1) := by decide +kernel
theorem dX9_layDue_36 : decode cX9_layDue 36 = .ok (.iconst 1, 1) := by decide +kernel
theorem dX9_layDue_37 : decode cX9_layDue 37 = .ok (.iastore, 1) := by decide +kernel
theorem dX9_layDue_38 : decode cX9_layDue 38 = .ok (.iinc 1 1, 3) := by decide +kernel
theorem dX9_layDue_41 : decode cX9_layDue 41 = .ok (.goto (-39), 3) := by decide +kernel
theorem dX9_layDue_44 : decode cX9_layDue 44 = .ok (.return_, 1) := by decide +kernel
theorem dX9_speak_0 : decode cX9_speak 0 = .ok (.aload_n 0, 1) := by decide +kernel
theorem dX9_speak_1 : decode cX9_speak 1 = .ok (.iload_n 1, 1) := by decide +kernel
theorem dX9_speak_2 : decode cX9_speak 2 = .ok (.invokevirtual 463, 3) := by decide +kernel
theorem dX9_speak_5 : decode cX9_speak 5 = .ok (.ifCond .eq 44, 3) := by decide +kernel
theorem dX9_speak_8 : decode cX9_speak 8 = .ok (.aload_n 0, 1) := by decide +kernel
theorem dX9_speak_9 : decode cX9_speak 9 = .ok (.getfield 97, 3) := by decide +kernel
theorem dX9_speak_12 : decode cX9_speak 12 = .ok (.iload_n 1, 1) := by decide +kernel
theorem dX9_speak_13 : decode cX9_speak 13 = .ok (.iaload, 1) := by decide +kernel
theorem dX9_speak_14 : decode cX9_speak 14 = .ok (.aload_n 0, 1) := by decide +kernel
theorem dX9_speak_15 : decode cX9_speak 15 = .ok (.getfield 66, 3) := by decide +kernel
theorem dX9_speak_18 : decode cX9_speak 18 = .ok (.iload_n 1, 1) := by decide +kernel
theorem dX9_speak_19 : decode cX9_speak 19 = .ok (.iaload, 1) := by decide +kernel
theorem dX9_speak_20 : decode cX9_speak 20 = .ok (.if_icmp .ge 29, 3) := by decide +kernel
theorem dX9_speak_23 : decode cX9_speak 23 = .ok (.aload_n 0, 1) := by decide +kernel
theorem dX9_speak_24 : decode cX9_speak 24 = .ok (.iload_n 2, 1) := by decide +kernel
theorem dX9_speak_25 : decode cX9_speak 25 = .ok (.invokevirtual 472, 3) := by decide +kernel
theorem dX9_speak_28 : decode cX9_speak 28 = .ok (.ifCond .eq 21, 3) := by decide +kernel
theorem dX9_speak_31 : decode cX9_speak 31 = .ok (.aload_n 0, 1) := by decide +kernel
theorem dX9_speak_32 : decode cX9_speak 32 = .ok (.getfield 106, 3) := by decide +kernel
theorem dX9_speak_35 : decode cX9_speak 35 = .ok (.iload_n 2, 1) := by decide +kernel
theorem dX9_speak_36 : decode cX9_speak 36 = .ok (.iaload, 1) := by decide +kernel
theorem dX9_speak_37 : decode cX9_speak 37 = .ok (.iconst 2, 1) := by decide +kernel
theorem dX9_speak_38 : decode cX9_speak 38 = .ok (.if_icmp .ge 11, 3) := by decide +kernel
theorem dX9_speak_41 : decode cX9_speak 41 = .ok (.aload_n 0, 1) := by decide +kernel
theorem dX9_speak_42 : decode cX9_speak 42 = .ok (.iconst 1, 1) := by decide +kernel
theorem dX9_speak_43 : decode cX9_speak 43 = .ok (.invokevirtual 457, 3) := by decide +kernel
theorem dX9_speak_46 : decode cX9_speak 46 = .ok (.ifCond .eq 5, 3) := by decide +kernel
theorem dX9_speak_49 : decode cX9_speak 49 = .ok (.iconst (-1), 1) := by decide +kernel
theorem dX9_speak_50 : decode cX9_speak 50 = .ok (.ireturn, 1) := by decide +kernel
theorem dX9_speak_51 : decode cX9_speak 51 = .ok (.aload_n 0, 1) := by decide +kernel
theorem dX9_speak_52 : decode cX9_speak 52 = .ok (.getfield 106, 3) := by decide +kernel
theorem dX9_speak_55 : decode cX9_speak 55 = .ok (.iload_n 2, 1) := by decide +kernel
theorem dX9_speak_56 : decode cX9_speak 56 = .ok (.iconst 1, 1) := by decide +kernel
theorem dX9_speak_57 : decode cX9_speak 57 = .ok (.iastore, 1) := by decide +kernel
theorem dX9_speak_58 : decode cX9_speak 58 = .ok (.aload_n 0, 1) := by decide +kernel
theorem dX9_speak_59 : decode cX9_speak 59 = .ok (.getfield 103, 3) := by decide +kernel
theorem dX9_speak_62 : decode cX9_speak 62 = .ok (.iload_n 1, 1) := by decide +kernel
theorem dX9_speak_63 : decode cX9_speak 63 = .ok (.dup2, 1) := by decide +kernel
theorem dX9_speak_64 : decode cX9_speak 64 = .ok (.iaload, 1) := by decide +kernel
theorem dX9_speak_65 : decode cX9_speak 65 = .ok (.iconst 1, 1) := by decide +kernel
theorem dX9_speak_66 : decode cX9_speak 66 = .ok (.iload_n 2, 1) := by decide +kernel
theorem dX9_speak_67 : decode cX9_speak 67 = .ok (.ishl, 1) := by decide +kernel
theorem dX9_speak_68 : decode cX9_speak 68 = .ok (.ior, 1) := by decide +kernel
theorem dX9_speak_69 : decode cX9_speak 69 = .ok (.iastore, 1) := by decide +kernel
theorem dX9_speak_70 : decode cX9_speak 70 = .ok (.aload_n 0, 1) := by decide +kernel
theorem dX9_speak_71 : decode cX9_speak 71 = .ok (.invokevirtual 475, 3) := by decide +kernel
theorem dX9_speak_74 : decode cX9_speak 74 = .ok (.aload_n 0, 1) := by decide +kernel
theorem dX9_speak_75 : decode cX9_speak 75 = .ok (.invokevirtual 460, 3) := by decide +kernel
theorem dX9_speak_78 : decode cX9_speak 78 = .ok (.ireturn, 1) := by decide +kernel
theorem dX9_keep_0 : decode cX9_keep 0 = .ok (.aload_n 0, 1) := by decide +kernel
theorem dX9_keep_1 : decode cX9_keep 1 = .ok (.getfield 427, 3) := by decide +kernel
theorem dX9_keep_4 : decode cX9_keep 4 = .ok (.bipush 100, 2) := by decide +kernel
theorem dX9_keep_6 : decode cX9_keep 6 = .ok (.if_icmp .ge 87, 3) := by decide +kernel
theorem dX9_keep_9 : decode cX9_keep 9 = .ok (.bipush 6, 2) := by decide +kernel
theorem dX9_keep_11 : decode cX9_keep 11 = .ok (.aload_n 0, 1) := by decide +kernel
theorem dX9_keep_12 : decode cX9_keep 12 = .ok (.getfield 427, 3) := by decide +kernel
theorem dX9_keep_15 : decode cX9_keep 15 = .ok (.imul, 1) := by decide +kernel
theorem dX9_keep_16 : decode cX9_keep 16 = .ok (.istore 5, 2) := by decide +kernel
theorem dX9_keep_18 : decode cX9_keep 18 = .ok (.aload_n 0, 1) := by decide +kernel
theorem dX9_keep_19 : decode cX9_keep 19 = .ok (.getfield 118, 3) := by decide +kernel
theorem dX9_keep_22 : decode cX9_keep 22 = .ok (.iload 5, 2) := by decide +kernel
theorem dX9_keep_24 : decode cX9_keep 24 = .ok (.aload_n 0, 1) := by decide +kernel
theorem dX9_keep_25 : decode cX9_keep 25 = .ok (.getfield 424, 3) := by decide +kernel
theorem dX9_keep_28 : decode cX9_keep 28 = .ok (.iconst 1, 1) := by decide +kernel
theorem dX9_keep_29 : decode cX9_keep 29 = .ok (.iadd, 1) := by decide +kernel
theorem dX9_keep_30 : decode cX9_keep 30 = .ok (.iastore, 1) := by decide +kernel
theorem dX9_keep_31 : decode cX9_keep 31 = .ok (.aload_n 0, 1) := by decide +kernel
theorem dX9_keep_32 : decode cX9_keep 32 = .ok (.getfield 118, 3) := by decide +kernel
theorem dX9_keep_35 : decode cX9_keep 35 = .ok (.iload 5, 2) := by decide +kernel
theorem dX9_keep_37 : decode cX9_keep 37 = .ok (.iconst 1, 1) := by decide +kernel
theorem dX9_keep_38 : decode cX9_keep 38 = .ok (.iadd, 1) := by decide +kernel
theorem dX9_keep_39 : decode cX9_keep 39 = .ok (.iload_n 1, 1) := by decide +kernel
theorem dX9_keep_40 : decode cX9_keep 40 = .ok (.iastore, 1) := by decide +kernel
theorem dX9_keep_41 : decode cX9_keep 41 = .ok (.aload_n 0, 1) := by decide +kernel
theorem dX9_keep_42 : decode cX9_keep 42 = .ok (.getfield 118, 3) := by decide +kernel
theorem dX9_keep_45 : decode cX9_keep 45 = .ok (.iload 5, 2) := by decide +kernel
theorem dX9_keep_47 : decode cX9_keep 47 = .ok (.iconst 2, 1) := by decide +kernel
theorem dX9_keep_48 : decode cX9_keep 48 = .ok (.iadd, 1) := by decide +kernel
theorem dX9_keep_49 : decode cX9_keep 49 = .ok (.iload_n 2, 1) := by decide +kernel
theorem dX9_keep_50 : decode cX9_keep 50 = .ok (.iastore, 1) := by decide +kernel
theorem dX9_keep_51 : decode cX9_keep 51 = .ok (.aload_n 0, 1) := by decide +kernel
theorem dX9_keep_52 : decode cX9_keep 52 = .ok (.getfield 118, 3) := by decide +kernel
theorem dX9_keep_55 : decode cX9_keep 55 = .ok (.iload 5, 2) := by decide +kernel
theorem dX9_keep_57 : decode cX9_keep 57 = .ok (.iconst 3, 1) := by decide +kernel
theorem dX9_keep_58 : decode cX9_keep 58 = .ok (.iadd, 1) := by decide +kernel
theorem dX9_keep_59 : decode cX9_keep 59 = .ok (.iload_n 3, 1) := by decide +kernel
theorem dX9_keep_60 : decode cX9_keep 60 = .ok (.iastore, 1) := by decide +kernel
theorem dX9_keep_61 : decode cX9_keep 61 = .ok (.aload_n 0, 1) := by decide +kernel
theorem dX9_keep_62 : decode cX9_keep 62 = .ok (.getfield 118, 3) := by decide +kernel
theorem dX9_keep_65 : decode cX9_keep 65 = .ok (.iload 5, 2) := by decide +kernel
theorem dX9_keep_67 : decode cX9_keep 67 = .ok (.iconst 4, 1) := by decide +kernel
theorem dX9_keep_68 : decode cX9_keep 68 = .ok (.iadd, 1) := by decide +kernel
theorem dX9_keep_69 : decode cX9_keep 69 = .ok (.aload_n 0, 1) := by decide +kernel
theorem dX9_keep_70 : decode cX9_keep 70 = .ok (.invokevirtual 478, 3) := by decide +kernel
theorem dX9_keep_73 : decode cX9_keep 73 = .ok (.iastore, 1) := by decide +kernel
theorem dX9_keep_74 : decode cX9_keep 74 = .ok (.aload_n 0, 1) := by decide +kernel
theorem dX9_keep_75 : decode cX9_keep 75 = .ok (.getfield 118, 3) := by decide +kernel
theorem dX9_keep_78 : decode cX9_keep 78 = .ok (.iload 5, 2) := by decide +kernel
theorem dX9_keep_80 : decode cX9_keep 80 = .ok (.iconst 5, 1) := by decide +kernel
theorem dX9_keep_81 : decode cX9_keep 81 = .ok (.iadd, 1) := by decide +kernel
theorem dX9_keep_82 : decode cX9_keep 82 = .ok (.iload 4, 2) := by decide +kernel
theorem dX9_keep_84 : decode cX9_keep 84 = .ok (.ifCond .eq 7, 3) := by decide +kernel
theorem dX9_keep_87 : decode cX9_keep 87 = .ok (.iconst 1, 1) := by decide +kernel
theorem dX9_keep_88 : decode cX9_keep 88 = .ok (.goto 4, 3) := by decide +kernel
theorem dX9_keep_91 : decode cX9_keep 91 = .ok (.iconst 0, 1) := by decide +kernel
theorem dX9_keep_92 : decode cX9_keep 92 = .ok (.iastore, 1) := by decide +kernel
theorem dX9_keep_93 : decode cX9_keep 93 = .ok (.aload_n 0, 1) := by decide +kernel
theorem dX9_keep_94 : decode cX9_keep 94 = .ok (.dup, 1) := by decide +kernel
theorem dX9_keep_95 : decode cX9_keep 95 = .ok (.getfield 427, 3) := by decide +kernel
theorem dX9_keep_98 : decode cX9_keep 98 = .ok (.iconst 1, 1) := by decide +kernel
theorem dX9_keep_99 : decode cX9_keep 99 = .ok (.iadd, 1) := by decide +kernel
theorem dX9_keep_100 : decode cX9_keep 100 = .ok (.putfield 427, 3) := by decide +kernel
theorem dX9_keep_103 : decode cX9_keep 103 = .ok (.iconst 0, 1) := by decide +kernel
theorem dX9_keep_104 : decode cX9_keep 104 = .ok (.istore 5, 2) := by decide +kernel
theorem dX9_keep_106 : decode cX9_keep 106 = .ok (.iload 5, 2) := by decide +kernel
theorem dX9_keep_108 : decode cX9_keep 108 = .ok (.aload_n 0, 1) := by decide +kernel
theorem dX9_keep_109 : decode cX9_keep 109 = .ok (.getfield 398, 3) := by decide +kernel
theorem dX9_keep_112 : decode cX9_keep 112 = .ok (.if_icmp .ge 64, 3) := by decide +kernel
theorem dX9_keep_115 : decode cX9_keep 115 = .ok (.aload_n 0, 1) := by decide +kernel
theorem dX9_keep_116 : decode cX9_keep 116 = .ok (.getfield 109, 3) := by decide +kernel
theorem dX9_keep_119 : decode cX9_keep 119 = .ok (.iload 5, 2) := by decide +kernel
theorem dX9_keep_121 : decode cX9_keep 121 = .ok (.iaload, 1) := by decide +kernel
theorem dX9_keep_122 : decode cX9_keep 122 = .ok (.iconst 1, 1) := by decide +kernel
theorem dX9_keep_123 : decode cX9_keep 123 = .ok (.if_icmp .ne 47, 3) := by decide +kernel
theorem dX9_keep_126 : decode cX9_keep 126 = .ok (.aload_n 0, 1) := by decide +kernel
theorem dX9_keep_127 : decode cX9_keep 127 = .ok (.getfield 75, 3) := by decide +kernel
theorem dX9_keep_130 : decode cX9_keep 130 = .ok (.iconst 4, 1) := by decide +kernel
theorem dX9_keep_131 : decode cX9_keep 131 = .ok (.iload 5, 2) := by decide +kernel
theorem dX9_keep_133 : decode cX9_keep 133 = .ok (.imul, 1) := by decide +kernel
theorem dX9_keep_134 : decode cX9_keep 134 = .ok (.iconst 1, 1) := by decide +kernel
theorem dX9_keep_135 : decode cX9_keep 135 = .ok (.iadd, 1) := by decide +kernel
theorem dX9_keep_136 : decode cX9_keep 136 = .ok (.iaload, 1) := by decide +kernel
theorem dX9_keep_137 : decode cX9_keep 137 = .ok (.iload_n 1, 1) := by decide +kernel
theorem dX9_keep_138 : decode cX9_keep 138 = .ok (.if_icmp .ne 32, 3) := by decide +kernel
theorem dX9_keep_141 : decode cX9_keep 141 = .ok (.aload_n 0, 1) := by decide +kernel
theorem dX9_keep_142 : decode cX9_keep 142 = .ok (.getfield 109, 3) := by decide +kernel
theorem dX9_keep_145 : decode cX9_keep 145 = .ok (.iload 5, 2) := by decide +kernel
theorem dX9_keep_147 : decode cX9_keep 147 = .ok (.iload_n 2, 1) := by decide +kernel
theorem dX9_keep_148 : decode cX9_keep 148 = .ok (.aload_n 0, 1) := by decide +kernel
theorem dX9_keep_149 : decode cX9_keep 149 = .ok (.getfield 75, 3) := by decide +kernel
theorem dX9_keep_152 : decode cX9_keep 152 = .ok (.iconst 4, 1) := by decide +kernel
theorem dX9_keep_153 : decode cX9_keep 153 = .ok (.iload 5, 2) := by decide +kernel
theorem dX9_keep_155 : decode cX9_keep 155 = .ok (.imul, 1) := by decide +kernel
theorem dX9_keep_156 : decode cX9_keep 156 = .ok (.iaload, 1) := by decide +kernel
theorem dX9_keep_157 : decode cX9_keep 157 = .ok (.ishr, 1) := by decide +kernel
theorem dX9_keep_158 : decode cX9_keep 158 = .ok (.iconst 1, 1) := by decide +kernel
theorem dX9_keep_159 : decode cX9_keep 159 = .ok (.iand, 1) := by decide +kernel
theorem dX9_keep_160 : decode cX9_keep 160 = .ok (.iconst 1, 1) := by decide +kernel
theorem dX9_keep_161 : decode cX9_keep 161 = .ok (.if_icmp .ne 7, 3) := by decide +kernel
theorem dX9_keep_164 : decode cX9_keep 164 = .ok (.iconst 2, 1) := by decide +kernel
theorem dX9_keep_165 : decode cX9_keep 165 = .ok (.goto 4, 3) := by decide +kernel
theorem dX9_keep_168 : decode cX9_keep 168 = .ok (.iconst 3, 1) := by decide +kernel
theorem dX9_keep_169 : decode cX9_keep 169 = .ok (.iastore, 1) := by decide +kernel
theorem dX9_keep_170 : decode cX9_keep 170 = .ok (.iinc 5 1, 3) := by decide +kernel
theorem dX9_keep_173 : decode cX9_keep 173 = .ok (.goto (-67), 3) := by decide +kernel
theorem dX9_keep_176 : decode cX9_keep 176 = .ok (.return_, 1) := by decide +kernel
theorem dX9_vote_0 : decode cX9_vote 0 = .ok (.aload_n 0, 1) := by decide +kernel
theorem dX9_vote_1 : decode cX9_vote 1 = .ok (.iload_n 1, 1) := by decide +kernel
theorem dX9_vote_2 : decode cX9_vote 2 = .ok (.invokevirtual 472, 3) := by decide +kernel
theorem dX9_vote_5 : decode cX9_vote 5 = .ok (.ifCond .eq 21, 3) := by decide +kernel
theorem dX9_vote_8 : decode cX9_vote 8 = .ok (.aload_n 0, 1) := by decide +kernel
theorem dX9_vote_9 : decode cX9_vote 9 = .ok (.getfield 106, 3) := by decide +kernel
theorem dX9_vote_12 : decode cX9_vote 12 = .ok (.iload_n 1, 1) := by decide +kernel
theorem dX9_vote_13 : decode cX9_vote 13 = .ok (.iaload, 1) := by decide +kernel
theorem dX9_vote_14 : decode cX9_vote 14 = .ok (.iconst 1, 1) := by decide +kernel
theorem dX9_vote_15 : decode cX9_vote 15 = .ok (.if_icmp .ne 11, 3) := by decide +kernel
theorem dX9_vote_18 : decode cX9_vote 18 = .ok (.aload_n 0, 1) := by decide +kernel
theorem dX9_vote_19 : decode cX9_vote 19 = .ok (.iconst 1, 1) := by decide +kernel
theorem dX9_vote_20 : decode cX9_vote 20 = .ok (.invokevirtual 457, 3) := by decide +kernel
theorem dX9_vote_23 : decode cX9_vote 23 = .ok (.ifCond .eq 5, 3) := by decide +kernel
theorem dX9_vote_26 : decode cX9_vote 26 = .ok (.iconst (-1), 1) := by decide +kernel
theorem dX9_vote_27 : decode cX9_vote 27 = .ok (.ireturn, 1) := by decide +kernel
theorem dX9_vote_28 : decode cX9_vote 28 = .ok (.aload_n 0, 1) := by decide +kernel
theorem dX9_vote_29 : decode cX9_vote 29 = .ok (.aload_n 0, 1) := by decide +kernel
theorem dX9_vote_30 : decode cX9_vote 30 = .ok (.invokevirtual 481, 3) := by decide +kernel
theorem dX9_vote_33 : decode cX9_vote 33 = .ok (.iload_n 1, 1) := by decide +kernel
theorem dX9_vote_34 : decode cX9_vote 34 = .ok (.aload_n 0, 1) := by decide +kernel
theorem dX9_vote_35 : decode cX9_vote 35 = .ok (.invokevirtual 469, 3) := by decide +kernel
theorem dX9_vote_38 : decode cX9_vote 38 = .ok (.invokevirtual 484, 3) := by decide +kernel
theorem dX9_vote_41 : decode cX9_vote 41 = .ok (.istore_n 2, 1) := by decide +kernel
theorem dX9_vote_42 : decode cX9_vote 42 = .ok (.aload_n 0, 1) := by decide +kernel
theorem dX9_vote_43 : decode cX9_vote 43 = .ok (.aload_n 0, 1) := by decide +kernel
theorem dX9_vote_44 : decode cX9_vote 44 = .ok (.invokevirtual 481, 3) := by decide +kernel
theorem dX9_vote_47 : decode cX9_vote 47 = .ok (.iload_n 1, 1) := by decide +kernel
theorem dX9_vote_48 : decode cX9_vote 48 = .ok (.aload_n 0, 1) := by decide +kernel
theorem dX9_vote_49 : decode cX9_vote 49 = .ok (.invokevirtual 469, 3) := by decide +kernel
theorem dX9_vote_52 : decode cX9_vote 52 = .ok (.invokevirtual 487, 3) := by decide +kernel
theorem dX9_vote_55 : decode cX9_vote 55 = .ok (.istore_n 3, 1) := by decide +kernel
theorem dX9_vote_56 : decode cX9_vote 56 = .ok (.aload_n 0, 1) := by decide +kernel
theorem dX9_vote_57 : decode cX9_vote 57 = .ok (.invokevirtual 490, 3) := by decide +kernel
theorem dX9_vote_60 : decode cX9_vote 60 = .ok (.invokestatic 442, 3) := by decide +kernel
theorem dX9_vote_63 : decode cX9_vote 63 = .ok (.istore 4, 2) := by decide +kernel
theorem dX9_vote_65 : decode cX9_vote 65 = .ok (.aload_n 0, 1) := by decide +kernel
theorem dX9_vote_66 : decode cX9_vote 66 = .ok (.iload_n 2, 1) := by decide +kernel
theorem dX9_vote_67 : decode cX9_vote 67 = .ok (.invokestatic 442, 3) := by decide +kernel
theorem dX9_vote_70 : decode cX9_vote 70 = .ok (.iload_n 3, 1) := by decide +kernel
theorem dX9_vote_71 : decode cX9_vote 71 = .ok (.invokestatic 442, 3) := by decide +kernel
theorem dX9_vote_74 : decode cX9_vote 74 = .ok (.aload_n 0, 1) := by decide +kernel
theorem dX9_vote_75 : decode cX9_vote 75 = .ok (.invokevirtual 490, 3) := by decide +kernel
theorem dX9_vote_78 : decode cX9_vote 78 = .ok (.aload_n 0, 1) := by decide +kernel
theorem dX9_vote_79 : decode cX9_vote 79 = .ok (.invokevirtual 478, 3) := by decide +kernel
theorem dX9_vote_82 : decode cX9_vote 82 = .ok (.iconst (-1), 1) := by decide +kernel
theorem dX9_vote_83 : decode cX9_vote 83 = .ok (.ixor, 1) := by decide +kernel
theorem dX9_vote_84 : decode cX9_vote 84 = .ok (.iand, 1) := by decide +kernel
theorem dX9_vote_85 : decode cX9_vote 85 = .ok (.invokestatic 442, 3) := by decide +kernel
theorem dX9_vote_88 : decode cX9_vote 88 = .ok (.iload 4, 2) := by decide +kernel
theorem dX9_vote_90 : decode cX9_vote 90 = .ok (.invokevirtual 493, 3) := by decide +kernel
theorem dX9_vote_93 : decode cX9_vote 93 = .ok (.istore 5, 2) := by decide +kernel
theorem dX9_vote_95 : decode cX9_vote 95 = .ok (.aload_n 0, 1) := by decide +kernel
theorem dX9_vote_96 : decode cX9_vote 96 = .ok (.getfield 106, 3) := by decide +kernel
theorem dX9_vote_99 : decode cX9_vote 99 = .ok (.iload_n 1, 1) := by decide +kernel
theorem dX9_vote_100 : decode cX9_vote 100 = .ok (.iload 5, 2) := by decide +kernel
theorem dX9_vote_102 : decode cX9_vote 102 = .ok (.ifCond .eq 7, 3) := by decide +kernel
theorem dX9_vote_105 : decode cX9_vote 105 = .ok (.iconst 2, 1) := by decide +kernel
theorem dX9_vote_106 : decode cX9_vote 106 = .ok (.goto 4, 3) := by decide +kernel
theorem dX9_vote_109 : decode cX9_vote 109 = .ok (.iconst 3, 1) := by decide +kernel
theorem dX9_vote_110 : decode cX9_vote 110 = .ok (.iastore, 1) := by decide +kernel
theorem dX9_vote_111 : decode cX9_vote 111 = .ok (.aload_n 0, 1) := by decide +kernel
theorem dX9_vote_112 : decode cX9_vote 112 = .ok (.iload_n 1, 1) := by decide +kernel
theorem dX9_vote_113 : decode cX9_vote 113 = .ok (.iload_n 2, 1) := by decide +kernel
theorem dX9_vote_114 : decode cX9_vote 114 = .ok (.iload_n 3, 1) := by decide +kernel
theorem dX9_vote_115 : decode cX9_vote 115 = .ok (.iload 5, 2) := by decide +kernel
theorem dX9_vote_117 : decode cX9_vote 117 = .ok (.invokevirtual 497, 3) := by decide +kernel
theorem dX9_vote_120 : decode cX9_vote 120 = .ok (.aload_n 0, 1) := by decide +kernel
theorem dX9_vote_121 : decode cX9_vote 121 = .ok (.invokevirtual 460, 3) := by decide +kernel
theorem dX9_vote_124 : decode cX9_vote 124 = .ok (.istore 6, 2) := by decide +kernel
theorem dX9_vote_126 : decode cX9_vote 126 = .ok (.iload 5, 2) := by decide +kernel
theorem dX9_vote_128 : decode cX9_vote 128 = .ok (.ifCond .eq 7, 3) := by decide +kernel
theorem dX9_vote_131 : decode cX9_vote 131 = .ok (.iconst 1, 1) := by decide +kernel
theorem dX9_vote_132 : decode cX9_vote 132 = .ok (.goto 13, 3) := by decide +kernel
theorem dX9_vote_135 : decode cX9_vote 135 = .ok (.iload 6, 2) := by decide +kernel
theorem dX9_vote_137 : decode cX9_vote 137 = .ok (.ifCond .ge 7, 3) := by decide +kernel
theorem dX9_vote_140 : decode cX9_vote 140 = .ok (.iconst (-1), 1) := by decide +kernel
theorem dX9_vote_141 : decode cX9_vote 141 = .ok (.goto 4, 3) := by decide +kernel
theorem dX9_vote_144 : decode cX9_vote 144 = .ok (.iconst 0, 1) := by decide +kernel
theorem dX9_vote_145 : decode cX9_vote 145 = .ok (.ireturn, 1) := by decide +kernel
theorem dX9_enter_0 : decode cX9_enter 0 = .ok (.aload_n 0, 1) := by decide +kernel
theorem dX9_enter_1 : decode cX9_enter 1 = .ok (.iload_n 1, 1) := by decide +kernel
theorem dX9_enter_2 : decode cX9_enter 2 = .ok (.invokevirtual 433, 3) := by decide +kernel
theorem dX9_enter_5 : decode cX9_enter 5 = .ok (.ifCond .eq 22, 3) := by decide +kernel
theorem dX9_enter_8 : decode cX9_enter 8 = .ok (.aload_n 0, 1) := by decide +kernel
theorem dX9_enter_9 : decode cX9_enter 9 = .ok (.getfield 94, 3) := by decide +kernel
theorem dX9_enter_12 : decode cX9_enter 12 = .ok (.iload_n 1, 1) := by decide +kernel
theorem dX9_enter_13 : decode cX9_enter 13 = .ok (.iaload, 1) := by decide +kernel
theorem dX9_enter_14 : decode cX9_enter 14 = .ok (.bipush (-2), 2) := by decide +kernel
theorem dX9_enter_16 : decode cX9_enter 16 = .ok (.if_icmp .ne 11, 3) := by decide +kernel
theorem dX9_enter_19 : decode cX9_enter 19 = .ok (.aload_n 0, 1) := by decide +kernel
theorem dX9_enter_20 : decode cX9_enter 20 = .ok (.iconst 1, 1) := by decide +kernel
theorem dX9_enter_21 : decode cX9_enter 21 = .ok (.invokevirtual 457, 3) := by decide +kernel
theorem dX9_enter_24 : decode cX9_enter 24 = .ok (.ifCond .eq 5, 3) := by decide +kernel
theorem dX9_enter_27 : decode cX9_enter 27 = .ok (.iconst (-1), 1) := by decide +kernel
theorem dX9_enter_28 : decode cX9_enter 28 = .ok (.ireturn, 1) := by decide +kernel
theorem dX9_enter_29 : decode cX9_enter 29 = .ok (.aload_n 0, 1) := by decide +kernel
theorem dX9_enter_30 : decode cX9_enter 30 = .ok (.getfield 94, 3) := by decide +kernel
theorem dX9_enter_33 : decode cX9_enter 33 = .ok (.iload_n 1, 1) := by decide +kernel
theorem dX9_enter_34 : decode cX9_enter 34 = .ok (.iconst (-1), 1) := by decide +kernel
theorem dX9_enter_35 : decode cX9_enter 35 = .ok (.iastore, 1) := by decide +kernel
theorem dX9_enter_36 : decode cX9_enter 36 = .ok (.aload_n 0, 1) := by decide +kernel
theorem dX9_enter_37 : decode cX9_enter 37 = .ok (.invokevirtual 460, 3) := by decide +kernel
theorem dX9_enter_40 : decode cX9_enter 40 = .ok (.ireturn, 1) := by decide +kernel
theorem dX9_stay_0 : decode cX9_stay 0 = .ok (.iload_n 1, 1) := by decide +kernel
theorem dX9_stay_1 : decode cX9_stay 1 = .ok (.ifCond .lt 18, 3) := by decide +kernel
theorem dX9_stay_4 : decode cX9_stay 4 = .ok (.iload_n 1, 1) := by decide +kernel
theorem dX9_stay_5 : decode cX9_stay 5 = .ok (.sipush 200, 3) := by decide +kernel
theorem dX9_stay_8 : decode cX9_stay 8 = .ok (.if_icmp .gt 11, 3) := by decide +kernel
theorem dX9_stay_11 : decode cX9_stay 11 = .ok (.aload_n 0, 1) := by decide +kernel
theorem dX9_stay_12 : decode cX9_stay 12 = .ok (.iload_n 1, 1) := by decide +kernel
theorem dX9_stay_13 : decode cX9_stay 13 = .ok (.invokevirtual 457, 3) := by decide +kernel
theorem dX9_stay_16 : decode cX9_stay 16 = .ok (.ifCond .eq 5, 3) := by decide +kernel
theorem dX9_stay_19 : decode cX9_stay 19 = .ok (.iconst (-1), 1) := by decide +kernel
theorem dX9_stay_20 : decode cX9_stay 20 = .ok (.ireturn, 1) := by decide +kernel
theorem dX9_stay_21 : decode cX9_stay 21 = .ok (.aload_n 0, 1) := by decide +kernel
theorem dX9_stay_22 : decode cX9_stay 22 = .ok (.getfield 424, 3) := by decide +kernel
theorem dX9_stay_25 : decode cX9_stay 25 = .ok (.istore_n 2, 1) := by decide +kernel
theorem dX9_stay_26 : decode cX9_stay 26 = .ok (.iconst 0, 1) := by decide +kernel
theorem dX9_stay_27 : decode cX9_stay 27 = .ok (.istore_n 3, 1) := by decide +kernel
theorem dX9_stay_28 : decode cX9_stay 28 = .ok (.iload_n 3, 1) := by decide +kernel
theorem dX9_stay_29 : decode cX9_stay 29 = .ok (.iload_n 1, 1) := by decide +kernel
theorem dX9_stay_30 : decode cX9_stay 30 = .ok (.if_icmp .ge 14, 3) := by decide +kernel
theorem dX9_stay_33 : decode cX9_stay 33 = .ok (.aload_n 0, 1) := by decide +kernel
theorem dX9_stay_34 : decode cX9_stay 34 = .ok (.invokevirtual 460, 3) := by decide +kernel
theorem dX9_stay_37 : decode cX9_stay 37 = .ok (.istore_n 2, 1) := by decide +kernel
theorem dX9_stay_38 : decode cX9_stay 38 = .ok (.iinc 3 1, 3) := by decide +kernel
theorem dX9_stay_41 : decode cX9_stay 41 = .ok (.goto (-13), 3) := by decide +kernel
theorem dX9_stay_44 : decode cX9_stay 44 = .ok (.iload_n 2, 1) := by decide +kernel
theorem dX9_stay_45 : decode cX9_stay 45 = .ok (.ireturn, 1) := by decide +kernel
theorem dX9_crack_0 : decode cX9_crack 0 = .ok (.aload_n 0, 1) := by decide +kernel
theorem dX9_crack_1 : decode cX9_crack 1 = .ok (.iload_n 1, 1) := by decide +kernel
theorem dX9_crack_2 : decode cX9_crack 2 = .ok (.invokevirtual 466, 3) := by decide +kernel
theorem dX9_crack_5 : decode cX9_crack 5 = .ok (.ifCond .eq 13, 3) := by decide +kernel
theorem dX9_crack_8 : decode cX9_crack 8 = .ok (.aload_n 0, 1) := by decide +kernel
theorem dX9_crack_9 : decode cX9_crack 9 = .ok (.getfield 112, 3) := by decide +kernel
theorem dX9_crack_12 : decode cX9_crack 12 = .ok (.iload_n 1, 1) := by decide +kernel
theorem dX9_crack_13 : decode cX9_crack 13 = .ok (.baload, 1) := by decide +kernel
theorem dX9_crack_14 : decode cX9_crack 14 = .ok (.iload_n 2, 1) := by decide +kernel
theorem dX9_crack_15 : decode cX9_crack 15 = .ok (.if_icmp .ne 5, 3) := by decide +kernel
theorem dX9_crack_18 : decode cX9_crack 18 = .ok (.iconst (-1), 1) := by decide +kernel
theorem dX9_crack_19 : decode cX9_crack 19 = .ok (.ireturn, 1) := by decide +kernel
theorem dX9_crack_20 : decode cX9_crack 20 = .ok (.aload_n 0, 1) := by decide +kernel
theorem dX9_crack_21 : decode cX9_crack 21 = .ok (.iload_n 1, 1) := by decide +kernel
theorem dX9_crack_22 : decode cX9_crack 22 = .ok (.invokevirtual 439, 3) := by decide +kernel
theorem dX9_crack_25 : decode cX9_crack 25 = .ok (.istore_n 3, 1) := by decide +kernel
theorem dX9_crack_26 : decode cX9_crack 26 = .ok (.iconst 0, 1) := by decide +kernel
theorem dX9_crack_27 : decode cX9_crack 27 = .ok (.istore 4, 2) := by decide +kernel
theorem dX9_crack_29 : decode cX9_crack 29 = .ok (.iload 4, 2) := by decide +kernel
theorem dX9_crack_31 : decode cX9_crack 31 = .ok (.aload_n 0, 1) := by decide +kernel
theorem dX9_crack_32 : decode cX9_crack 32 = .ok (.invokevirtual 417, 3) := by decide +kernel
theorem dX9_crack_35 : decode cX9_crack 35 = .ok (.if_icmp .ge 37, 3) := by decide +kernel
theorem dX9_crack_38 : decode cX9_crack 38 = .ok (.iload_n 3, 1) := by decide +kernel
theorem dX9_crack_39 : decode cX9_crack 39 = .ok (.iload 4, 2) := by decide +kernel
theorem dX9_crack_41 : decode cX9_crack 41 = .ok (.ishr, 1) := by decide +kernel
theorem dX9_crack_42 : decode cX9_crack 42 = .ok (.iconst 1, 1) := by decide +kernel
theorem dX9_crack_43 : decode cX9_crack 43 = .ok (.iand, 1) := by decide +kernel
theorem dX9_crack_44 : decode cX9_crack 44 = .ok (.ifCond .ne 6, 3) := by decide +kernel
theorem dX9_crack_47 : decode cX9_crack 47 = .ok (.goto 19, 3) := by decide +kernel
theorem dX9_crack_50 : decode cX9_crack 50 = .ok (.aload_n 0, 1) := by decide +kernel
theorem dX9_crack_51 : decode cX9_crack 51 = .ok (.getfield 94, 3) := by decide +kernel
theorem dX9_crack_54 : decode cX9_crack 54 = .ok (.iload 4, 2) := by decide +kernel
theorem dX9_crack_56 : decode cX9_crack 56 = .ok (.iconst (-1), 1) := by decide +kernel
theorem dX9_crack_57 : decode cX9_crack 57 = .ok (.iastore, 1) := by decide +kernel
theorem dX9_crack_58 : decode cX9_crack 58 = .ok (.aload_n 0, 1) := by decide +kernel
theorem dX9_crack_59 : decode cX9_crack 59 = .ok (.getfield 100, 3) := by decide +kernel
theorem dX9_crack_62 : decode cX9_crack 62 = .ok (.iload 4, 2) := by decide +kernel
theorem dX9_crack_64 : decode cX9_crack 64 = .ok (.iconst 0, 1) := by decide +kernel
theorem dX9_crack_65 : decode cX9_crack 65 = .ok (.iastore, 1) := by decide +kernel
theorem dX9_crack_66 : decode cX9_crack 66 = .ok (.iinc 4 1, 3) := by decide +kernel
theorem dX9_crack_69 : decode cX9_crack 69 = .ok (.goto (-40), 3) := by decide +kernel
theorem dX9_crack_72 : decode cX9_crack 72 = .ok (.aload_n 0, 1) := by decide +kernel
theorem dX9_crack_73 : decode cX9_crack 73 = .ok (.getfield 112, 3) := by decide +kernel
theorem dX9_crack_76 : decode cX9_crack 76 = .ok (.iload_n 1, 1) := by decide +kernel
theorem dX9_crack_77 : decode cX9_crack 77 = .ok (.iload_n 2, 1) := by decide +kernel
theorem dX9_crack_78 : decode cX9_crack 78 = .ok (.bastore, 1) := by decide +kernel
theorem dX9_crack_79 : decode cX9_crack 79 = .ok (.iload_n 3, 1) := by decide +kernel
theorem dX9_crack_80 : decode cX9_crack 80 = .ok (.invokestatic 442, 3) := by decide +kernel
theorem dX9_crack_83 : decode cX9_crack 83 = .ok (.ireturn, 1) := by decide +kernel
theorem dX9_found_0 : decode cX9_found 0 = .ok (.aload_n 0, 1) := by decide +kernel
theorem dX9_found_1 : decode cX9_found 1 = .ok (.iload_n 1, 1) := by decide +kernel
theorem dX9_found_2 : decode cX9_found 2 = .ok (.invokevirtual 466, 3) := by decide +kernel
theorem dX9_found_5 : decode cX9_found 5 = .ok (.ifCond .eq 21, 3) := by decide +kernel
theorem dX9_found_8 : decode cX9_found 8 = .ok (.aload_n 0, 1) := by decide +kernel
theorem dX9_found_9 : decode cX9_found 9 = .ok (.getfield 88, 3) := by decide +kernel
theorem dX9_found_12 : decode cX9_found 12 = .ok (.iload_n 1, 1) := by decide +kernel
theorem dX9_found_13 : decode cX9_found 13 = .ok (.baload, 1) := by decide +kernel
theorem dX9_found_14 : decode cX9_found 14 = .ok (.ifCond .eq 12, 3) := by decide +kernel
theorem dX9_found_17 : decode cX9_found 17 = .ok (.aload_n 0, 1) := by decide +kernel
theorem dX9_found_18 : decode cX9_found 18 = .ok (.getfield 115, 3) := by decide +kernel
theorem dX9_found_21 : decode cX9_found 21 = .ok (.iload_n 1, 1) := by decide +kernel
theorem dX9_found_22 : decode cX9_found 22 = .ok (.baload, 1) := by decide +kernel
theorem dX9_found_23 : decode cX9_found 23 = .ok (.ifCond .eq 5, 3) := by decide +kernel
theorem dX9_found_26 : decode cX9_found 26 = .ok (.iconst 0, 1) := by decide +kernel
theorem dX9_found_27 : decode cX9_found 27 = .ok (.ireturn, 1) := by decide +kernel
theorem dX9_found_28 : decode cX9_found 28 = .ok (.aload_n 0, 1) := by decide +kernel
theorem dX9_found_29 : decode cX9_found 29 = .ok (.getfield 115, 3) := by decide +kernel
theorem dX9_found_32 : decode cX9_found 32 = .ok (.iload_n 1, 1) := by decide +kernel
theorem dX9_found_33 : decode cX9_found 33 = .ok (.iconst 1, 1) := by decide +kernel
theorem dX9_found_34 : decode cX9_found 34 = .ok (.bastore, 1) := by decide +kernel
theorem dX9_found_35 : decode cX9_found 35 = .ok (.iconst 1, 1) := by decide +kernel
theorem dX9_found_36 : decode cX9_found 36 = .ok (.ireturn, 1) := by decide +kernel
theorem dX9_man_0 : decode cX9_man 0 = .ok (.aload_n 0, 1) := by decide +kernel
theorem dX9_man_1 : decode cX9_man 1 = .ok (.iload_n 1, 1) := by decide +kernel
theorem dX9_man_2 : decode cX9_man 2 = .ok (.invokevirtual 433, 3) := by decide +kernel
theorem dX9_man_5 : decode cX9_man 5 = .ok (.ifCond .ne 6, 3) := by decide +kernel
theorem dX9_man_8 : decode cX9_man 8 = .ok (.bipush (-2), 2) := by decide +kernel
theorem dX9_man_10 : decode cX9_man 10 = .ok (.ireturn, 1) := by decide +kernel
theorem dX9_man_11 : decode cX9_man 11 = .ok (.iload_n 2, 1) := by decide +kernel
theorem dX9_man_12 : decode cX9_man 12 = .ok (.tableswitch 139 0 5 #[40, 71, 91, 98, 118, 132], 40) := by decide +kernel
theorem dX9_man_52 : decode cX9_man 52 = .ok (.aload_n 0, 1) := by decide +kernel
theorem dX9_man_53 : decode cX9_man 53 = .ok (.getfield 94, 3) := by decide +kernel
theorem dX9_man_56 : decode cX9_man 56 = .ok (.iload_n 1, 1) := by decide +kernel
theorem dX9_man_57 : decode cX9_man 57 = .ok (.iaload, 1) := by decide +kernel
theorem dX9_man_58 : decode cX9_man 58 = .ok (.bipush (-2), 2) := by decide +kernel
theorem dX9_man_60 : decode cX9_man 60 = .ok (.if_icmp .ne 7, 3) := by decide +kernel
theorem dX9_man_63 : decode cX9_man 63 = .ok (.iconst 2, 1) := by decide +kernel
theorem dX9_man_64 : decode cX9_man 64 = .ok (.goto 18, 3) := by decide +kernel
theorem dX9_man_67 : decode cX9_man 67 = .ok (.aload_n 0, 1) := by decide +kernel
theorem dX9_man_68 : decode cX9_man 68 = .ok (.getfield 94, 3) := by decide +kernel
theorem dX9_man_71 : decode cX9_man 71 = .ok (.iload_n 1, 1) := by decide +kernel
theorem dX9_man_72 : decode cX9_man 72 = .ok (.iaload, 1) := by decide +kernel
theorem dX9_man_73 : decode cX9_man 73 = .ok (.iconst (-1), 1) := by decide +kernel
theorem dX9_man_74 : decode cX9_man 74 = .ok (.if_icmp .ne 7, 3) := by decide +kernel
theorem dX9_man_77 : decode cX9_man 77 = .ok (.iconst 0, 1) := by decide +kernel
theorem dX9_man_78 : decode cX9_man 78 = .ok (.goto 4, 3) := by decide +kernel
theorem dX9_man_81 : decode cX9_man 81 = .ok (.iconst 1, 1) := by decide +kernel
theorem dX9_man_82 : decode cX9_man 82 = .ok (.ireturn, 1) := by decide +kernel
theorem dX9_man_83 : decode cX9_man 83 = .ok (.aload_n 0, 1) := by decide +kernel
theorem dX9_man_84 : decode cX9_man 84 = .ok (.getfield 94, 3) := by decide +kernel
theorem dX9_man_87 : decode cX9_man 87 = .ok (.iload_n 1, 1) := by decide +kernel
theorem dX9_man_88 : decode cX9_man 88 = .ok (.iaload, 1) := by decide +kernel
theorem dX9_man_89 : decode cX9_man 89 = .ok (.ifCond .ge 7, 3) := by decide +kernel
theorem dX9_man_92 : decode cX9_man 92 = .ok (.iconst (-1), 1) := by decide +kernel
theorem dX9_man_93 : decode cX9_man 93 = .ok (.goto 9, 3) := by decide +kernel
theorem dX9_man_96 : decode cX9_man 96 = .ok (.aload_n 0, 1) := by decide +kernel
theorem dX9_man_97 : decode cX9_man 97 = .ok (.getfield 94, 3) := by decide +kernel
theorem dX9_man_100 : decode cX9_man 100 = .ok (.iload_n 1, 1) := by decide +kernel
theorem dX9_man_101 : decode cX9_man 101 = .ok (.iaload, 1) := by decide +kernel
theorem dX9_man_102 : decode cX9_man 102 = .ok (.ireturn, 1) := by decide +kernel
theorem dX9_man_103 : decode cX9_man 103 = .ok (.aload_n 0, 1) := by decide +kernel
theorem dX9_man_104 : decode cX9_man 104 = .ok (.getfield 97, 3) := by decide +kernel
theorem dX9_man_107 : decode cX9_man 107 = .ok (.iload_n 1, 1) := by decide +kernel
theorem dX9_man_108 : decode cX9_man 108 = .ok (.iaload, 1) := by decide +kernel
theorem dX9_man_109 : decode cX9_man 109 = .ok (.ireturn, 1) := by decide +kernel
theorem dX9_man_110 : decode cX9_man 110 = .ok (.aload_n 0, 1) := by decide +kernel
theorem dX9_man_111 : decode cX9_man 111 = .ok (.getfield 94, 3) := by decide +kernel
theorem dX9_man_114 : decode cX9_man 114 = .ok (.iload_n 1, 1) := by decide +kernel
theorem dX9_man_115 : decode cX9_man 115 = .ok (.iaload, 1) := by decide +kernel
theorem dX9_man_116 : decode cX9_man 116 = .ok (.ifCond .ge 7, 3) := by decide +kernel
theorem dX9_man_119 : decode cX9_man 119 = .ok (.iconst 0, 1) := by decide +kernel
theorem dX9_man_120 : decode cX9_man 120 = .ok (.goto 9, 3) := by decide +kernel
theorem dX9_man_123 : decode cX9_man 123 = .ok (.aload_n 0, 1) := by decide +kernel
theorem dX9_man_124 : decode cX9_man 124 = .ok (.getfield 100, 3) := by decide +kernel
theorem dX9_man_127 : decode cX9_man 127 = .ok (.iload_n 1, 1) := by decide +kernel
theorem dX9_man_128 : decode cX9_man 128 = .ok (.iaload, 1) := by decide +kernel
theorem dX9_man_129 : decode cX9_man 129 = .ok (.ireturn, 1) := by decide +kernel
theorem dX9_man_130 : decode cX9_man 130 = .ok (.aload_n 0, 1) := by decide +kernel
theorem dX9_man_131 : decode cX9_man 131 = .ok (.iload_n 1, 1) := by decide +kernel
theorem dX9_man_132 : decode cX9_man 132 = .ok (.invokevirtual 445, 3) := by decide +kernel
theorem dX9_man_135 : decode cX9_man 135 = .ok (.ifCond .eq 7, 3) := by decide +kernel
theorem dX9_man_138 : decode cX9_man 138 = .ok (.iconst 1, 1) := by decide +kernel
theorem dX9_man_139 : decode cX9_man 139 = .ok (.goto 4, 3) := by decide +kernel
theorem dX9_man_142 : decode cX9_man 142 = .ok (.iconst 0, 1) := by decide +kernel
theorem dX9_man_143 : decode cX9_man 143 = .ok (.ireturn, 1) := by decide +kernel
theorem dX9_man_144 : decode cX9_man 144 = .ok (.aload_n 0, 1) := by decide +kernel
theorem dX9_man_145 : decode cX9_man 145 = .ok (.getfield 103, 3) := by decide +kernel
theorem dX9_man_148 : decode cX9_man 148 = .ok (.iload_n 1, 1) := by decide +kernel
theorem dX9_man_149 : decode cX9_man 149 = .ok (.iaload, 1) := by decide +kernel
theorem dX9_man_150 : decode cX9_man 150 = .ok (.ireturn, 1) := by decide +kernel
theorem dX9_man_151 : decode cX9_man 151 = .ok (.bipush (-2), 2) := by decide +kernel
theorem dX9_man_153 : decode cX9_man 153 = .ok (.ireturn, 1) := by decide +kernel
theorem dX9_chair_0 : decode cX9_chair 0 = .ok (.aload_n 0, 1) := by decide +kernel
theorem dX9_chair_1 : decode cX9_chair 1 = .ok (.iload_n 1, 1) := by decide +kernel
theorem dX9_chair_2 : decode cX9_chair 2 = .ok (.invokevirtual 466, 3) := by decide +kernel
theorem dX9_chair_5 : decode cX9_chair 5 = .ok (.ifCond .ne 6, 3) := by decide +kernel
theorem dX9_chair_8 : decode cX9_chair 8 = .ok (.bipush (-2), 2) := by decide +kernel
theorem dX9_chair_10 : decode cX9_chair 10 = .ok (.ireturn, 1) := by decide +kernel
theorem dX9_chair_11 : decode cX9_chair 11 = .ok (.iload_n 2, 1) := by decide +kernel
theorem dX9_chair_12 : decode cX9_chair 12 = .ok (.tableswitch 64 0 2 #[28, 34, 49], 28) := by decide +kernel
theorem dX9_chair_40 : decode cX9_chair 40 = .ok (.aload_n 0, 1) := by decide +kernel
theorem dX9_chair_41 : decode cX9_chair 41 = .ok (.iload_n 1, 1) := by decide +kernel
theorem dX9_chair_42 : decode cX9_chair 42 = .ok (.invokevirtual 439, 3) := by decide +kernel
theorem dX9_chair_45 : decode cX9_chair 45 = .ok (.ireturn, 1) := by decide +kernel
theorem dX9_chair_46 : decode cX9_chair 46 = .ok (.aload_n 0, 1) := by decide +kernel
theorem dX9_chair_47 : decode cX9_chair 47 = .ok (.getfield 112, 3) := by decide +kernel
theorem dX9_chair_50 : decode cX9_chair 50 = .ok (.iload_n 1, 1) := by decide +kernel
theorem dX9_chair_51 : decode cX9_chair 51 = .ok (.baload, 1) := by decide +kernel
theorem dX9_chair_52 : decode cX9_chair 52 = .ok (.ifCond .eq 7, 3) := by decide +kernel
theorem dX9_chair_55 : decode cX9_chair 55 = .ok (.iconst 1, 1) := by decide +kernel
theorem dX9_chair_56 : decode cX9_chair 56 = .ok (.goto 4, 3) := by decide +kernel
theorem dX9_chair_59 : decode cX9_chair 59 = .ok (.iconst 0, 1) := by decide +kernel
theorem dX9_chair_60 : decode cX9_chair 60 = .ok (.ireturn, 1) := by decide +kernel
theorem dX9_chair_61 : decode cX9_chair 61 = .ok (.aload_n 0, 1) := by decide +kernel
theorem dX9_chair_62 : decode cX9_chair 62 = .ok (.getfield 115, 3) := by decide +kernel
theorem dX9_chair_65 : decode cX9_chair 65 = .ok (.iload_n 1, 1) := by decide +kernel
theorem dX9_chair_66 : decode cX9_chair 66 = .ok (.baload, 1) := by decide +kernel
theorem dX9_chair_67 : decode cX9_chair 67 = .ok (.ifCond .eq 7, 3) := by decide +kernel
theorem dX9_chair_70 : decode cX9_chair 70 = .ok (.iconst 1, 1) := by decide +kernel
theorem dX9_chair_71 : decode cX9_chair 71 = .ok (.goto 4, 3) := by decide +kernel
theorem dX9_chair_74 : decode cX9_chair 74 = .ok (.iconst 0, 1) := by decide +kernel
theorem dX9_chair_75 : decode cX9_chair 75 = .ok (.ireturn, 1) := by decide +kernel
theorem dX9_chair_76 : decode cX9_chair 76 = .ok (.bipush (-2), 2) := by decide +kernel
theorem dX9_chair_78 : decode cX9_chair 78 = .ok (.ireturn, 1) := by decide +kernel
theorem dX9_allWishes_0 : decode cX9_allWishes 0 = .ok (.iconst 0, 1) := by decide +kernel
theorem dX9_allWishes_1 : decode cX9_allWishes 1 = .ok (.istore_n 2, 1) := by decide +kernel
theorem dX9_allWishes_2 : decode cX9_allWishes 2 = .ok (.iconst 0, 1) := by decide +kernel
theorem dX9_allWishes_3 : decode cX9_allWishes 3 = .ok (.istore_n 3, 1) := by decide +kernel
theorem dX9_allWishes_4 : decode cX9_allWishes 4 = .ok (.iload_n 3, 1) := by decide +kernel
theorem dX9_allWishes_5 : decode cX9_allWishes 5 = .ok (.aload_n 0, 1) := by decide +kernel
theorem dX9_allWishes_6 : decode cX9_allWishes 6 = .ok (.invokevirtual 417, 3) := by decide +kernel
theorem dX9_allWishes_9 : decode cX9_allWishes 9 = .ok (.if_icmp .ge 22, 3) := by decide +kernel
theorem dX9_allWishes_12 : decode cX9_allWishes 12 = .ok (.iload_n 2, 1) := by decide +kernel
theorem dX9_allWishes_13 : decode cX9_allWishes 13 = .ok (.aload_n 0, 1) := by decide +kernel
theorem dX9_allWishes_14 : decode cX9_allWishes 14 = .ok (.getfield 72, 3) := by decide +kernel
theorem dX9_allWishes_17 : decode cX9_allWishes 17 = .ok (.iconst 4, 1) := by decide +kernel
theorem dX9_allWishes_18 : decode cX9_allWishes 18 = .ok (.iload_n 3, 1) := by decide +kernel
theorem dX9_allWishes_19 : decode cX9_allWishes 19 = .ok (.imul, 1) := by decide +kernel
theorem dX9_allWishes_20 : decode cX9_allWishes 20 = .ok (.iload_n 1, 1) := by decide +kernel
theorem dX9_allWishes_21 : decode cX9_allWishes 21 = .ok (.iadd, 1) := by decide +kernel
theorem dX9_allWishes_22 : decode cX9_allWishes 22 = .ok (.iaload, 1) := by decide +kernel
theorem dX9_allWishes_23 : decode cX9_allWishes 23 = .ok (.iadd, 1) := by decide +kernel
theorem dX9_allWishes_24 : decode cX9_allWishes 24 = .ok (.istore_n 2, 1) := by decide +kernel
theorem dX9_allWishes_25 : decode cX9_allWishes 25 = .ok (.iinc 3 1, 3) := by decide +kernel
theorem dX9_allWishes_28 : decode cX9_allWishes 28 = .ok (.goto (-24), 3) := by decide +kernel
theorem dX9_allWishes_31 : decode cX9_allWishes 31 = .ok (.iload_n 2, 1) := by decide +kernel
theorem dX9_allWishes_32 : decode cX9_allWishes 32 = .ok (.ireturn, 1) := by decide +kernel
theorem dX9_matter_0 : decode cX9_matter 0 = .ok (.aload_n 0, 1) := by decide +kernel
theorem dX9_matter_1 : decode cX9_matter 1 = .ok (.iload_n 1, 1) := by decide +kernel
theorem dX9_matter_2 : decode cX9_matter 2 = .ok (.invokevirtual 472, 3) := by decide +kernel
theorem dX9_matter_5 : decode cX9_matter 5 = .ok (.ifCond .ne 7, 3) := by decide +kernel
theorem dX9_matter_8 : decode cX9_matter 8 = .ok (.ldc_w 501, 3) := by decide +kernel
theorem dX9_matter_11 : decode cX9_matter 11 = .ok (.ireturn, 1) := by decide +kernel
theorem dX9_matter_12 : decode cX9_matter 12 = .ok (.iload_n 2, 1) := by decide +kernel
theorem dX9_matter_13 : decode cX9_matter 13 = .ok (.tableswitch 78 0 3 #[31, 38, 44, 61], 31) := by decide +kernel
theorem dX9_matter_44 : decode cX9_matter 44 = .ok (.aload_n 0, 1) := by decide +kernel
theorem dX9_matter_45 : decode cX9_matter 45 = .ok (.getfield 106, 3) := by decide +kernel
theorem dX9_matter_48 : decode cX9_matter 48 = .ok (.iload_n 1, 1) := by decide +kernel
theorem dX9_matter_49 : decode cX9_matter 49 = .ok (.iaload, 1) := by decide +kernel
theorem dX9_matter_50 : decode cX9_matter 50 = .ok (.ireturn, 1) := by decide +kernel
theorem dX9_matter_51 : decode cX9_matter 51 = .ok (.aload_n 0, 1) := by decide +kernel
theorem dX9_matter_52 : decode cX9_matter 52 = .ok (.iload_n 1, 1) := by decide +kernel
theorem dX9_matter_53 : decode cX9_matter 53 = .ok (.invokevirtual 502, 3) := by decide +kernel
theorem dX9_matter_56 : decode cX9_matter 56 = .ok (.ireturn, 1) := by decide +kernel
theorem dX9_matter_57 : decode cX9_matter 57 = .ok (.aload_n 0, 1) := by decide +kernel
theorem dX9_matter_58 : decode cX9_matter 58 = .ok (.aload_n 0, 1) := by decide +kernel
theorem dX9_matter_59 : decode cX9_matter 59 = .ok (.invokevirtual 481, 3) := by decide +kernel
theorem dX9_matter_62 : decode cX9_matter 62 = .ok (.iload_n 1, 1) := by decide +kernel
theorem dX9_matter_63 : decode cX9_matter 63 = .ok (.aload_n 0, 1) := by decide +kernel
theorem dX9_matter_64 : decode cX9_matter 64 = .ok (.invokevirtual 469, 3) := by decide +kernel
theorem dX9_matter_67 : decode cX9_matter 67 = .ok (.invokevirtual 484, 3) := by decide +kernel
theorem dX9_matter_70 : decode cX9_matter 70 = .ok (.invokestatic 442, 3) := by decide +kernel
theorem dX9_matter_73 : decode cX9_matter 73 = .ok (.ireturn, 1) := by decide +kernel
theorem dX9_matter_74 : decode cX9_matter 74 = .ok (.aload_n 0, 1) := by decide +kernel
theorem dX9_matter_75 : decode cX9_matter 75 = .ok (.aload_n 0, 1) := by decide +kernel
theorem dX9_matter_76 : decode cX9_matter 76 = .ok (.invokevirtual 481, 3) := by decide +kernel
theorem dX9_matter_79 : decode cX9_matter 79 = .ok (.iload_n 1, 1) := by decide +kernel
theorem dX9_matter_80 : decode cX9_matter 80 = .ok (.aload_n 0, 1) := by decide +kernel
theorem dX9_matter_81 : decode cX9_matter 81 = .ok (.invokevirtual 469, 3) := by decide +kernel
theorem dX9_matter_84 : decode cX9_matter 84 = .ok (.invokevirtual 487, 3) := by decide +kernel
theorem dX9_matter_87 : decode cX9_matter 87 = .ok (.invokestatic 442, 3) := by decide +kernel
theorem dX9_matter_90 : decode cX9_matter 90 = .ok (.ireturn, 1) := by decide +kernel
theorem dX9_matter_91 : decode cX9_matter 91 = .ok (.ldc_w 501, 3) := by decide +kernel
theorem dX9_matter_94 : decode cX9_matter 94 = .ok (.ireturn, 1) := by decide +kernel
theorem dX9_deal_0 : decode cX9_deal 0 = .ok (.iload_n 1, 1) := by decide +kernel
theorem dX9_deal_1 : decode cX9_deal 1 = .ok (.ifCond .lt 20, 3) := by decide +kernel
theorem dX9_deal_4 : decode cX9_deal 4 = .ok (.iload_n 1, 1) := by decide +kernel
theorem dX9_deal_5 : decode cX9_deal 5 = .ok (.aload_n 0, 1) := by decide +kernel
theorem dX9_deal_6 : decode cX9_deal 6 = .ok (.getfield 398, 3) := by decide +kernel
theorem dX9_deal_9 : decode cX9_deal 9 = .ok (.if_icmp .ge 12, 3) := by decide +kernel
theorem dX9_deal_12 : decode cX9_deal 12 = .ok (.aload_n 0, 1) := by decide +kernel
theorem dX9_deal_13 : decode cX9_deal 13 = .ok (.getfield 109, 3) := by decide +kernel
theorem dX9_deal_16 : decode cX9_deal 16 = .ok (.iload_n 1, 1) := by decide +kernel
theorem dX9_deal_17 : decode cX9_deal 17 = .ok (.iaload, 1) := by decide +kernel
theorem dX9_deal_18 : decode cX9_deal 18 = .ok (.goto 4, 3) := by decide +kernel
theorem dX9_deal_21 : decode cX9_deal 21 = .ok (.iconst (-1), 1) := by decide +kernel
theorem dX9_deal_22 : decode cX9_deal 22 = .ok (.ireturn, 1) := by decide +kernel
theorem dX9_keptVotes_0 : decode cX9_keptVotes 0 = .ok (.aload_n 0, 1) := by decide +kernel
theorem dX9_keptVotes_1 : decode cX9_keptVotes 1 = .ok (.getfield 427, 3) := by decide +kernel
theorem dX9_keptVotes_4 : decode cX9_keptVotes 4 = .ok (.bipush 100, 2) := by decide +kernel
theorem dX9_keptVotes_6 : decode cX9_keptVotes 6 = .ok (.if_icmp .ge 10, 3) := by decide +kernel
theorem dX9_keptVotes_9 : decode cX9_keptVotes 9 = .ok (.aload_n 0, 1) := by decide +kernel
theorem dX9_keptVotes_10 : decode cX9_keptVotes 10 = .ok (.getfield 427, 3) := by decide +kernel
theorem dX9_keptVotes_13 : decode cX9_keptVotes 13 = .ok (.goto 5, 3) := by decide +kernel
theorem dX9_keptVotes_16 : decode cX9_keptVotes 16 = .ok (.bipush 100, 2) := by decide +kernel
theorem dX9_keptVotes_18 : decode cX9_keptVotes 18 = .ok (.ireturn, 1) := by decide +kernel
theorem dX9_voted_0 : decode cX9_voted 0 = .ok (.iload_n 1, 1) := by decide +kernel
theorem dX9_voted_1 : decode cX9_voted 1 = .ok (.ifCond .lt 20, 3) := by decide +kernel
theorem dX9_voted_4 : decode cX9_voted 4 = .ok (.iload_n 1, 1) := by decide +kernel
theorem dX9_voted_5 : decode cX9_voted 5 = .ok (.aload_n 0, 1) := by decide +kernel
theorem dX9_voted_6 : decode cX9_voted 6 = .ok (.invokevirtual 505, 3) := by decide +kernel
theorem dX9_voted_9 : decode cX9_voted 9 = .ok (.if_icmp .ge 12, 3) := by decide +kernel
theorem dX9_voted_12 : decode cX9_voted 12 = .ok (.iload_n 2, 1) := by decide +kernel
theorem dX9_voted_13 : decode cX9_voted 13 = .ok (.ifCond .lt 8, 3) := by decide +kernel
theorem dX9_voted_16 : decode cX9_voted 16 = .ok (.iload_n 2, 1) := by decide +kernel
theorem dX9_voted_17 : decode cX9_voted 17 = .ok (.iconst 5, 1) := by decide +kernel
theorem dX9_voted_18 : decode cX9_voted 18 = .ok (.if_icmp .le 7, 3) := by decide +kernel
theorem dX9_voted_21 : decode cX9_voted 21 = .ok (.iconst (-1), 1) := by decide +kernel
theorem dX9_voted_22 : decode cX9_voted 22 = .ok (.goto 14, 3) := by decide +kernel
theorem dX9_voted_25 : decode cX9_voted 25 = .ok (.aload_n 0, 1) := by decide +kernel
theorem dX9_voted_26 : decode cX9_voted 26 = .ok (.getfield 118, 3) := by decide +kernel
theorem dX9_voted_29 : decode cX9_voted 29 = .ok (.bipush 6, 2) := by decide +kernel
theorem dX9_voted_31 : decode cX9_voted 31 = .ok (.iload_n 1, 1) := by decide +kernel
theorem dX9_voted_32 : decode cX9_voted 32 = .ok (.imul, 1) := by decide +kernel
theorem dX9_voted_33 : decode cX9_voted 33 = .ok (.iload_n 2, 1) := by decide +kernel
theorem dX9_voted_34 : decode cX9_voted 34 = .ok (.iadd, 1) := by decide +kernel
theorem dX9_voted_35 : decode cX9_voted 35 = .ok (.iaload, 1) := by decide +kernel
theorem dX9_voted_36 : decode cX9_voted 36 = .ok (.ireturn, 1) := by decide +kernel
theorem dX9_sat_0 : decode cX9_sat 0 = .ok (.aload_n 0, 1) := by decide +kernel
theorem dX9_sat_1 : decode cX9_sat 1 = .ok (.iload_n 1, 1) := by decide +kernel
theorem dX9_sat_2 : decode cX9_sat 2 = .ok (.invokevirtual 466, 3) := by decide +kernel
theorem dX9_sat_5 : decode cX9_sat 5 = .ok (.ifCond .eq 37, 3) := by decide +kernel
theorem dX9_sat_8 : decode cX9_sat 8 = .ok (.iload_n 2, 1) := by decide +kernel
theorem dX9_sat_9 : decode cX9_sat 9 = .ok (.iconst 1, 1) := by decide +kernel
theorem dX9_sat_10 : decode cX9_sat 10 = .ok (.if_icmp .lt 32, 3) := by decide +kernel
theorem dX9_sat_13 : decode cX9_sat 13 = .ok (.iload_n 2, 1) := by decide +kernel
theorem dX9_sat_14 : decode cX9_sat 14 = .ok (.sipush 200, 3) := by decide +kernel
theorem dX9_sat_17 : decode cX9_sat 17 = .ok (.if_icmp .gt 25, 3) := by decide +kernel
theorem dX9_sat_20 : decode cX9_sat 20 = .ok (.iload_n 2, 1) := by decide +kernel
theorem dX9_sat_21 : decode cX9_sat 21 = .ok (.aload_n 0, 1) := by decide +kernel
theorem dX9_sat_22 : decode cX9_sat 22 = .ok (.getfield 424, 3) := by decide +kernel
theorem dX9_sat_25 : decode cX9_sat 25 = .ok (.if_icmp .gt 17, 3) := by decide +kernel
theorem dX9_sat_28 : decode cX9_sat 28 = .ok (.aload_n 0, 1) := by decide +kernel
theorem dX9_sat_29 : decode cX9_sat 29 = .ok (.getfield 121, 3) := by decide +kernel
theorem dX9_sat_32 : decode cX9_sat 32 = .ok (.bipush 6, 2) := by decide +kernel
theorem dX9_sat_34 : decode cX9_sat 34 = .ok (.iload_n 2, 1) := by decide +kernel
theorem dX9_sat_35 : decode cX9_sat 35 = .ok (.imul, 1) := by decide +kernel
theorem dX9_sat_36 : decode cX9_sat 36 = .ok (.iload_n 1, 1) := by decide +kernel
theorem dX9_sat_37 : decode cX9_sat 37 = .ok (.iadd, 1) := by decide +kernel
theorem dX9_sat_38 : decode cX9_sat 38 = .ok (.iaload, 1) := by decide +kernel
theorem dX9_sat_39 : decode cX9_sat 39 = .ok (.goto 4, 3) := by decide +kernel
theorem dX9_sat_42 : decode cX9_sat 42 = .ok (.iconst (-1), 1) := by decide +kernel
theorem dX9_sat_43 : decode cX9_sat 43 = .ok (.ireturn, 1) := by decide +kernel
theorem dX9_seats_0 : decode cX9_seats 0 = .ok (.iconst 0, 1) := by decide +kernel
theorem dX9_seats_1 : decode cX9_seats 1 = .ok (.istore_n 1, 1) := by decide +kernel
theorem dX9_seats_2 : decode cX9_seats 2 = .ok (.iconst 0, 1) := by decide +kernel
theorem dX9_seats_3 : decode cX9_seats 3 = .ok (.istore_n 2, 1) := by decide +kernel
theorem dX9_seats_4 : decode cX9_seats 4 = .ok (.iload_n 2, 1) := by decide +kernel
theorem dX9_seats_5 : decode cX9_seats 5 = .ok (.aload_n 0, 1) := by decide +kernel
theorem dX9_seats_6 : decode cX9_seats 6 = .ok (.getfield 45, 3) := by decide +kernel
theorem dX9_seats_9 : decode cX9_seats 9 = .ok (.iconst 0, 1) := by decide +kernel
theorem dX9_seats_10 : decode cX9_seats 10 = .ok (.iaload, 1) := by decide +kernel
theorem dX9_seats_11 : decode cX9_seats 11 = .ok (.if_icmp .ge 40, 3) := by decide +kernel
theorem dX9_seats_14 : decode cX9_seats 14 = .ok (.iload_n 1, 1) := by decide +kernel
theorem dX9_seats_15 : decode cX9_seats 15 = .ok (.aload_n 0, 1) := by decide +kernel
theorem dX9_seats_16 : decode cX9_seats 16 = .ok (.getfield 112, 3) := by decide +kernel
theorem dX9_seats_19 : decode cX9_seats 19 = .ok (.iload_n 2, 1) := by decide +kernel
theorem dX9_seats_20 : decode cX9_seats 20 = .ok (.baload, 1) := by decide +kernel
theorem dX9_seats_21 : decode cX9_seats 21 = .ok (.ifCond .ne 12, 3) := by decide +kernel
theorem dX9_seats_24 : decode cX9_seats 24 = .ok (.aload_n 0, 1) := by decide +kernel
theorem dX9_seats_25 : decode cX9_seats 25 = .ok (.getfield 115, 3) := by decide +kernel
theorem dX9_seats_28 : decode cX9_seats 28 = .ok (.iload_n 2, 1) := by decide +kernel
theorem dX9_seats_29 : decode cX9_seats 29 = .ok (.baload, 1) := by decide +kernel
theorem dX9_seats_30 : decode cX9_seats 30 = .ok (.ifCond .eq 7, 3) := by decide +kernel
theorem dX9_seats_33 : decode cX9_seats 33 = .ok (.iconst 0, 1) := by decide +kernel
theorem dX9_seats_34 : decode cX9_seats 34 = .ok (.goto 9, 3) := by decide +kernel
theorem dX9_seats_37 : decode cX9_seats 37 = .ok (.aload_n 0, 1) := by decide +kernel
theorem dX9_seats_38 : decode cX9_seats 38 = .ok (.getfield 63, 3) := by decide +kernel
theorem dX9_seats_41 : decode cX9_seats 41 = .ok (.iload_n 2, 1) := by decide +kernel
theorem dX9_seats_42 : decode cX9_seats 42 = .ok (.iaload, 1) := by decide +kernel
theorem dX9_seats_43 : decode cX9_seats 43 = .ok (.iadd, 1) := by decide +kernel
theorem dX9_seats_44 : decode cX9_seats 44 = .ok (.istore_n 1, 1) := by decide +kernel
theorem dX9_seats_45 : decode cX9_seats 45 = .ok (.iinc 2 1, 3) := by decide +kernel
theorem dX9_seats_48 : decode cX9_seats 48 = .ok (.goto (-44), 3) := by decide +kernel
theorem dX9_seats_51 : decode cX9_seats 51 = .ok (.iload_n 1, 1) := by decide +kernel
theorem dX9_seats_52 : decode cX9_seats 52 = .ok (.ireturn, 1) := by decide +kernel
theorem dX9_seated_0 : decode cX9_seated 0 = .ok (.iconst 0, 1) := by decide +kernel
theorem dX9_seated_1 : decode cX9_seated 1 = .ok (.istore_n 1, 1) := by decide +kernel
theorem dX9_seated_2 : decode cX9_seated 2 = .ok (.iconst 0, 1) := by decide +kernel
theorem dX9_seated_3 : decode cX9_seated 3 = .ok (.istore_n 2, 1) := by decide +kernel
theorem dX9_seated_4 : decode cX9_seated 4 = .ok (.iload_n 2, 1) := by decide +kernel
theorem dX9_seated_5 : decode cX9_seated 5 = .ok (.aload_n 0, 1) := by decide +kernel
theorem dX9_seated_6 : decode cX9_seated 6 = .ok (.invokevirtual 417, 3) := by decide +kernel
theorem dX9_seated_9 : decode cX9_seated 9 = .ok (.if_icmp .ge 42, 3) := by decide +kernel
theorem dX9_seated_12 : decode cX9_seated 12 = .ok (.iload_n 1, 1) := by decide +kernel
theorem dX9_seated_13 : decode cX9_seated 13 = .ok (.aload_n 0, 1) := by decide +kernel
theorem dX9_seated_14 : decode cX9_seated 14 = .ok (.getfield 94, 3) := by decide +kernel
theorem dX9_seated_17 : decode cX9_seated 17 = .ok (.iload_n 2, 1) := by decide +kernel
theorem dX9_seated_18 : decode cX9_seated 18 = .ok (.iaload, 1) := by decide +kernel
theorem dX9_seated_19 : decode cX9_seated 19 = .ok (.ifCond .lt 23, 3) := by decide +kernel
theorem dX9_seated_22 : decode cX9_seated 22 = .ok (.aload_n 0, 1) := by decide +kernel
theorem dX9_seated_23 : decode cX9_seated 23 = .ok (.getfield 115, 3) := by decide +kernel
theorem dX9_seated_26 : decode cX9_seated 26 = .ok (.aload_n 0, 1) := by decide +kernel
theorem dX9_seated_27 : decode cX9_seated 27 = .ok (.getfield 94, 3) := by decide +kernel
theorem dX9_seated_30 : decode cX9_seated 30 = .ok (.iload_n 2, 1) := by decide +kernel
theorem dX9_seated_31 : decode cX9_seated 31 = .ok (.iaload, 1) := by decide +kernel
theorem dX9_seated_32 : decode cX9_seated 32 = .ok (.baload, 1) := by decide +kernel
theorem dX9_seated_33 : decode cX9_seated 33 = .ok (.ifCond .ne 9, 3) := by decide +kernel
theorem dX9_seated_36 : decode cX9_seated 36 = .ok (.iconst 1, 1) := by decide +kernel
theorem dX9_seated_37 : decode cX9_seated 37 = .ok (.iload_n 2, 1) := by decide +kernel
theorem dX9_seated_38 : decode cX9_seated 38 = .ok (.ishl, 1) := by decide +kernel
theorem dX9_seated_39 : decode cX9_seated 39 = .ok (.goto 4, 3) := by decide +kernel
theorem dX9_seated_42 : decode cX9_seated 42 = .ok (.iconst 0, 1) := by decide +kernel
theorem dX9_seated_43 : decode cX9_seated 43 = .ok (.ior, 1) := by decide +kernel
theorem dX9_seated_44 : decode cX9_seated 44 = .ok (.istore_n 1, 1) := by decide +kernel
theorem dX9_seated_45 : decode cX9_seated 45 = .ok (.iinc 2 1, 3) := by decide +kernel
theorem dX9_seated_48 : decode cX9_seated 48 = .ok (.goto (-44), 3) := by decide +kernel
theorem dX9_seated_51 : decode cX9_seated 51 = .ok (.iload_n 1, 1) := by decide +kernel
theorem dX9_seated_52 : decode cX9_seated 52 = .ok (.ireturn, 1) := by decide +kernel
theorem dX9_statusOf_0 : decode cX9_statusOf 0 = .ok (.iload_n 0, 1) := by decide +kernel
theorem dX9_statusOf_1 : decode cX9_statusOf 1 = .ok (.bipush 6, 2) := by decide +kernel
theorem dX9_statusOf_3 : decode cX9_statusOf 3 = .ok (.iconst 2, 1) := by decide +kernel
theorem dX9_statusOf_4 : decode cX9_statusOf 4 = .ok (.iload_n 1, 1) := by decide +kernel
theorem dX9_statusOf_5 : decode cX9_statusOf 5 = .ok (.imul, 1) := by decide +kernel
theorem dX9_statusOf_6 : decode cX9_statusOf 6 = .ok (.iadd, 1) := by decide +kernel
theorem dX9_statusOf_7 : decode cX9_statusOf 7 = .ok (.ishr, 1) := by decide +kernel
theorem dX9_statusOf_8 : decode cX9_statusOf 8 = .ok (.iconst 3, 1) := by decide +kernel
theorem dX9_statusOf_9 : decode cX9_statusOf 9 = .ok (.iand, 1) := by decide +kernel
theorem dX9_statusOf_10 : decode cX9_statusOf 10 = .ok (.ireturn, 1) := by decide +kernel
theorem dX9_firstState_0 : decode cX9_firstState 0 = .ok (.iload_n 1, 1) := by decide +kernel
theorem dX9_firstState_1 : decode cX9_firstState 1 = .ok (.aload_n 0, 1) := by decide +kernel
theorem dX9_firstState_2 : decode cX9_firstState 2 = .ok (.invokevirtual 469, 3) := by decide +kernel
theorem dX9_firstState_5 : decode cX9_firstState 5 = .ok (.bipush 14, 2) := by decide +kernel
theorem dX9_firstState_7 : decode cX9_firstState 7 = .ok (.ishl, 1) := by decide +kernel
theorem dX9_firstState_8 : decode cX9_firstState 8 = .ok (.ior, 1) := by decide +kernel
theorem dX9_firstState_9 : decode cX9_firstState 9 = .ok (.istore_n 2, 1) := by decide +kernel
theorem dX9_firstState_10 : decode cX9_firstState 10 = .ok (.iconst 0, 1) := by decide +kernel
theorem dX9_firstState_11 : decode cX9_firstState 11 = .ok (.istore_n 3, 1) := by decide +kernel
theorem dX9_firstState_12 : decode cX9_firstState 12 = .ok (.iload_n 3, 1) := by decide +kernel
theorem dX9_firstState_13 : decode cX9_firstState 13 = .ok (.aload_n 0, 1) := by decide +kernel
theorem dX9_firstState_14 : decode cX9_firstState 14 = .ok (.getfield 45, 3) := by decide +kernel
theorem dX9_firstState_17 : decode cX9_firstState 17 = .ok (.iconst 2, 1) := by decide +kernel
theorem dX9_firstState_18 : decode cX9_firstState 18 = .ok (.iaload, 1) := by decide +kernel
theorem dX9_firstState_19 : decode cX9_firstState 19 = .ok (.if_icmp .ge 25, 3) := by decide +kernel
theorem dX9_firstState_22 : decode cX9_firstState 22 = .ok (.iload_n 2, 1) := by decide +kernel
theorem dX9_firstState_23 : decode cX9_firstState 23 = .ok (.aload_n 0, 1) := by decide +kernel
theorem dX9_firstState_24 : decode cX9_firstState 24 = .ok (.getfield 106, 3) := by decide +kernel
theorem dX9_firstState_27 : decode cX9_firstState 27 = .ok (.iload_n 3, 1) := by decide +kernel
theorem dX9_firstState_28 : decode cX9_firstState 28 = .ok (.iaload, 1) := by decide +kernel
theorem dX9_firstState_29 : decode cX9_firstState 29 = .ok (.bipush 6, 2) := by decide +kernel
theorem dX9_firstState_31 : decode cX9_firstState 31 = .ok (.iconst 2, 1) := by decide +kernel
theorem dX9_firstState_32 : decode cX9_firstState 32 = .ok (.iload_n 3, 1) := by decide +kernel
theorem dX9_firstState_33 : decode cX9_firstState 33 = .ok (.imul, 1) := by decide +kernel
theorem dX9_firstState_34 : decode cX9_firstState 34 = .ok (.iadd, 1) := by decide +kernel
theorem dX9_firstState_35 : decode cX9_firstState 35 = .ok (.ishl, 1) := by decide +kernel
theorem dX9_firstState_36 : decode cX9_firstState 36 = .ok (.ior, 1) := by decide +kernel
theorem dX9_firstState_37 : decode cX9_firstState 37 = .ok (.istore_n 2, 1) := by decide +kernel
theorem dX9_firstState_38 : decode cX9_firstState 38 = .ok (.iinc 3 1, 3) := by decide +kernel
theorem dX9_firstState_41 : decode cX9_firstState 41 = .ok (.goto (-29), 3) := by decide +kernel
theorem dX9_firstState_44 : decode cX9_firstState 44 = .ok (.iload_n 2, 1) := by decide +kernel
theorem dX9_firstState_45 : decode cX9_firstState 45 = .ok (.ireturn, 1) := by decide +kernel
theorem dX9_worthOf_0 : decode cX9_worthOf 0 = .ok (.iconst 0, 1) := by decide +kernel
theorem dX9_worthOf_1 : decode cX9_worthOf 1 = .ok (.istore_n 2, 1) := by decide +kernel
theorem dX9_worthOf_2 : decode cX9_worthOf 2 = .ok (.iconst 0, 1) := by decide +kernel
theorem dX9_worthOf_3 : decode cX9_worthOf 3 = .ok (.istore_n 3, 1) := by decide +kernel
theorem dX9_worthOf_4 : decode cX9_worthOf 4 = .ok (.iload_n 3, 1) := by decide +kernel
theorem dX9_worthOf_5 : decode cX9_worthOf 5 = .ok (.aload_n 0, 1) := by decide +kernel
theorem dX9_worthOf_6 : decode cX9_worthOf 6 = .ok (.getfield 45, 3) := by decide +kernel
theorem dX9_worthOf_9 : decode cX9_worthOf 9 = .ok (.iconst 2, 1) := by decide +kernel
theorem dX9_worthOf_10 : decode cX9_worthOf 10 = .ok (.iaload, 1) := by decide +kernel
theorem dX9_worthOf_11 : decode cX9_worthOf 11 = .ok (.if_icmp .ge 40, 3) := by decide +kernel
theorem dX9_worthOf_14 : decode cX9_worthOf 14 = .ok (.iload_n 2, 1) := by decide +kernel
theorem dX9_worthOf_15 : decode cX9_worthOf 15 = .ok (.iload_n 1, 1) := by decide +kernel
theorem dX9_worthOf_16 : decode cX9_worthOf 16 = .ok (.iload_n 3, 1) := by decide +kernel
theorem dX9_worthOf_17 : decode cX9_worthOf 17 = .ok (.invokestatic 508, 3) := by decide +kernel
theorem dX9_worthOf_20 : decode cX9_worthOf 20 = .ok (.iconst 2, 1) := by decide +kernel
theorem dX9_worthOf_21 : decode cX9_worthOf 21 = .ok (.if_icmp .ne 21, 3) := by decide +kernel
theorem dX9_worthOf_24 : decode cX9_worthOf 24 = .ok (.aload_n 0, 1) := by decide +kernel
theorem dX9_worthOf_25 : decode cX9_worthOf 25 = .ok (.getfield 106, 3) := by decide +kernel
theorem dX9_worthOf_28 : decode cX9_worthOf 28 = .ok (.iload_n 3, 1) := by decide +kernel
theorem dX9_worthOf_29 : decode cX9_worthOf 29 = .ok (.iaload, 1) := by decide +kernel
theorem dX9_worthOf_30 : decode cX9_worthOf 30 = .ok (.iconst 2, 1) := by decide +kernel
theorem dX9_worthOf_31 : decode cX9_worthOf 31 = .ok (.if_icmp .eq 11, 3) := by decide +kernel
theorem dX9_worthOf_34 : decode cX9_worthOf 34 = .ok (.aload_n 0, 1) := by decide +kernel
theorem dX9_worthOf_35 : decode cX9_worthOf 35 = .ok (.iload_n 3, 1) := by decide +kernel
theorem dX9_worthOf_36 : decode cX9_worthOf 36 = .ok (.invokevirtual 502, 3) := by decide +kernel
theorem dX9_worthOf_39 : decode cX9_worthOf 39 = .ok (.goto 4, 3) := by decide +kernel
theorem dX9_worthOf_42 : decode cX9_worthOf 42 = .ok (.iconst 0, 1) := by decide +kernel
theorem dX9_worthOf_43 : decode cX9_worthOf 43 = .ok (.iadd, 1) := by decide +kernel
theorem dX9_worthOf_44 : decode cX9_worthOf 44 = .ok (.istore_n 2, 1) := by decide +kernel
theorem dX9_worthOf_45 : decode cX9_worthOf 45 = .ok (.iinc 3 1, 3) := by decide +kernel
theorem dX9_worthOf_48 : decode cX9_worthOf 48 = .ok (.goto (-44), 3) := by decide +kernel
theorem dX9_worthOf_51 : decode cX9_worthOf 51 = .ok (.iload_n 2, 1) := by decide +kernel
theorem dX9_worthOf_52 : decode cX9_worthOf 52 = .ok (.ireturn, 1) := by decide +kernel
theorem dX9_come_0 : decode cX9_come 0 = .ok (.aload_n 0, 1) := by decide +kernel
theorem dX9_come_1 : decode cX9_come 1 = .ok (.getfield 125, 3) := by decide +kernel
theorem dX9_come_4 : decode cX9_come 4 = .ok (.iload_n 1, 1) := by decide +kernel
theorem dX9_come_5 : decode cX9_come 5 = .ok (.iaload, 1) := by decide +kernel
theorem dX9_come_6 : decode cX9_come 6 = .ok (.aload_n 0, 1) := by decide +kernel
theorem dX9_come_7 : decode cX9_come 7 = .ok (.getfield 511, 3) := by decide +kernel
theorem dX9_come_10 : decode cX9_come 10 = .ok (.if_icmp .ne 4, 3) := by decide +kernel
theorem dX9_come_13 : decode cX9_come 13 = .ok (.return_, 1) := by decide +kernel
theorem dX9_come_14 : decode cX9_come 14 = .ok (.aload_n 0, 1) := by decide +kernel
theorem dX9_come_15 : decode cX9_come 15 = .ok (.getfield 125, 3) := by decide +kernel
theorem dX9_come_18 : decode cX9_come 18 = .ok (.iload_n 1, 1) := by decide +kernel
theorem dX9_come_19 : decode cX9_come 19 = .ok (.aload_n 0, 1) := by decide +kernel
theorem dX9_come_20 : decode cX9_come 20 = .ok (.getfield 511, 3) := by decide +kernel
theorem dX9_come_23 : decode cX9_come 23 = .ok (.iastore, 1) := by decide +kernel
theorem dX9_come_24 : decode cX9_come 24 = .ok (.aload_n 0, 1) := by decide +kernel
theorem dX9_come_25 : decode cX9_come 25 = .ok (.getfield 128, 3) := by decide +kernel
theorem dX9_come_28 : decode cX9_come 28 = .ok (.aload_n 0, 1) := by decide +kernel
theorem dX9_come_29 : decode cX9_come 29 = .ok (.getfield 514, 3) := by decide +kernel
theorem dX9_come_32 : decode cX9_come 32 = .ok (.iload_n 1, 1) := by decide +kernel
theorem dX9_come_33 : decode cX9_come 33 = .ok (.iastore, 1) := by decide +kernel
theorem dX9_come_34 : decode cX9_come 34 = .ok (.aload_n 0, 1) := by decide +kernel
theorem dX9_come_35 : decode cX9_come 35 = .ok (.dup, 1) := by decide +kernel
theorem dX9_come_36 : decode cX9_come 36 = .ok (.getfield 514, 3) := by decide +kernel
theorem dX9_come_39 : decode cX9_come 39 = .ok (.iconst 1, 1) := by decide +kernel
theorem dX9_come_40 : decode cX9_come 40 = .ok (.iadd, 1) := by decide +kernel
theorem dX9_come_41 : decode cX9_come 41 = .ok (.putfield 514, 3) := by decide +kernel
theorem dX9_come_44 : decode cX9_come 44 = .ok (.aload_n 0, 1) := by decide +kernel
theorem dX9_come_45 : decode cX9_come 45 = .ok (.iload_n 1, 1) := by decide +kernel
theorem dX9_come_46 : decode cX9_come 46 = .ok (.invokevirtual 517, 3) := by decide +kernel
theorem dX9_come_49 : decode cX9_come 49 = .ok (.istore_n 2, 1) := by decide +kernel
theorem dX9_come_50 : decode cX9_come 50 = .ok (.iload_n 2, 1) := by decide +kernel
theorem dX9_come_51 : decode cX9_come 51 = .ok (.aload_n 0, 1) := by decide +kernel
theorem dX9_come_52 : decode cX9_come 52 = .ok (.getfield 520, 3) := by decide +kernel
theorem dX9_come_55 : decode cX9_come 55 = .ok (.if_icmp .gt 4, 3) := by decide +kernel
theorem dX9_come_58 : decode cX9_come 58 = .ok (.return_, 1) := by decide +kernel
theorem dX9_come_59 : decode cX9_come 59 = .ok (.aload_n 0, 1) := by decide +kernel
theorem dX9_come_60 : decode cX9_come 60 = .ok (.iload_n 2, 1) := by decide +kernel
theorem dX9_come_61 : decode cX9_come 61 = .ok (.putfield 520, 3) := by decide +kernel
theorem dX9_come_64 : decode cX9_come 64 = .ok (.aload_n 0, 1) := by decide +kernel
theorem dX9_come_65 : decode cX9_come 65 = .ok (.aload_n 0, 1) := by decide +kernel
theorem dX9_come_66 : decode cX9_come 66 = .ok (.getfield 523, 3) := by decide +kernel
theorem dX9_come_69 : decode cX9_come 69 = .ok (.iconst 1, 1) := by decide +kernel
theorem dX9_come_70 : decode cX9_come 70 = .ok (.iadd, 1) := by decide +kernel
theorem dX9_come_71 : decode cX9_come 71 = .ok (.putfield 526, 3) := by decide +kernel
theorem dX9_come_74 : decode cX9_come 74 = .ok (.return_, 1) := by decide +kernel
theorem dX9_isAlive_0 : decode cX9_isAlive 0 = .ok (.iload_n 1, 1) := by decide +kernel
theorem dX9_isAlive_1 : decode cX9_isAlive 1 = .ok (.iload_n 2, 1) := by decide +kernel
theorem dX9_isAlive_2 : decode cX9_isAlive 2 = .ok (.invokestatic 508, 3) := by decide +kernel
theorem dX9_isAlive_5 : decode cX9_isAlive 5 = .ok (.iconst 2, 1) := by decide +kernel
theorem dX9_isAlive_6 : decode cX9_isAlive 6 = .ok (.if_icmp .ge 25, 3) := by decide +kernel
theorem dX9_isAlive_9 : decode cX9_isAlive 9 = .ok (.aload_n 0, 1) := by decide +kernel
theorem dX9_isAlive_10 : decode cX9_isAlive 10 = .ok (.getfield 69, 3) := by decide +kernel
theorem dX9_isAlive_13 : decode cX9_isAlive 13 = .ok (.iload_n 2, 1) := by decide +kernel
theorem dX9_isAlive_14 : decode cX9_isAlive 14 = .ok (.iaload, 1) := by decide +kernel
theorem dX9_isAlive_15 : decode cX9_isAlive 15 = .ok (.aload_n 0, 1) := by decide +kernel
theorem dX9_isAlive_16 : decode cX9_isAlive 16 = .ok (.getfield 424, 3) := by decide +kernel
theorem dX9_isAlive_19 : decode cX9_isAlive 19 = .ok (.aload_n 0, 1) := by decide +kernel
theorem dX9_isAlive_20 : decode cX9_isAlive 20 = .ok (.getfield 523, 3) := by decide +kernel
theorem dX9_isAlive_23 : decode cX9_isAlive 23 = .ok (.iadd, 1) := by decide +kernel
theorem dX9_isAlive_24 : decode cX9_isAlive 24 = .ok (.if_icmp .le 7, 3) := by decide +kernel
theorem dX9_isAlive_27 : decode cX9_isAlive 27 = .ok (.iconst 1, 1) := by decide +kernel
theorem dX9_isAlive_28 : decode cX9_isAlive 28 = .ok (.goto 4, 3) := by decide +kernel
theorem dX9_isAlive_31 : decode cX9_isAlive 31 = .ok (.iconst 0, 1) := by decide +kernel
theorem dX9_isAlive_32 : decode cX9_isAlive 32 = .ok (.ireturn, 1) := by decide +kernel
theorem dX9_planSeat_0 : decode cX9_planSeat 0 = .ok (.iload_n 1, 1) := by decide +kernel
theorem dX9_planSeat_1 : decode cX9_planSeat 1 = .ok (.bipush 63, 2) := by decide +kernel
theorem dX9_planSeat_3 : decode cX9_planSeat 3 = .ok (.iand, 1) := by decide +kernel
theorem dX9_planSeat_4 : decode cX9_planSeat 4 = .ok (.istore_n 2, 1) := by decide +kernel
theorem dX9_planSeat_5 : decode cX9_planSeat 5 = .ok (.iconst 0, 1) := by decide +kernel
theorem dX9_planSeat_6 : decode cX9_planSeat 6 = .ok (.istore_n 3, 1) := by decide +kernel
theorem dX9_planSeat_7 : decode cX9_planSeat 7 = .ok (.iload_n 3, 1) := by decide +kernel
theorem dX9_planSeat_8 : decode cX9_planSeat 8 = .ok (.aload_n 0, 1) := by decide +kernel
theorem dX9_planSeat_9 : decode cX9_planSeat 9 = .ok (.invokevirtual 417, 3) := by decide +kernel
theorem dX9_planSeat_12 : decode cX9_planSeat 12 = .ok (.if_icmp .ge 62, 3) := by decide +kernel
theorem dX9_planSeat_15 : decode cX9_planSeat 15 = .ok (.iload_n 2, 1) := by decide +kernel
theorem dX9_planSeat_16 : decode cX9_planSeat 16 = .ok (.iload_n 3, 1) := by decide +kernel
theorem dX9_planSeat_17 : decode cX9_planSeat 17 = .ok (.ishr, 1) := by decide +kernel
theorem dX9_planSeat_18 : decode cX9_planSeat 18 = .ok (.iconst 1, 1) := by decide +kernel
theorem dX9_planSeat_19 : decode cX9_planSeat 19 = .ok (.iand, 1) := by decide +kernel
theorem dX9_planSeat_20 : decode cX9_planSeat 20 = .ok (.iconst 1, 1) := by decide +kernel
theorem dX9_planSeat_21 : decode cX9_planSeat 21 = .ok (.if_icmp .ne 15, 3) := by decide +kernel
theorem dX9_planSeat_24 : decode cX9_planSeat 24 = .ok (.aload_n 0, 1) := by decide +kernel
theorem dX9_planSeat_25 : decode cX9_planSeat 25 = .ok (.iload_n 1, 1) := by decide +kernel
theorem dX9_planSeat_26 : decode cX9_planSeat 26 = .ok (.iconst 1, 1) := by decide +kernel
theorem dX9_planSeat_27 : decode cX9_planSeat 27 = .ok (.iload_n 3, 1) := by decide +kernel
theorem dX9_planSeat_28 : decode cX9_planSeat 28 = .ok (.ishl, 1) := by decide +kernel
theorem dX9_planSeat_29 : decode cX9_planSeat 29 = .ok (.ixor, 1) := by decide +kernel
theorem dX9_planSeat_30 : decode cX9_planSeat 30 = .ok (.invokevirtual 529, 3) := by decide +kernel
theorem dX9_planSeat_33 : decode cX9_planSeat 33 = .ok (.goto 35, 3) := by decide +kernel
theorem dX9_planSeat_36 : decode cX9_planSeat 36 = .ok (.aload_n 0, 1) := by decide +kernel
theorem dX9_planSeat_37 : decode cX9_planSeat 37 = .ok (.getfield 532, 3) := by decide +kernel
theorem dX9_planSeat_40 : decode cX9_planSeat 40 = .ok (.iload_n 3, 1) := by decide +kernel
theorem dX9_planSeat_41 : decode cX9_planSeat 41 = .ok (.ishr, 1) := by decide +kernel
theorem dX9_planSeat_42 : decode cX9_planSeat 42 = .ok (.iconst 1, 1) := by decide +kernel
theorem dX9_planSeat_43 : decode cX9_planSeat 43 = .ok (.iand, 1) := by decide +kernel
theorem dX9_planSeat_44 : decode cX9_planSeat 44 = .ok (.iconst 1, 1) := by decide +kernel
theorem dX9_planSeat_45 : decode cX9_planSeat 45 = .ok (.if_icmp .ne 23, 3) := by decide +kernel
theorem dX9_planSeat_48 : decode cX9_planSeat 48 = .ok (.iload_n 2, 1) := by decide +kernel
theorem dX9_planSeat_49 : decode cX9_planSeat 49 = .ok (.invokestatic 442, 3) := by decide +kernel
theorem dX9_planSeat_52 : decode cX9_planSeat 52 = .ok (.aload_n 0, 1) := by decide +kernel
theorem dX9_planSeat_53 : decode cX9_planSeat 53 = .ok (.getfield 535, 3) := by decide +kernel
theorem dX9_planSeat_56 : decode cX9_planSeat 56 = .ok (.if_icmp .ge 12, 3) := by decide +kernel
theorem dX9_planSeat_59 : decode cX9_planSeat 59 = .ok (.aload_n 0, 1) := by decide +kernel
theorem dX9_planSeat_60 : decode cX9_planSeat 60 = .ok (.iload_n 1, 1) := by decide +kernel
theorem dX9_planSeat_61 : decode cX9_planSeat 61 = .ok (.iconst 1, 1) := by decide +kernel
theorem dX9_planSeat_62 : decode cX9_planSeat 62 = .ok (.iload_n 3, 1) := by decide +kernel
theorem dX9_planSeat_63 : decode cX9_planSeat 63 = .ok (.ishl, 1) := by decide +kernel
theorem dX9_planSeat_64 : decode cX9_planSeat 64 = .ok (.ior, 1) := by decide +kernel
theorem dX9_planSeat_65 : decode cX9_planSeat 65 = .ok (.invokevirtual 529, 3) := by decide +kernel
theorem dX9_planSeat_68 : decode cX9_planSeat 68 = .ok (.iinc 3 1, 3) := by decide +kernel
theorem dX9_planSeat_71 : decode cX9_planSeat 71 = .ok (.goto (-64), 3) := by decide +kernel
theorem dX9_planSeat_74 : decode cX9_planSeat 74 = .ok (.return_, 1) := by decide +kernel
theorem dX9_dueBy_0 : decode cX9_dueBy 0 = .ok (.iconst 0, 1) := by decide +kernel
theorem dX9_dueBy_1 : decode cX9_dueBy 1 = .ok (.istore_n 3, 1) := by decide +kernel
theorem dX9_dueBy_2 : decode cX9_dueBy 2 = .ok (.iconst 0, 1) := by decide +kernel
theorem dX9_dueBy_3 : decode cX9_dueBy 3 = .ok (.istore 4, 2) := by decide +kernel
theorem dX9_dueBy_5 : decode cX9_dueBy 5 = .ok (.iload 4, 2) := by decide +kernel
theorem dX9_dueBy_7 : decode cX9_dueBy 7 = .ok (.aload_n 0, 1) := by decide +kernel
theorem dX9_dueBy_8 : decode cX9_dueBy 8 = .ok (.getfield 398, 3) := by decide +kernel
theorem dX9_dueBy_11 : decode cX9_dueBy 11 = .ok (.if_icmp .ge 50, 3) := by decide +kernel
theorem dX9_dueBy_14 : decode cX9_dueBy 14 = .ok (.iload_n 3, 1) := by decide +kernel
theorem dX9_dueBy_15 : decode cX9_dueBy 15 = .ok (.aload_n 0, 1) := by decide +kernel
theorem dX9_dueBy_16 : decode cX9_dueBy 16 = .ok (.getfield 75, 3) := by decide +kernel
theorem dX9_dueBy_19 : decode cX9_dueBy 19 = .ok (.iconst 4, 1) := by decide +kernel
theorem dX9_dueBy_20 : decode cX9_dueBy 20 = .ok (.iload 4, 2) := by decide +kernel
theorem dX9_dueBy_22 : decode cX9_dueBy 22 = .ok (.imul, 1) := by decide +kernel
theorem dX9_dueBy_23 : decode cX9_dueBy 23 = .ok (.iconst 2, 1) := by decide +kernel
theorem dX9_dueBy_24 : decode cX9_dueBy 24 = .ok (.iadd, 1) := by decide +kernel
theorem dX9_dueBy_25 : decode cX9_dueBy 25 = .ok (.iaload, 1) := by decide +kernel
theorem dX9_dueBy_26 : decode cX9_dueBy 26 = .ok (.iload_n 1, 1) := by decide +kernel
theorem dX9_dueBy_27 : decode cX9_dueBy 27 = .ok (.if_icmp .ne 25, 3) := by decide +kernel
theorem dX9_dueBy_30 : decode cX9_dueBy 30 = .ok (.aload_n 0, 1) := by decide +kernel
theorem dX9_dueBy_31 : decode cX9_dueBy 31 = .ok (.getfield 75, 3) := by decide +kernel
theorem dX9_dueBy_34 : decode cX9_dueBy 34 = .ok (.iconst 4, 1) := by decide +kernel
theorem dX9_dueBy_35 : decode cX9_dueBy 35 = .ok (.iload 4, 2) := by decide +kernel
theorem dX9_dueBy_37 : decode cX9_dueBy 37 = .ok (.imul, 1) := by decide +kernel
theorem dX9_dueBy_38 : decode cX9_dueBy 38 = .ok (.iconst 3, 1) := by decide +kernel
theorem dX9_dueBy_39 : decode cX9_dueBy 39 = .ok (.iadd, 1) := by decide +kernel
theorem dX9_dueBy_40 : decode cX9_dueBy 40 = .ok (.iaload, 1) := by decide +kernel
theorem dX9_dueBy_41 : decode cX9_dueBy 41 = .ok (.iload_n 2, 1) := by decide +kernel
theorem dX9_dueBy_42 : decode cX9_dueBy 42 = .ok (.if_icmp .ne 10, 3) := by decide +kernel
theorem dX9_dueBy_45 : decode cX9_dueBy 45 = .ok (.iconst 1, 1) := by decide +kernel
theorem dX9_dueBy_46 : decode cX9_dueBy 46 = .ok (.iload 4, 2) := by decide +kernel
theorem dX9_dueBy_48 : decode cX9_dueBy 48 = .ok (.ishl, 1) := by decide +kernel
theorem dX9_dueBy_49 : decode cX9_dueBy 49 = .ok (.goto 4, 3) := by decide +kernel
theorem dX9_dueBy_52 : decode cX9_dueBy 52 = .ok (.iconst 0, 1) := by decide +kernel
theorem dX9_dueBy_53 : decode cX9_dueBy 53 = .ok (.ior, 1) := by decide +kernel
theorem dX9_dueBy_54 : decode cX9_dueBy 54 = .ok (.istore_n 3, 1) := by decide +kernel
theorem dX9_dueBy_55 : decode cX9_dueBy 55 = .ok (.iinc 4 1, 3) := by decide +kernel
theorem dX9_dueBy_58 : decode cX9_dueBy 58 = .ok (.goto (-53), 3) := by decide +kernel
theorem dX9_dueBy_61 : decode cX9_dueBy 61 = .ok (.iload_n 3, 1) := by decide +kernel
theorem dX9_dueBy_62 : decode cX9_dueBy 62 = .ok (.ireturn, 1) := by decide +kernel
theorem dX9_planMatter_0 : decode cX9_planMatter 0 = .ok (.iload_n 1, 1) := by decide +kernel
theorem dX9_planMatter_1 : decode cX9_planMatter 1 = .ok (.iconst 3, 1) := by decide +kernel
theorem dX9_planMatter_2 : decode cX9_planMatter 2 = .ok (.bipush 6, 2) := by decide +kernel
theorem dX9_planMatter_4 : decode cX9_planMatter 4 = .ok (.iconst 2, 1) := by decide +kernel
theorem dX9_planMatter_5 : decode cX9_planMatter 5 = .ok (.iload_n 2, 1) := by decide +kernel
theorem dX9_planMatter_6 : decode cX9_planMatter 6 = .ok (.imul, 1) := by decide +kernel
theorem dX9_planMatter_7 : decode cX9_planMatter 7 = .ok (.iadd, 1) := by decide +kernel
theorem dX9_planMatter_8 : decode cX9_planMatter 8 = .ok (.ishl, 1) := by decide +kernel
theorem dX9_planMatter_9 : decode cX9_planMatter 9 = .ok (.iconst (-1), 1) := by decide +kernel
theorem dX9_planMatter_10 : decode cX9_planMatter 10 = .ok (.ixor, 1) := by decide +kernel
theorem dX9_planMatter_11 : decode cX9_planMatter 11 = .ok (.iand, 1) := by decide +kernel
theorem dX9_planMatter_12 : decode cX9_planMatter 12 = .ok (.istore_n 3, 1) := by decide +kernel
theorem dX9_planMatter_13 : decode cX9_planMatter 13 = .ok (.iload_n 1, 1) := by decide +kernel
theorem dX9_planMatter_14 : decode cX9_planMatter 14 = .ok (.bipush 63, 2) := by decide +kernel
theorem dX9_planMatter_16 : decode cX9_planMatter 16 = .ok (.iand, 1) := by decide +kernel
theorem dX9_planMatter_17 : decode cX9_planMatter 17 = .ok (.istore 4, 2) := by decide +kernel
theorem dX9_planMatter_19 : decode cX9_planMatter 19 = .ok (.iconst 0, 1) := by decide +kernel
theorem dX9_planMatter_20 : decode cX9_planMatter 20 = .ok (.istore 5, 2) := by decide +kernel
theorem dX9_planMatter_22 : decode cX9_planMatter 22 = .ok (.iload 5, 2) := by decide +kernel
theorem dX9_planMatter_24 : decode cX9_planMatter 24 = .ok (.aload_n 0, 1) := by decide +kernel
theorem dX9_planMatter_25 : decode cX9_planMatter 25 = .ok (.invokevirtual 417, 3) := by decide +kernel
theorem dX9_planMatter_28 : decode cX9_planMatter 28 = .ok (.if_icmp .ge 52, 3) := by decide +kernel
theorem dX9_planMatter_31 : decode cX9_planMatter 31 = .ok (.aload_n 0, 1) := by decide +kernel
theorem dX9_planMatter_32 : decode cX9_planMatter 32 = .ok (.getfield 532, 3) := by decide +kernel
theorem dX9_planMatter_35 : decode cX9_planMatter 35 = .ok (.iload 4, 2) := by decide +kernel
theorem dX9_planMatter_37 : decode cX9_planMatter 37 = .ok (.iconst (-1), 1) := by decide +kernel
theorem dX9_planMatter_38 : decode cX9_planMatter 38 = .ok (.ixor, 1) := by decide +kernel
theorem dX9_planMatter_39 : decode cX9_planMatter 39 = .ok (.iand, 1) := by decide +kernel
theorem dX9_planMatter_40 : decode cX9_planMatter 40 = .ok (.iload 5, 2) := by decide +kernel
theorem dX9_planMatter_42 : decode cX9_planMatter 42 = .ok (.ishr, 1) := by decide +kernel
theorem dX9_planMatter_43 : decode cX9_planMatter 43 = .ok (.iconst 1, 1) := by decide +kernel
theorem dX9_planMatter_44 : decode cX9_planMatter 44 = .ok (.iand, 1) := by decide +kernel
theorem dX9_planMatter_45 : decode cX9_planMatter 45 = .ok (.iconst 1, 1) := by decide +kernel
theorem dX9_planMatter_46 : decode cX9_planMatter 46 = .ok (.if_icmp .ne 28, 3) := by decide +kernel
theorem dX9_planMatter_49 : decode cX9_planMatter 49 = .ok (.aload_n 0, 1) := by decide +kernel
theorem dX9_planMatter_50 : decode cX9_planMatter 50 = .ok (.iload_n 3, 1) := by decide +kernel
theorem dX9_planMatter_51 : decode cX9_planMatter 51 = .ok (.iconst 1, 1) := by decide +kernel
theorem dX9_planMatter_52 : decode cX9_planMatter 52 = .ok (.bipush 6, 2) := by decide +kernel
theorem dX9_planMatter_54 : decode cX9_planMatter 54 = .ok (.iconst 2, 1) := by decide +kernel
theorem dX9_planMatter_55 : decode cX9_planMatter 55 = .ok (.iload_n 2, 1) := by decide +kernel
theorem dX9_planMatter_56 : decode cX9_planMatter 56 = .ok (.imul, 1) := by decide +kernel
theorem dX9_planMatter_57 : decode cX9_planMatter 57 = .ok (.iadd, 1) := by decide +kernel
theorem dX9_planMatter_58 : decode cX9_planMatter 58 = .ok (.ishl, 1) := by decide +kernel
theorem dX9_planMatter_59 : decode cX9_planMatter 59 = .ok (.ior, 1) := by decide +kernel
theorem dX9_planMatter_60 : decode cX9_planMatter 60 = .ok (.aload_n 0, 1) := by decide +kernel
theorem dX9_planMatter_61 : decode cX9_planMatter 61 = .ok (.iload 5, 2) := by decide +kernel
theorem dX9_planMatter_63 : decode cX9_planMatter 63 = .ok (.iload_n 2, 1) := by decide +kernel
theorem dX9_planMatter_64 : decode cX9_planMatter 64 = .ok (.invokevirtual 538, 3) := by decide +kernel
theorem dX9_planMatter_67 : decode cX9_planMatter 67 = .ok (.bipush 14, 2) := by decide +kernel
theorem dX9_planMatter_69 : decode cX9_planMatter 69 = .ok (.ishl, 1) := by decide +kernel
theorem dX9_planMatter_70 : decode cX9_planMatter 70 = .ok (.ior, 1) := by decide +kernel
theorem dX9_planMatter_71 : decode cX9_planMatter 71 = .ok (.invokevirtual 529, 3) := by decide +kernel
theorem dX9_planMatter_74 : decode cX9_planMatter 74 = .ok (.iinc 5 1, 3) := by decide +kernel
theorem dX9_planMatter_77 : decode cX9_planMatter 77 = .ok (.goto (-55), 3) := by decide +kernel
theorem dX9_planMatter_80 : decode cX9_planMatter 80 = .ok (.iload_n 1, 1) := by decide +kernel
theorem dX9_planMatter_81 : decode cX9_planMatter 81 = .ok (.iload_n 2, 1) := by decide +kernel
theorem dX9_planMatter_82 : decode cX9_planMatter 82 = .ok (.invokestatic 508, 3) := by decide +kernel
theorem dX9_planMatter_85 : decode cX9_planMatter 85 = .ok (.iconst 1, 1) := by decide +kernel
theorem dX9_planMatter_86 : decode cX9_planMatter 86 = .ok (.if_icmp .eq 4, 3) := by decide +kernel
theorem dX9_planMatter_89 : decode cX9_planMatter 89 = .ok (.return_, 1) := by decide +kernel
theorem dX9_planMatter_90 : decode cX9_planMatter 90 = .ok (.iload_n 1, 1) := by decide +kernel
theorem dX9_planMatter_91 : decode cX9_planMatter 91 = .ok (.bipush 14, 2) := by decide +kernel
theorem dX9_planMatter_93 : decode cX9_planMatter 93 = .ok (.ishr, 1) := by decide +kernel
theorem dX9_planMatter_94 : decode cX9_planMatter 94 = .ok (.istore 5, 2) := by decide +kernel
theorem dX9_planMatter_96 : decode cX9_planMatter 96 = .ok (.aload_n 0, 1) := by decide +kernel
theorem dX9_planMatter_97 : decode cX9_planMatter 97 = .ok (.aload_n 0, 1) := by decide +kernel
theorem dX9_planMatter_98 : decode cX9_planMatter 98 = .ok (.iload 4, 2) := by decide +kernel
theorem dX9_planMatter_100 : decode cX9_planMatter 100 = .ok (.iload_n 2, 1) := by decide +kernel
theorem dX9_planMatter_101 : decode cX9_planMatter 101 = .ok (.iload 5, 2) := by decide +kernel
theorem dX9_planMatter_103 : decode cX9_planMatter 103 = .ok (.invokevirtual 484, 3) := by decide +kernel
theorem dX9_planMatter_106 : decode cX9_planMatter 106 = .ok (.invokestatic 442, 3) := by decide +kernel
theorem dX9_planMatter_109 : decode cX9_planMatter 109 = .ok (.aload_n 0, 1) := by decide +kernel
theorem dX9_planMatter_110 : decode cX9_planMatter 110 = .ok (.iload 4, 2) := by decide +kernel
theorem dX9_planMatter_112 : decode cX9_planMatter 112 = .ok (.iload_n 2, 1) := by decide +kernel
theorem dX9_planMatter_113 : decode cX9_planMatter 113 = .ok (.iload 5, 2) := by decide +kernel
theorem dX9_planMatter_115 : decode cX9_planMatter 115 = .ok (.invokevirtual 487, 3) := by decide +kernel
theorem dX9_planMatter_118 : decode cX9_planMatter 118 = .ok (.invokestatic 442, 3) := by decide +kernel
theorem dX9_planMatter_121 : decode cX9_planMatter 121 = .ok (.iload 4, 2) := by decide +kernel
theorem dX9_planMatter_123 : decode cX9_planMatter 123 = .ok (.invokestatic 442, 3) := by decide +kernel
theorem dX9_planMatter_126 : decode cX9_planMatter 126 = .ok (.aload_n 0, 1) := by decide +kernel
theorem dX9_planMatter_127 : decode cX9_planMatter 127 = .ok (.getfield 532, 3) := by decide +kernel
theorem dX9_planMatter_130 : decode cX9_planMatter 130 = .ok (.invokestatic 442, 3) := by decide +kernel
theorem dX9_planMatter_133 : decode cX9_planMatter 133 = .ok (.invokevirtual 493, 3) := by decide +kernel
theorem dX9_planMatter_136 : decode cX9_planMatter 136 = .ok (.istore 6, 2) := by decide +kernel
theorem dX9_planMatter_138 : decode cX9_planMatter 138 = .ok (.aload_n 0, 1) := by decide +kernel
theorem dX9_planMatter_139 : decode cX9_planMatter 139 = .ok (.iload_n 3, 1) := by decide +kernel
theorem dX9_planMatter_140 : decode cX9_planMatter 140 = .ok (.iload 6, 2) := by decide +kernel
theorem dX9_planMatter_142 : decode cX9_planMatter 142 = .ok (.ifCond .eq 7, 3) := by decide +kernel
theorem dX9_planMatter_145 : decode cX9_planMatter 145 = .ok (.iconst 2, 1) := by decide +kernel
theorem dX9_planMatter_146 : decode cX9_planMatter 146 = .ok (.goto 4, 3) := by decide +kernel
theorem dX9_planMatter_149 : decode cX9_planMatter 149 = .ok (.iconst 3, 1) := by decide +kernel
theorem dX9_planMatter_150 : decode cX9_planMatter 150 = .ok (.bipush 6, 2) := by decide +kernel
theorem dX9_planMatter_152 : decode cX9_planMatter 152 = .ok (.iconst 2, 1) := by decide +kernel
theorem dX9_planMatter_153 : decode cX9_planMatter 153 = .ok (.iload_n 2, 1) := by decide +kernel
theorem dX9_planMatter_154 : decode cX9_planMatter 154 = .ok (.imul, 1) := by decide +kernel
theorem dX9_planMatter_155 : decode cX9_planMatter 155 = .ok (.iadd, 1) := by decide +kernel
theorem dX9_planMatter_156 : decode cX9_planMatter 156 = .ok (.ishl, 1) := by decide +kernel
