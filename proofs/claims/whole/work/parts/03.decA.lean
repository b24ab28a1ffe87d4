theorem dX0_init_0 : decode cX0_init 0 = .ok (.aload_n 0, 1) := by decide +kernel
theorem dX0_init_1 : decode cX0_init 1 = .ok (.invokespecial 3, 3) := by decide +kernel
theorem dX0_init_4 : decode cX0_init 4 = .ok (.aload_n 0, 1) := by decide +kernel
theorem dX0_init_5 : decode cX0_init 5 = .ok (.bipush 40, 2) := by decide +kernel
theorem dX0_init_7 : decode cX0_init 7 = .ok (.newarray .int, 2) := by decide +kernel
theorem dX0_init_9 : decode cX0_init 9 = .ok (.putfield 11, 3) := by decide +kernel
theorem dX0_init_12 : decode cX0_init 12 = .ok (.aload_n 0, 1) := by decide +kernel
theorem dX0_init_13 : decode cX0_init 13 = .ok (.bipush 40, 2) := by decide +kernel
theorem dX0_init_15 : decode cX0_init 15 = .ok (.newarray .int, 2) := by decide +kernel
theorem dX0_init_17 : decode cX0_init 17 = .ok (.putfield 15, 3) := by decide +kernel
theorem dX0_init_20 : decode cX0_init 20 = .ok (.aload_n 0, 1) := by decide +kernel
theorem dX0_init_21 : decode cX0_init 21 = .ok (.bipush 40, 2) := by decide +kernel
theorem dX0_init_23 : decode cX0_init 23 = .ok (.newarray .int, 2) := by decide +kernel
theorem dX0_init_25 : decode cX0_init 25 = .ok (.putfield 18, 3) := by decide +kernel
theorem dX0_init_28 : decode cX0_init 28 = .ok (.aload_n 0, 1) := by decide +kernel
theorem dX0_init_29 : decode cX0_init 29 = .ok (.bipush 40, 2) := by decide +kernel
theorem dX0_init_31 : decode cX0_init 31 = .ok (.newarray .int, 2) := by decide +kernel
theorem dX0_init_33 : decode cX0_init 33 = .ok (.putfield 21, 3) := by decide +kernel
theorem dX0_init_36 : decode cX0_init 36 = .ok (.aload_n 0, 1) := by decide +kernel
theorem dX0_init_37 : decode cX0_init 37 = .ok (.bipush 40, 2) := by decide +kernel
theorem dX0_init_39 : decode cX0_init 39 = .ok (.newarray .int, 2) := by decide +kernel
theorem dX0_init_41 : decode cX0_init 41 = .ok (.putfield 24, 3) := by decide +kernel
theorem dX0_init_44 : decode cX0_init 44 = .ok (.return_, 1) := by decide +kernel
theorem dX0_clear_0 : decode cX0_clear 0 = .ok (.aload_n 0, 1) := by decide +kernel
theorem dX0_clear_1 : decode cX0_clear 1 = .ok (.iconst 0, 1) := by decide +kernel
theorem dX0_clear_2 : decode cX0_clear 2 = .ok (.putfield 27, 3) := by decide +kernel
theorem dX0_clear_5 : decode cX0_clear 5 = .ok (.return_, 1) := by decide +kernel
theorem dX0_tell_0 : decode cX0_tell 0 = .ok (.iload_n 1, 1) := by decide +kernel
theorem dX0_tell_1 : decode cX0_tell 1 = .ok (.ifCond .lt 28, 3) := by decide +kernel
theorem dX0_tell_4 : decode cX0_tell 4 = .ok (.iload_n 1, 1) := by decide +kernel
theorem dX0_tell_5 : decode cX0_tell 5 = .ok (.bipush 100, 2) := by decide +kernel
theorem dX0_tell_7 : decode cX0_tell 7 = .ok (.if_icmp .ge 22, 3) := by decide +kernel
theorem dX0_tell_10 : decode cX0_tell 10 = .ok (.iload_n 3, 1) := by decide +kernel
theorem dX0_tell_11 : decode cX0_tell 11 = .ok (.iconst (-1), 1) := by decide +kernel
theorem dX0_tell_12 : decode cX0_tell 12 = .ok (.if_icmp .lt 17, 3) := by decide +kernel
theorem dX0_tell_15 : decode cX0_tell 15 = .ok (.iload_n 3, 1) := by decide +kernel
theorem dX0_tell_16 : decode cX0_tell 16 = .ok (.iconst 1, 1) := by decide +kernel
theorem dX0_tell_17 : decode cX0_tell 17 = .ok (.if_icmp .gt 12, 3) := by decide +kernel
theorem dX0_tell_20 : decode cX0_tell 20 = .ok (.aload_n 0, 1) := by decide +kernel
theorem dX0_tell_21 : decode cX0_tell 21 = .ok (.getfield 27, 3) := by decide +kernel
theorem dX0_tell_24 : decode cX0_tell 24 = .ok (.bipush 40, 2) := by decide +kernel
theorem dX0_tell_26 : decode cX0_tell 26 = .ok (.if_icmp .lt 5, 3) := by decide +kernel
theorem dX0_tell_29 : decode cX0_tell 29 = .ok (.iconst (-1), 1) := by decide +kernel
theorem dX0_tell_30 : decode cX0_tell 30 = .ok (.ireturn, 1) := by decide +kernel
theorem dX0_tell_31 : decode cX0_tell 31 = .ok (.aload_n 0, 1) := by decide +kernel
theorem dX0_tell_32 : decode cX0_tell 32 = .ok (.getfield 11, 3) := by decide +kernel
theorem dX0_tell_35 : decode cX0_tell 35 = .ok (.aload_n 0, 1) := by decide +kernel
theorem dX0_tell_36 : decode cX0_tell 36 = .ok (.getfield 27, 3) := by decide +kernel
theorem dX0_tell_39 : decode cX0_tell 39 = .ok (.iload_n 1, 1) := by decide +kernel
theorem dX0_tell_40 : decode cX0_tell 40 = .ok (.iastore, 1) := by decide +kernel
theorem dX0_tell_41 : decode cX0_tell 41 = .ok (.aload_n 0, 1) := by decide +kernel
theorem dX0_tell_42 : decode cX0_tell 42 = .ok (.getfield 15, 3) := by decide +kernel
theorem dX0_tell_45 : decode cX0_tell 45 = .ok (.aload_n 0, 1) := by decide +kernel
theorem dX0_tell_46 : decode cX0_tell 46 = .ok (.getfield 27, 3) := by decide +kernel
theorem dX0_tell_49 : decode cX0_tell 49 = .ok (.iload_n 2, 1) := by decide +kernel
theorem dX0_tell_50 : decode cX0_tell 50 = .ok (.iastore, 1) := by decide +kernel
theorem dX0_tell_51 : decode cX0_tell 51 = .ok (.aload_n 0, 1) := by decide +kernel
theorem dX0_tell_52 : decode cX0_tell 52 = .ok (.getfield 18, 3) := by decide +kernel
theorem dX0_tell_55 : decode cX0_tell 55 = .ok (.aload_n 0, 1) := by decide +kernel
theorem dX0_tell_56 : decode cX0_tell 56 = .ok (.getfield 27, 3) := by decide +kernel
theorem dX0_tell_59 : decode cX0_tell 59 = .ok (.iload_n 3, 1) := by decide +kernel
theorem dX0_tell_60 : decode cX0_tell 60 = .ok (.iastore, 1) := by decide +kernel
theorem dX0_tell_61 : decode cX0_tell 61 = .ok (.aload_n 0, 1) := by decide +kernel
theorem dX0_tell_62 : decode cX0_tell 62 = .ok (.getfield 21, 3) := by decide +kernel
theorem dX0_tell_65 : decode cX0_tell 65 = .ok (.aload_n 0, 1) := by decide +kernel
theorem dX0_tell_66 : decode cX0_tell 66 = .ok (.getfield 27, 3) := by decide +kernel
theorem dX0_tell_69 : decode cX0_tell 69 = .ok (.aload_n 0, 1) := by decide +kernel
theorem dX0_tell_70 : decode cX0_tell 70 = .ok (.getfield 31, 3) := by decide +kernel
theorem dX0_tell_73 : decode cX0_tell 73 = .ok (.iastore, 1) := by decide +kernel
theorem dX0_tell_74 : decode cX0_tell 74 = .ok (.aload_n 0, 1) := by decide +kernel
theorem dX0_tell_75 : decode cX0_tell 75 = .ok (.getfield 24, 3) := by decide +kernel
theorem dX0_tell_78 : decode cX0_tell 78 = .ok (.aload_n 0, 1) := by decide +kernel
theorem dX0_tell_79 : decode cX0_tell 79 = .ok (.getfield 27, 3) := by decide +kernel
theorem dX0_tell_82 : decode cX0_tell 82 = .ok (.iconst (-1), 1) := by decide +kernel
theorem dX0_tell_83 : decode cX0_tell 83 = .ok (.iastore, 1) := by decide +kernel
theorem dX0_tell_84 : decode cX0_tell 84 = .ok (.aload_n 0, 1) := by decide +kernel
theorem dX0_tell_85 : decode cX0_tell 85 = .ok (.dup, 1) := by decide +kernel
theorem dX0_tell_86 : decode cX0_tell 86 = .ok (.getfield 27, 3) := by decide +kernel
theorem dX0_tell_89 : decode cX0_tell 89 = .ok (.iconst 1, 1) := by decide +kernel
theorem dX0_tell_90 : decode cX0_tell 90 = .ok (.iadd, 1) := by decide +kernel
theorem dX0_tell_91 : decode cX0_tell 91 = .ok (.putfield 27, 3) := by decide +kernel
theorem dX0_tell_94 : decode cX0_tell 94 = .ok (.aload_n 0, 1) := by decide +kernel
theorem dX0_tell_95 : decode cX0_tell 95 = .ok (.getfield 27, 3) := by decide +kernel
theorem dX0_tell_98 : decode cX0_tell 98 = .ok (.iconst 1, 1) := by decide +kernel
theorem dX0_tell_99 : decode cX0_tell 99 = .ok (.isub, 1) := by decide +kernel
theorem dX0_tell_100 : decode cX0_tell 100 = .ok (.ireturn, 1) := by decide +kernel
theorem dX0_takeBack_0 : decode cX0_takeBack 0 = .ok (.iload_n 1, 1) := by decide +kernel
theorem dX0_takeBack_1 : decode cX0_takeBack 1 = .ok (.ifCond .lt 27, 3) := by decide +kernel
theorem dX0_takeBack_4 : decode cX0_takeBack 4 = .ok (.iload_n 1, 1) := by decide +kernel
theorem dX0_takeBack_5 : decode cX0_takeBack 5 = .ok (.aload_n 0, 1) := by decide +kernel
theorem dX0_takeBack_6 : decode cX0_takeBack 6 = .ok (.getfield 27, 3) := by decide +kernel
theorem dX0_takeBack_9 : decode cX0_takeBack 9 = .ok (.if_icmp .ge 19, 3) := by decide +kernel
theorem dX0_takeBack_12 : decode cX0_takeBack 12 = .ok (.iload_n 1, 1) := by decide +kernel
theorem dX0_takeBack_13 : decode cX0_takeBack 13 = .ok (.bipush 40, 2) := by decide +kernel
theorem dX0_takeBack_15 : decode cX0_takeBack 15 = .ok (.if_icmp .ge 13, 3) := by decide +kernel
theorem dX0_takeBack_18 : decode cX0_takeBack 18 = .ok (.aload_n 0, 1) := by decide +kernel
theorem dX0_takeBack_19 : decode cX0_takeBack 19 = .ok (.getfield 24, 3) := by decide +kernel
theorem dX0_takeBack_22 : decode cX0_takeBack 22 = .ok (.iload_n 1, 1) := by decide +kernel
theorem dX0_takeBack_23 : decode cX0_takeBack 23 = .ok (.iaload, 1) := by decide +kernel
theorem dX0_takeBack_24 : decode cX0_takeBack 24 = .ok (.iconst (-1), 1) := by decide +kernel
theorem dX0_takeBack_25 : decode cX0_takeBack 25 = .ok (.if_icmp .eq 5, 3) := by decide +kernel
theorem dX0_takeBack_28 : decode cX0_takeBack 28 = .ok (.iconst 0, 1) := by decide +kernel
theorem dX0_takeBack_29 : decode cX0_takeBack 29 = .ok (.ireturn, 1) := by decide +kernel
theorem dX0_takeBack_30 : decode cX0_takeBack 30 = .ok (.aload_n 0, 1) := by decide +kernel
theorem dX0_takeBack_31 : decode cX0_takeBack 31 = .ok (.getfield 24, 3) := by decide +kernel
theorem dX0_takeBack_34 : decode cX0_takeBack 34 = .ok (.iload_n 1, 1) := by decide +kernel
theorem dX0_takeBack_35 : decode cX0_takeBack 35 = .ok (.aload_n 0, 1) := by decide +kernel
theorem dX0_takeBack_36 : decode cX0_takeBack 36 = .ok (.getfield 31, 3) := by decide +kernel
theorem dX0_takeBack_39 : decode cX0_takeBack 39 = .ok (.iastore, 1) := by decide +kernel
theorem dX0_takeBack_40 : decode cX0_takeBack 40 = .ok (.iconst 1, 1) := by decide +kernel
theorem dX0_takeBack_41 : decode cX0_takeBack 41 = .ok (.ireturn, 1) := by decide +kernel
theorem dX0_goOn_0 : decode cX0_goOn 0 = .ok (.iload_n 1, 1) := by decide +kernel
theorem dX0_goOn_1 : decode cX0_goOn 1 = .ok (.ifCond .lt 21, 3) := by decide +kernel
theorem dX0_goOn_4 : decode cX0_goOn 4 = .ok (.iload_n 1, 1) := by decide +kernel
theorem dX0_goOn_5 : decode cX0_goOn 5 = .ok (.sipush 1000, 3) := by decide +kernel
theorem dX0_goOn_8 : decode cX0_goOn 8 = .ok (.if_icmp .gt 14, 3) := by decide +kernel
theorem dX0_goOn_11 : decode cX0_goOn 11 = .ok (.aload_n 0, 1) := by decide +kernel
theorem dX0_goOn_12 : decode cX0_goOn 12 = .ok (.getfield 31, 3) := by decide +kernel
theorem dX0_goOn_15 : decode cX0_goOn 15 = .ok (.iload_n 1, 1) := by decide +kernel
theorem dX0_goOn_16 : decode cX0_goOn 16 = .ok (.iadd, 1) := by decide +kernel
theorem dX0_goOn_17 : decode cX0_goOn 17 = .ok (.ldc 34, 2) := by decide +kernel
theorem dX0_goOn_19 : decode cX0_goOn 19 = .ok (.if_icmp .le 5, 3) := by decide +kernel
theorem dX0_goOn_22 : decode cX0_goOn 22 = .ok (.iconst (-1), 1) := by decide +kernel
theorem dX0_goOn_23 : decode cX0_goOn 23 = .ok (.ireturn, 1) := by decide +kernel
theorem dX0_goOn_24 : decode cX0_goOn 24 = .ok (.aload_n 0, 1) := by decide +kernel
theorem dX0_goOn_25 : decode cX0_goOn 25 = .ok (.dup, 1) := by decide +kernel
theorem dX0_goOn_26 : decode cX0_goOn 26 = .ok (.getfield 31, 3) := by decide +kernel
theorem dX0_goOn_29 : decode cX0_goOn 29 = .ok (.iload_n 1, 1) := by decide +kernel
theorem dX0_goOn_30 : decode cX0_goOn 30 = .ok (.iadd, 1) := by decide +kernel
theorem dX0_goOn_31 : decode cX0_goOn 31 = .ok (.putfield 31, 3) := by decide +kernel
theorem dX0_goOn_34 : decode cX0_goOn 34 = .ok (.aload_n 0, 1) := by decide +kernel
theorem dX0_goOn_35 : decode cX0_goOn 35 = .ok (.getfield 31, 3) := by decide +kernel
theorem dX0_goOn_38 : decode cX0_goOn 38 = .ok (.ireturn, 1) := by decide +kernel
theorem dX0_countFalse_0 : decode cX0_countFalse 0 = .ok (.iconst 0, 1) := by decide +kernel
theorem dX0_countFalse_1 : decode cX0_countFalse 1 = .ok (.istore_n 3, 1) := by decide +kernel
theorem dX0_countFalse_2 : decode cX0_countFalse 2 = .ok (.iconst 0, 1) := by decide +kernel
theorem dX0_countFalse_3 : decode cX0_countFalse 3 = .ok (.istore 4, 2) := by decide +kernel
theorem dX0_countFalse_5 : decode cX0_countFalse 5 = .ok (.iload 4, 2) := by decide +kernel
theorem dX0_countFalse_7 : decode cX0_countFalse 7 = .ok (.aload_n 0, 1) := by decide +kernel
theorem dX0_countFalse_8 : decode cX0_countFalse 8 = .ok (.getfield 27, 3) := by decide +kernel
theorem dX0_countFalse_11 : decode cX0_countFalse 11 = .ok (.if_icmp .ge 23, 3) := by decide +kernel
theorem dX0_countFalse_14 : decode cX0_countFalse 14 = .ok (.aload_n 0, 1) := by decide +kernel
theorem dX0_countFalse_15 : decode cX0_countFalse 15 = .ok (.aload_n 1, 1) := by decide +kernel
theorem dX0_countFalse_16 : decode cX0_countFalse 16 = .ok (.iload 4, 2) := by decide +kernel
theorem dX0_countFalse_18 : decode cX0_countFalse 18 = .ok (.iload_n 2, 1) := by decide +kernel
theorem dX0_countFalse_19 : decode cX0_countFalse 19 = .ok (.invokevirtual 35, 3) := by decide +kernel
theorem dX0_countFalse_22 : decode cX0_countFalse 22 = .ok (.ifCond .eq 6, 3) := by decide +kernel
theorem dX0_countFalse_25 : decode cX0_countFalse 25 = .ok (.iinc 3 1, 3) := by decide +kernel
theorem dX0_countFalse_28 : decode cX0_countFalse 28 = .ok (.iinc 4 1, 3) := by decide +kernel
theorem dX0_countFalse_31 : decode cX0_countFalse 31 = .ok (.goto (-26), 3) := by decide +kernel
theorem dX0_countFalse_34 : decode cX0_countFalse 34 = .ok (.iload_n 3, 1) := by decide +kernel
theorem dX0_countFalse_35 : decode cX0_countFalse 35 = .ok (.ireturn, 1) := by decide +kernel
theorem dX0_countStood_0 : decode cX0_countStood 0 = .ok (.iconst 0, 1) := by decide +kernel
theorem dX0_countStood_1 : decode cX0_countStood 1 = .ok (.istore_n 3, 1) := by decide +kernel
theorem dX0_countStood_2 : decode cX0_countStood 2 = .ok (.iconst 0, 1) := by decide +kernel
theorem dX0_countStood_3 : decode cX0_countStood 3 = .ok (.istore 4, 2) := by decide +kernel
theorem dX0_countStood_5 : decode cX0_countStood 5 = .ok (.iload 4, 2) := by decide +kernel
theorem dX0_countStood_7 : decode cX0_countStood 7 = .ok (.aload_n 0, 1) := by decide +kernel
theorem dX0_countStood_8 : decode cX0_countStood 8 = .ok (.getfield 27, 3) := by decide +kernel
theorem dX0_countStood_11 : decode cX0_countStood 11 = .ok (.if_icmp .ge 54, 3) := by decide +kernel
theorem dX0_countStood_14 : decode cX0_countStood 14 = .ok (.aload_n 0, 1) := by decide +kernel
theorem dX0_countStood_15 : decode cX0_countStood 15 = .ok (.aload_n 1, 1) := by decide +kernel
theorem dX0_countStood_16 : decode cX0_countStood 16 = .ok (.iload 4, 2) := by decide +kernel
theorem dX0_countStood_18 : decode cX0_countStood 18 = .ok (.iload_n 2, 1) := by decide +kernel
theorem dX0_countStood_19 : decode cX0_countStood 19 = .ok (.invokevirtual 39, 3) := by decide +kernel
theorem dX0_countStood_22 : decode cX0_countStood 22 = .ok (.ifCond .eq 37, 3) := by decide +kernel
theorem dX0_countStood_25 : decode cX0_countStood 25 = .ok (.aload_n 0, 1) := by decide +kernel
theorem dX0_countStood_26 : decode cX0_countStood 26 = .ok (.getfield 18, 3) := by decide +kernel
theorem dX0_countStood_29 : decode cX0_countStood 29 = .ok (.iload 4, 2) := by decide +kernel
theorem dX0_countStood_31 : decode cX0_countStood 31 = .ok (.iaload, 1) := by decide +kernel
theorem dX0_countStood_32 : decode cX0_countStood 32 = .ok (.ifCond .eq 27, 3) := by decide +kernel
theorem dX0_countStood_35 : decode cX0_countStood 35 = .ok (.aload_n 1, 1) := by decide +kernel
theorem dX0_countStood_36 : decode cX0_countStood 36 = .ok (.aload_n 0, 1) := by decide +kernel
theorem dX0_countStood_37 : decode cX0_countStood 37 = .ok (.getfield 11, 3) := by decide +kernel
theorem dX0_countStood_40 : decode cX0_countStood 40 = .ok (.iload 4, 2) := by decide +kernel
theorem dX0_countStood_42 : decode cX0_countStood 42 = .ok (.iaload, 1) := by decide +kernel
theorem dX0_countStood_43 : decode cX0_countStood 43 = .ok (.aload_n 0, 1) := by decide +kernel
theorem dX0_countStood_44 : decode cX0_countStood 44 = .ok (.getfield 15, 3) := by decide +kernel
theorem dX0_countStood_47 : decode cX0_countStood 47 = .ok (.iload 4, 2) := by decide +kernel
theorem dX0_countStood_49 : decode cX0_countStood 49 = .ok (.iaload, 1) := by decide +kernel
theorem dX0_countStood_50 : decode cX0_countStood 50 = .ok (.invokevirtual 42, 3) := by decide +kernel
theorem dX0_countStood_53 : decode cX0_countStood 53 = .ok (.ifCond .eq 6, 3) := by decide +kernel
theorem dX0_countStood_56 : decode cX0_countStood 56 = .ok (.iinc 3 1, 3) := by decide +kernel
theorem dX0_countStood_59 : decode cX0_countStood 59 = .ok (.iinc 4 1, 3) := by decide +kernel
theorem dX0_countStood_62 : decode cX0_countStood 62 = .ok (.goto (-57), 3) := by decide +kernel
theorem dX0_countStood_65 : decode cX0_countStood 65 = .ok (.iload_n 3, 1) := by decide +kernel
theorem dX0_countStood_66 : decode cX0_countStood 66 = .ok (.ireturn, 1) := by decide +kernel
theorem dX0_firstFalse_0 : decode cX0_firstFalse 0 = .ok (.iconst 0, 1) := by decide +kernel
theorem dX0_firstFalse_1 : decode cX0_firstFalse 1 = .ok (.istore_n 3, 1) := by decide +kernel
theorem dX0_firstFalse_2 : decode cX0_firstFalse 2 = .ok (.iload_n 3, 1) := by decide +kernel
theorem dX0_firstFalse_3 : decode cX0_firstFalse 3 = .ok (.aload_n 0, 1) := by decide +kernel
theorem dX0_firstFalse_4 : decode cX0_firstFalse 4 = .ok (.getfield 27, 3) := by decide +kernel
theorem dX0_firstFalse_7 : decode cX0_firstFalse 7 = .ok (.if_icmp .ge 21, 3) := by decide +kernel
theorem dX0_firstFalse_10 : decode cX0_firstFalse 10 = .ok (.aload_n 0, 1) := by decide +kernel
theorem dX0_firstFalse_11 : decode cX0_firstFalse 11 = .ok (.aload_n 1, 1) := by decide +kernel
theorem dX0_firstFalse_12 : decode cX0_firstFalse 12 = .ok (.iload_n 3, 1) := by decide +kernel
theorem dX0_firstFalse_13 : decode cX0_firstFalse 13 = .ok (.iload_n 2, 1) := by decide +kernel
theorem dX0_firstFalse_14 : decode cX0_firstFalse 14 = .ok (.invokevirtual 35, 3) := by decide +kernel
theorem dX0_firstFalse_17 : decode cX0_firstFalse 17 = .ok (.ifCond .eq 5, 3) := by decide +kernel
theorem dX0_firstFalse_20 : decode cX0_firstFalse 20 = .ok (.iload_n 3, 1) := by decide +kernel
theorem dX0_firstFalse_21 : decode cX0_firstFalse 21 = .ok (.ireturn, 1) := by decide +kernel
theorem dX0_firstFalse_22 : decode cX0_firstFalse 22 = .ok (.iinc 3 1, 3) := by decide +kernel
theorem dX0_firstFalse_25 : decode cX0_firstFalse 25 = .ok (.goto (-23), 3) := by decide +kernel
theorem dX0_firstFalse_28 : decode cX0_firstFalse 28 = .ok (.iconst (-1), 1) := by decide +kernel
theorem dX0_firstFalse_29 : decode cX0_firstFalse 29 = .ok (.ireturn, 1) := by decide +kernel
theorem dX0_isFalse_0 : decode cX0_isFalse 0 = .ok (.aload_n 0, 1) := by decide +kernel
theorem dX0_isFalse_1 : decode cX0_isFalse 1 = .ok (.aload_n 1, 1) := by decide +kernel
theorem dX0_isFalse_2 : decode cX0_isFalse 2 = .ok (.iload_n 2, 1) := by decide +kernel
theorem dX0_isFalse_3 : decode cX0_isFalse 3 = .ok (.iload_n 3, 1) := by decide +kernel
theorem dX0_isFalse_4 : decode cX0_isFalse 4 = .ok (.invokevirtual 39, 3) := by decide +kernel
theorem dX0_isFalse_7 : decode cX0_isFalse 7 = .ok (.ifCond .eq 32, 3) := by decide +kernel
theorem dX0_isFalse_10 : decode cX0_isFalse 10 = .ok (.aload_n 1, 1) := by decide +kernel
theorem dX0_isFalse_11 : decode cX0_isFalse 11 = .ok (.aload_n 0, 1) := by decide +kernel
theorem dX0_isFalse_12 : decode cX0_isFalse 12 = .ok (.getfield 11, 3) := by decide +kernel
theorem dX0_isFalse_15 : decode cX0_isFalse 15 = .ok (.iload_n 2, 1) := by decide +kernel
theorem dX0_isFalse_16 : decode cX0_isFalse 16 = .ok (.iaload, 1) := by decide +kernel
theorem dX0_isFalse_17 : decode cX0_isFalse 17 = .ok (.aload_n 0, 1) := by decide +kernel
theorem dX0_isFalse_18 : decode cX0_isFalse 18 = .ok (.getfield 15, 3) := by decide +kernel
theorem dX0_isFalse_21 : decode cX0_isFalse 21 = .ok (.iload_n 2, 1) := by decide +kernel
theorem dX0_isFalse_22 : decode cX0_isFalse 22 = .ok (.iaload, 1) := by decide +kernel
theorem dX0_isFalse_23 : decode cX0_isFalse 23 = .ok (.invokevirtual 48, 3) := by decide +kernel
theorem dX0_isFalse_26 : decode cX0_isFalse 26 = .ok (.aload_n 0, 1) := by decide +kernel
theorem dX0_isFalse_27 : decode cX0_isFalse 27 = .ok (.getfield 18, 3) := by decide +kernel
theorem dX0_isFalse_30 : decode cX0_isFalse 30 = .ok (.iload_n 2, 1) := by decide +kernel
theorem dX0_isFalse_31 : decode cX0_isFalse 31 = .ok (.iaload, 1) := by decide +kernel
theorem dX0_isFalse_32 : decode cX0_isFalse 32 = .ok (.if_icmp .eq 7, 3) := by decide +kernel
theorem dX0_isFalse_35 : decode cX0_isFalse 35 = .ok (.iconst 1, 1) := by decide +kernel
theorem dX0_isFalse_36 : decode cX0_isFalse 36 = .ok (.goto 4, 3) := by decide +kernel
theorem dX0_isFalse_39 : decode cX0_isFalse 39 = .ok (.iconst 0, 1) := by decide +kernel
theorem dX0_isFalse_40 : decode cX0_isFalse 40 = .ok (.ireturn, 1) := by decide +kernel
theorem dX0_isJudged_0 : decode cX0_isJudged 0 = .ok (.aload_n 0, 1) := by decide +kernel
theorem dX0_isJudged_1 : decode cX0_isJudged 1 = .ok (.getfield 21, 3) := by decide +kernel
theorem dX0_isJudged_4 : decode cX0_isJudged 4 = .ok (.iload_n 2, 1) := by decide +kernel
theorem dX0_isJudged_5 : decode cX0_isJudged 5 = .ok (.iaload, 1) := by decide +kernel
theorem dX0_isJudged_6 : decode cX0_isJudged 6 = .ok (.iload_n 3, 1) := by decide +kernel
theorem dX0_isJudged_7 : decode cX0_isJudged 7 = .ok (.if_icmp .gt 40, 3) := by decide +kernel
theorem dX0_isJudged_10 : decode cX0_isJudged 10 = .ok (.aload_n 0, 1) := by decide +kernel
theorem dX0_isJudged_11 : decode cX0_isJudged 11 = .ok (.getfield 24, 3) := by decide +kernel
theorem dX0_isJudged_14 : decode cX0_isJudged 14 = .ok (.iload_n 2, 1) := by decide +kernel
theorem dX0_isJudged_15 : decode cX0_isJudged 15 = .ok (.iaload, 1) := by decide +kernel
theorem dX0_isJudged_16 : decode cX0_isJudged 16 = .ok (.iconst (-1), 1) := by decide +kernel
theorem dX0_isJudged_17 : decode cX0_isJudged 17 = .ok (.if_icmp .eq 13, 3) := by decide +kernel
theorem dX0_isJudged_20 : decode cX0_isJudged 20 = .ok (.aload_n 0, 1) := by decide +kernel
theorem dX0_isJudged_21 : decode cX0_isJudged 21 = .ok (.getfield 24, 3) := by decide +kernel
theorem dX0_isJudged_24 : decode cX0_isJudged 24 = .ok (.iload_n 2, 1) := by decide +kernel
theorem dX0_isJudged_25 : decode cX0_isJudged 25 = .ok (.iaload, 1) := by decide +kernel
theorem dX0_isJudged_26 : decode cX0_isJudged 26 = .ok (.iload_n 3, 1) := by decide +kernel
theorem dX0_isJudged_27 : decode cX0_isJudged 27 = .ok (.if_icmp .le 20, 3) := by decide +kernel
theorem dX0_isJudged_30 : decode cX0_isJudged 30 = .ok (.aload_n 1, 1) := by decide +kernel
theorem dX0_isJudged_31 : decode cX0_isJudged 31 = .ok (.aload_n 0, 1) := by decide +kernel
theorem dX0_isJudged_32 : decode cX0_isJudged 32 = .ok (.getfield 11, 3) := by decide +kernel
theorem dX0_isJudged_35 : decode cX0_isJudged 35 = .ok (.iload_n 2, 1) := by decide +kernel
theorem dX0_isJudged_36 : decode cX0_isJudged 36 = .ok (.iaload, 1) := by decide +kernel
theorem dX0_isJudged_37 : decode cX0_isJudged 37 = .ok (.invokevirtual 52, 3) := by decide +kernel
theorem dX0_isJudged_40 : decode cX0_isJudged 40 = .ok (.ifCond .eq 7, 3) := by decide +kernel
theorem dX0_isJudged_43 : decode cX0_isJudged 43 = .ok (.iconst 1, 1) := by decide +kernel
theorem dX0_isJudged_44 : decode cX0_isJudged 44 = .ok (.goto 4, 3) := by decide +kernel
theorem dX0_isJudged_47 : decode cX0_isJudged 47 = .ok (.iconst 0, 1) := by decide +kernel
theorem dX0_isJudged_48 : decode cX0_isJudged 48 = .ok (.ireturn, 1) := by decide +kernel
theorem dX1_init_0 : decode cX1_init 0 = .ok (.aload_n 0, 1) := by decide +kernel
theorem dX1_init_1 : decode cX1_init 1 = .ok (.invokespecial 3, 3) := by decide +kernel
theorem dX1_init_4 : decode cX1_init 4 = .ok (.aload_n 0, 1) := by decide +kernel
theorem dX1_init_5 : decode cX1_init 5 = .ok (.new 9, 3) := by decide +kernel
theorem dX1_init_8 : decode cX1_init 8 = .ok (.dup, 1) := by decide +kernel
theorem dX1_init_9 : decode cX1_init 9 = .ok (.bipush 6, 2) := by decide +kernel
theorem dX1_init_11 : decode cX1_init 11 = .ok (.invokespecial 11, 3) := by decide +kernel
theorem dX1_init_14 : decode cX1_init 14 = .ok (.putfield 14, 3) := by decide +kernel
theorem dX1_init_17 : decode cX1_init 17 = .ok (.aload_n 0, 1) := by decide +kernel
theorem dX1_init_18 : decode cX1_init 18 = .ok (.new 9, 3) := by decide +kernel
theorem dX1_init_21 : decode cX1_init 21 = .ok (.dup, 1) := by decide +kernel
theorem dX1_init_22 : decode cX1_init 22 = .ok (.bipush 6, 2) := by decide +kernel
theorem dX1_init_24 : decode cX1_init 24 = .ok (.invokespecial 11, 3) := by decide +kernel
theorem dX1_init_27 : decode cX1_init 27 = .ok (.putfield 20, 3) := by decide +kernel
theorem dX1_init_30 : decode cX1_init 30 = .ok (.aload_n 0, 1) := by decide +kernel
theorem dX1_init_31 : decode cX1_init 31 = .ok (.new 9, 3) := by decide +kernel
theorem dX1_init_34 : decode cX1_init 34 = .ok (.dup, 1) := by decide +kernel
theorem dX1_init_35 : decode cX1_init 35 = .ok (.iconst 4, 1) := by decide +kernel
theorem dX1_init_36 : decode cX1_init 36 = .ok (.invokespecial 11, 3) := by decide +kernel
theorem dX1_init_39 : decode cX1_init 39 = .ok (.putfield 23, 3) := by decide +kernel
theorem dX1_init_42 : decode cX1_init 42 = .ok (.aload_n 0, 1) := by decide +kernel
theorem dX1_init_43 : decode cX1_init 43 = .ok (.bipush 6, 2) := by decide +kernel
theorem dX1_init_45 : decode cX1_init 45 = .ok (.newarray .int, 2) := by decide +kernel
theorem dX1_init_47 : decode cX1_init 47 = .ok (.putfield 26, 3) := by decide +kernel
theorem dX1_init_50 : decode cX1_init 50 = .ok (.aload_n 0, 1) := by decide +kernel
theorem dX1_init_51 : decode cX1_init 51 = .ok (.bipush 6, 2) := by decide +kernel
theorem dX1_init_53 : decode cX1_init 53 = .ok (.newarray .int, 2) := by decide +kernel
theorem dX1_init_55 : decode cX1_init 55 = .ok (.putfield 30, 3) := by decide +kernel
theorem dX1_init_58 : decode cX1_init 58 = .ok (.aload_n 0, 1) := by decide +kernel
theorem dX1_init_59 : decode cX1_init 59 = .ok (.iconst 4, 1) := by decide +kernel
theorem dX1_init_60 : decode cX1_init 60 = .ok (.newarray .int, 2) := by decide +kernel
theorem dX1_init_62 : decode cX1_init 62 = .ok (.putfield 33, 3) := by decide +kernel
theorem dX1_init_65 : decode cX1_init 65 = .ok (.aload_n 0, 1) := by decide +kernel
theorem dX1_init_66 : decode cX1_init 66 = .ok (.iconst 4, 1) := by decide +kernel
theorem dX1_init_67 : decode cX1_init 67 = .ok (.newarray .int, 2) := by decide +kernel
theorem dX1_init_69 : decode cX1_init 69 = .ok (.putfield 36, 3) := by decide +kernel
theorem dX1_init_72 : decode cX1_init 72 = .ok (.aload_n 0, 1) := by decide +kernel
theorem dX1_init_73 : decode cX1_init 73 = .ok (.iconst 4, 1) := by decide +kernel
theorem dX1_init_74 : decode cX1_init 74 = .ok (.newarray .int, 2) := by decide +kernel
theorem dX1_init_76 : decode cX1_init 76 = .ok (.putfield 39, 3) := by decide +kernel
theorem dX1_init_79 : decode cX1_init 79 = .ok (.aload_n 0, 1) := by decide +kernel
theorem dX1_init_80 : decode cX1_init 80 = .ok (.iconst 4, 1) := by decide +kernel
theorem dX1_init_81 : decode cX1_init 81 = .ok (.newarray .int, 2) := by decide +kernel
theorem dX1_init_83 : decode cX1_init 83 = .ok (.putfield 42, 3) := by decide +kernel
theorem dX1_init_86 : decode cX1_init 86 = .ok (.aload_n 0, 1) := by decide +kernel
theorem dX1_init_87 : decode cX1_init 87 = .ok (.iconst 4, 1) := by decide +kernel
theorem dX1_init_88 : decode cX1_init 88 = .ok (.newarray .int, 2) := by decide +kernel
theorem dX1_init_90 : decode cX1_init 90 = .ok (.putfield 45, 3) := by decide +kernel
theorem dX1_init_93 : decode cX1_init 93 = .ok (.aload_n 0, 1) := by decide +kernel
theorem dX1_init_94 : decode cX1_init 94 = .ok (.iconst 4, 1) := by decide +kernel
theorem dX1_init_95 : decode cX1_init 95 = .ok (.newarray .int, 2) := by decide +kernel
theorem dX1_init_97 : decode cX1_init 97 = .ok (.putfield 48, 3) := by decide +kernel
theorem dX1_init_100 : decode cX1_init 100 = .ok (.aload_n 0, 1) := by decide +kernel
theorem dX1_init_101 : decode cX1_init 101 = .ok (.iconst 4, 1) := by decide +kernel
theorem dX1_init_102 : decode cX1_init 102 = .ok (.newarray .int, 2) := by decide +kernel
theorem dX1_init_104 : decode cX1_init 104 = .ok (.putfield 51, 3) := by decide +kernel
theorem dX1_init_107 : decode cX1_init 107 = .ok (.aload_n 0, 1) := by decide +kernel
theorem dX1_init_108 : decode cX1_init 108 = .ok (.iconst 4, 1) := by decide +kernel
theorem dX1_init_109 : decode cX1_init 109 = .ok (.newarray .int, 2) := by decide +kernel
theorem dX1_init_111 : decode cX1_init 111 = .ok (.putfield 54, 3) := by decide +kernel
theorem dX1_init_114 : decode cX1_init 114 = .ok (.aload_n 0, 1) := by decide +kernel
theorem dX1_init_115 : decode cX1_init 115 = .ok (.iconst 4, 1) := by decide +kernel
theorem dX1_init_116 : decode cX1_init 116 = .ok (.newarray .int, 2) := by decide +kernel
theorem dX1_init_118 : decode cX1_init 118 = .ok (.putfield 57, 3) := by decide +kernel
theorem dX1_init_121 : decode cX1_init 121 = .ok (.aload_n 0, 1) := by decide +kernel
theorem dX1_init_122 : decode cX1_init 122 = .ok (.new 60, 3) := by decide +kernel
theorem dX1_init_125 : decode cX1_init 125 = .ok (.dup, 1) := by decide +kernel
theorem dX1_init_126 : decode cX1_init 126 = .ok (.invokespecial 62, 3) := by decide +kernel
theorem dX1_init_129 : decode cX1_init 129 = .ok (.putfield 63, 3) := by decide +kernel
theorem dX1_init_132 : decode cX1_init 132 = .ok (.return_, 1) := by decide +kernel
theorem dX1_clear_0 : decode cX1_clear 0 = .ok (.aload_n 0, 1) := by decide +kernel
theorem dX1_clear_1 : decode cX1_clear 1 = .ok (.getfield 14, 3) := by decide +kernel
theorem dX1_clear_4 : decode cX1_clear 4 = .ok (.iconst 0, 1) := by decide +kernel
theorem dX1_clear_5 : decode cX1_clear 5 = .ok (.putfield 67, 3) := by decide +kernel
theorem dX1_clear_8 : decode cX1_clear 8 = .ok (.aload_n 0, 1) := by decide +kernel
theorem dX1_clear_9 : decode cX1_clear 9 = .ok (.getfield 20, 3) := by decide +kernel
theorem dX1_clear_12 : decode cX1_clear 12 = .ok (.iconst 0, 1) := by decide +kernel
theorem dX1_clear_13 : decode cX1_clear 13 = .ok (.putfield 67, 3) := by decide +kernel
theorem dX1_clear_16 : decode cX1_clear 16 = .ok (.aload_n 0, 1) := by decide +kernel
theorem dX1_clear_17 : decode cX1_clear 17 = .ok (.getfield 23, 3) := by decide +kernel
theorem dX1_clear_20 : decode cX1_clear 20 = .ok (.iconst 0, 1) := by decide +kernel
theorem dX1_clear_21 : decode cX1_clear 21 = .ok (.putfield 67, 3) := by decide +kernel
theorem dX1_clear_24 : decode cX1_clear 24 = .ok (.aload_n 0, 1) := by decide +kernel
theorem dX1_clear_25 : decode cX1_clear 25 = .ok (.iconst 0, 1) := by decide +kernel
theorem dX1_clear_26 : decode cX1_clear 26 = .ok (.putfield 71, 3) := by decide +kernel
theorem dX1_clear_29 : decode cX1_clear 29 = .ok (.aload_n 0, 1) := by decide +kernel
theorem dX1_clear_30 : decode cX1_clear 30 = .ok (.iconst 0, 1) := by decide +kernel
theorem dX1_clear_31 : decode cX1_clear 31 = .ok (.putfield 74, 3) := by decide +kernel
theorem dX1_clear_34 : decode cX1_clear 34 = .ok (.aload_n 0, 1) := by decide +kernel
theorem dX1_clear_35 : decode cX1_clear 35 = .ok (.iconst 0, 1) := by decide +kernel
theorem dX1_clear_36 : decode cX1_clear 36 = .ok (.putfield 77, 3) := by decide +kernel
theorem dX1_clear_39 : decode cX1_clear 39 = .ok (.aload_n 0, 1) := by decide +kernel
theorem dX1_clear_40 : decode cX1_clear 40 = .ok (.iconst 0, 1) := by decide +kernel
theorem dX1_clear_41 : decode cX1_clear 41 = .ok (.putfield 80, 3) := by decide +kernel
theorem dX1_clear_44 : decode cX1_clear 44 = .ok (.aload_n 0, 1) := by decide +kernel
theorem dX1_clear_45 : decode cX1_clear 45 = .ok (.iconst 0, 1) := by decide +kernel
theorem dX1_clear_46 : decode cX1_clear 46 = .ok (.putfield 83, 3) := by decide +kernel
theorem dX1_clear_49 : decode cX1_clear 49 = .ok (.aload_n 0, 1) := by decide +kernel
theorem dX1_clear_50 : decode cX1_clear 50 = .ok (.getfield 63, 3) := by decide +kernel
theorem dX1_clear_53 : decode cX1_clear 53 = .ok (.invokevirtual 86, 3) := by decide +kernel
theorem dX1_clear_56 : decode cX1_clear 56 = .ok (.return_, 1) := by decide +kernel
theorem dX1_addChair_0 : decode cX1_addChair 0 = .ok (.aload_n 0, 1) := by decide +kernel
theorem dX1_addChair_1 : decode cX1_addChair 1 = .ok (.getfield 14, 3) := by decide +kernel
theorem dX1_addChair_4 : decode cX1_addChair 4 = .ok (.invokevirtual 89, 3) := by decide +kernel
theorem dX1_addChair_7 : decode cX1_addChair 7 = .ok (.ifCond .eq 4, 3) := by decide +kernel
theorem dX1_addChair_10 : decode cX1_addChair 10 = .ok (.return_, 1) := by decide +kernel
theorem dX1_addChair_11 : decode cX1_addChair 11 = .ok (.aload_n 0, 1) := by decide +kernel
theorem dX1_addChair_12 : decode cX1_addChair 12 = .ok (.getfield 26, 3) := by decide +kernel
theorem dX1_addChair_15 : decode cX1_addChair 15 = .ok (.aload_n 0, 1) := by decide +kernel
theorem dX1_addChair_16 : decode cX1_addChair 16 = .ok (.getfield 14, 3) := by decide +kernel
theorem dX1_addChair_19 : decode cX1_addChair 19 = .ok (.getfield 67, 3) := by decide +kernel
theorem dX1_addChair_22 : decode cX1_addChair 22 = .ok (.iload_n 3, 1) := by decide +kernel
theorem dX1_addChair_23 : decode cX1_addChair 23 = .ok (.iastore, 1) := by decide +kernel
theorem dX1_addChair_24 : decode cX1_addChair 24 = .ok (.iload 4, 2) := by decide +kernel
theorem dX1_addChair_26 : decode cX1_addChair 26 = .ok (.ifCond .eq 21, 3) := by decide +kernel
theorem dX1_addChair_29 : decode cX1_addChair 29 = .ok (.aload_n 0, 1) := by decide +kernel
theorem dX1_addChair_30 : decode cX1_addChair 30 = .ok (.dup, 1) := by decide +kernel
theorem dX1_addChair_31 : decode cX1_addChair 31 = .ok (.getfield 71, 3) := by decide +kernel
theorem dX1_addChair_34 : decode cX1_addChair 34 = .ok (.iconst 1, 1) := by decide +kernel
theorem dX1_addChair_35 : decode cX1_addChair 35 = .ok (.aload_n 0, 1) := by decide +kernel
theorem dX1_addChair_36 : decode cX1_addChair 36 = .ok (.getfield 14, 3) := by decide +kernel
theorem dX1_addChair_39 : decode cX1_addChair 39 = .ok (.getfield 67, 3) := by decide +kernel
theorem dX1_addChair_42 : decode cX1_addChair 42 = .ok (.ishl, 1) := by decide +kernel
theorem dX1_addChair_43 : decode cX1_addChair 43 = .ok (.ior, 1) := by decide +kernel
theorem dX1_addChair_44 : decode cX1_addChair 44 = .ok (.putfield 71, 3) := by decide +kernel
theorem dX1_addChair_47 : decode cX1_addChair 47 = .ok (.aload_n 0, 1) := by decide +kernel
theorem dX1_addChair_48 : decode cX1_addChair 48 = .ok (.getfield 14, 3) := by decide +kernel
theorem dX1_addChair_51 : decode cX1_addChair 51 = .ok (.lload_n 1, 1) := by decide +kernel
theorem dX1_addChair_52 : decode cX1_addChair 52 = .ok (.invokevirtual 93, 3) := by decide +kernel
theorem dX1_addChair_55 : decode cX1_addChair 55 = .ok (.return_, 1) := by decide +kernel
theorem dX1_addMan_0 : decode cX1_addMan 0 = .ok (.aload_n 0, 1) := by decide +kernel
theorem dX1_addMan_1 : decode cX1_addMan 1 = .ok (.getfield 20, 3) := by decide +kernel
theorem dX1_addMan_4 : decode cX1_addMan 4 = .ok (.invokevirtual 89, 3) := by decide +kernel
theorem dX1_addMan_7 : decode cX1_addMan 7 = .ok (.ifCond .eq 4, 3) := by decide +kernel
theorem dX1_addMan_10 : decode cX1_addMan 10 = .ok (.return_, 1) := by decide +kernel
theorem dX1_addMan_11 : decode cX1_addMan 11 = .ok (.aload_n 0, 1) := by decide +kernel
theorem dX1_addMan_12 : decode cX1_addMan 12 = .ok (.getfield 30, 3) := by decide +kernel
theorem dX1_addMan_15 : decode cX1_addMan 15 = .ok (.aload_n 0, 1) := by decide +kernel
theorem dX1_addMan_16 : decode cX1_addMan 16 = .ok (.getfield 20, 3) := by decide +kernel
theorem dX1_addMan_19 : decode cX1_addMan 19 = .ok (.getfield 67, 3) := by decide +kernel
theorem dX1_addMan_22 : decode cX1_addMan 22 = .ok (.iload_n 3, 1) := by decide +kernel
theorem dX1_addMan_23 : decode cX1_addMan 23 = .ok (.iastore, 1) := by decide +kernel
theorem dX1_addMan_24 : decode cX1_addMan 24 = .ok (.iload 4, 2) := by decide +kernel
theorem dX1_addMan_26 : decode cX1_addMan 26 = .ok (.ifCond .eq 21, 3) := by decide +kernel
theorem dX1_addMan_29 : decode cX1_addMan 29 = .ok (.aload_n 0, 1) := by decide +kernel
theorem dX1_addMan_30 : decode cX1_addMan 30 = .ok (.dup, 1) := by decide +kernel
theorem dX1_addMan_31 : decode cX1_addMan 31 = .ok (.getfield 74, 3) := by decide +kernel
theorem dX1_addMan_34 : decode cX1_addMan 34 = .ok (.iconst 1, 1) := by decide +kernel
theorem dX1_addMan_35 : decode cX1_addMan 35 = .ok (.aload_n 0, 1) := by decide +kernel
theorem dX1_addMan_36 : decode cX1_addMan 36 = .ok (.getfield 20, 3) := by decide +kernel
theorem dX1_addMan_39 : decode cX1_addMan 39 = .ok (.getfield 67, 3) := by decide +kernel
theorem dX1_addMan_42 : decode cX1_addMan 42 = .ok (.ishl, 1) := by decide +kernel
theorem dX1_addMan_43 : decode cX1_addMan 43 = .ok (.ior, 1) := by decide +kernel
theorem dX1_addMan_44 : decode cX1_addMan 44 = .ok (.putfield 74, 3) := by decide +kernel
theorem dX1_addMan_47 : decode cX1_addMan 47 = .ok (.aload_n 0, 1) := by decide +kernel
theorem dX1_addMan_48 : decode cX1_addMan 48 = .ok (.getfield 20, 3) := by decide +kernel
theorem dX1_addMan_51 : decode cX1_addMan 51 = .ok (.lload_n 1, 1) := by decide +kernel
theorem dX1_addMan_52 : decode cX1_addMan 52 = .ok (.invokevirtual 93, 3) := by decide +kernel
theorem dX1_addMan_55 : decode cX1_addMan 55 = .ok (.return_, 1) := by decide +kernel
theorem dX1_addMatter_0 : decode cX1_addMatter 0 = .ok (.aload_n 0, 1) := by decide +kernel
theorem dX1_addMatter_1 : decode cX1_addMatter 1 = .ok (.getfield 23, 3) := by decide +kernel
theorem dX1_addMatter_4 : decode cX1_addMatter 4 = .ok (.invokevirtual 89, 3) := by decide +kernel
theorem dX1_addMatter_7 : decode cX1_addMatter 7 = .ok (.ifCond .eq 4, 3) := by decide +kernel
theorem dX1_addMatter_10 : decode cX1_addMatter 10 = .ok (.return_, 1) := by decide +kernel
theorem dX1_addMatter_11 : decode cX1_addMatter 11 = .ok (.aload_n 0, 1) := by decide +kernel
theorem dX1_addMatter_12 : decode cX1_addMatter 12 = .ok (.getfield 23, 3) := by decide +kernel
theorem dX1_addMatter_15 : decode cX1_addMatter 15 = .ok (.getfield 67, 3) := by decide +kernel
theorem dX1_addMatter_18 : decode cX1_addMatter 18 = .ok (.istore 4, 2) := by decide +kernel
theorem dX1_addMatter_20 : decode cX1_addMatter 20 = .ok (.aload_n 0, 1) := by decide +kernel
theorem dX1_addMatter_21 : decode cX1_addMatter 21 = .ok (.getfield 33, 3) := by decide +kernel
theorem dX1_addMatter_24 : decode cX1_addMatter 24 = .ok (.iload 4, 2) := by decide +kernel
theorem dX1_addMatter_26 : decode cX1_addMatter 26 = .ok (.iload_n 3, 1) := by decide +kernel
theorem dX1_addMatter_27 : decode cX1_addMatter 27 = .ok (.iastore, 1) := by decide +kernel
theorem dX1_addMatter_28 : decode cX1_addMatter 28 = .ok (.aload_n 0, 1) := by decide +kernel
theorem dX1_addMatter_29 : decode cX1_addMatter 29 = .ok (.getfield 36, 3) := by decide +kernel
theorem dX1_addMatter_32 : decode cX1_addMatter 32 = .ok (.iload 4, 2) := by decide +kernel
theorem dX1_addMatter_34 : decode cX1_addMatter 34 = .ok (.iconst 0, 1) := by decide +kernel
theorem dX1_addMatter_35 : decode cX1_addMatter 35 = .ok (.iastore, 1) := by decide +kernel
theorem dX1_addMatter_36 : decode cX1_addMatter 36 = .ok (.aload_n 0, 1) := by decide +kernel
theorem dX1_addMatter_37 : decode cX1_addMatter 37 = .ok (.getfield 39, 3) := by decide +kernel
theorem dX1_addMatter_40 : decode cX1_addMatter 40 = .ok (.iload 4, 2) := by decide +kernel
theorem dX1_addMatter_42 : decode cX1_addMatter 42 = .ok (.iconst 0, 1) := by decide +kernel
theorem dX1_addMatter_43 : decode cX1_addMatter 43 = .ok (.iastore, 1) := by decide +kernel
theorem dX1_addMatter_44 : decode cX1_addMatter 44 = .ok (.aload_n 0, 1) := by decide +kernel
theorem dX1_addMatter_45 : decode cX1_addMatter 45 = .ok (.getfield 42, 3) := by decide +kernel
theorem dX1_addMatter_48 : decode cX1_addMatter 48 = .ok (.iload 4, 2) := by decide +kernel
theorem dX1_addMatter_50 : decode cX1_addMatter 50 = .ok (.iconst 0, 1) := by decide +kernel
theorem dX1_addMatter_51 : decode cX1_addMatter 51 = .ok (.iastore, 1) := by decide +kernel
theorem dX1_addMatter_52 : decode cX1_addMatter 52 = .ok (.aload_n 0, 1) := by decide +kernel
theorem dX1_addMatter_53 : decode cX1_addMatter 53 = .ok (.getfield 45, 3) := by decide +kernel
theorem dX1_addMatter_56 : decode cX1_addMatter 56 = .ok (.iload 4, 2) := by decide +kernel
theorem dX1_addMatter_58 : decode cX1_addMatter 58 = .ok (.iconst 0, 1) := by decide +kernel
theorem dX1_addMatter_59 : decode cX1_addMatter 59 = .ok (.iastore, 1) := by decide +kernel
theorem dX1_addMatter_60 : decode cX1_addMatter 60 = .ok (.aload_n 0, 1) := by decide +kernel
theorem dX1_addMatter_61 : decode cX1_addMatter 61 = .ok (.getfield 23, 3) := by decide +kernel
theorem dX1_addMatter_64 : decode cX1_addMatter 64 = .ok (.lload_n 1, 1) := by decide +kernel
theorem dX1_addMatter_65 : decode cX1_addMatter 65 = .ok (.invokevirtual 93, 3) := by decide +kernel
theorem dX1_addMatter_68 : decode cX1_addMatter 68 = .ok (.return_, 1) := by decide +kernel
theorem dX1_isWished_0 : decode cX1_isWished 0 = .ok (.aload_n 0, 1) := by decide +kernel
theorem dX1_isWished_1 : decode cX1_isWished 1 = .ok (.getfield 23, 3) := by decide +kernel
theorem dX1_isWished_4 : decode cX1_isWished 4 = .ok (.iload_n 2, 1) := by decide +kernel
theorem dX1_isWished_5 : decode cX1_isWished 5 = .ok (.invokevirtual 97, 3) := by decide +kernel
theorem dX1_isWished_8 : decode cX1_isWished 8 = .ok (.ifCond .eq 20, 3) := by decide +kernel
theorem dX1_isWished_11 : decode cX1_isWished 11 = .ok (.aload_n 0, 1) := by decide +kernel
theorem dX1_isWished_12 : decode cX1_isWished 12 = .ok (.getfield 45, 3) := by decide +kernel
theorem dX1_isWished_15 : decode cX1_isWished 15 = .ok (.iload_n 2, 1) := by decide +kernel
theorem dX1_isWished_16 : decode cX1_isWished 16 = .ok (.iaload, 1) := by decide +kernel
theorem dX1_isWished_17 : decode cX1_isWished 17 = .ok (.iload_n 1, 1) := by decide +kernel
theorem dX1_isWished_18 : decode cX1_isWished 18 = .ok (.ishr, 1) := by decide +kernel
theorem dX1_isWished_19 : decode cX1_isWished 19 = .ok (.iconst 1, 1) := by decide +kernel
theorem dX1_isWished_20 : decode cX1_isWished 20 = .ok (.iand, 1) := by decide +kernel
theorem dX1_isWished_21 : decode cX1_isWished 21 = .ok (.ifCond .eq 7, 3) := by decide +kernel
theorem dX1_isWished_24 : decode cX1_isWished 24 = .ok (.iconst 1, 1) := by decide +kernel
theorem dX1_isWished_25 : decode cX1_isWished 25 = .ok (.goto 4, 3) := by decide +kernel
theorem dX1_isWished_28 : decode cX1_isWished 28 = .ok (.iconst 0, 1) := by decide +kernel
theorem dX1_isWished_29 : decode cX1_isWished 29 = .ok (.ireturn, 1) := by decide +kernel
theorem dX1_addWish_0 : decode cX1_addWish 0 = .ok (.aload_n 0, 1) := by decide +kernel
theorem dX1_addWish_1 : decode cX1_addWish 1 = .ok (.getfield 20, 3) := by decide +kernel
theorem dX1_addWish_4 : decode cX1_addWish 4 = .ok (.iload_n 1, 1) := by decide +kernel
theorem dX1_addWish_5 : decode cX1_addWish 5 = .ok (.invokevirtual 97, 3) := by decide +kernel
theorem dX1_addWish_8 : decode cX1_addWish 8 = .ok (.ifCond .eq 14, 3) := by decide +kernel
theorem dX1_addWish_11 : decode cX1_addWish 11 = .ok (.aload_n 0, 1) := by decide +kernel
theorem dX1_addWish_12 : decode cX1_addWish 12 = .ok (.getfield 23, 3) := by decide +kernel
theorem dX1_addWish_15 : decode cX1_addWish 15 = .ok (.iload_n 2, 1) := by decide +kernel
theorem dX1_addWish_16 : decode cX1_addWish 16 = .ok (.invokevirtual 97, 3) := by decide +kernel
theorem dX1_addWish_19 : decode cX1_addWish 19 = .ok (.ifCond .ne 4, 3) := by decide +kernel
theorem dX1_addWish_22 : decode cX1_addWish 22 = .ok (.return_, 1) := by decide +kernel
theorem dX1_addWish_23 : decode cX1_addWish 23 = .ok (.aload_n 0, 1) := by decide +kernel
theorem dX1_addWish_24 : decode cX1_addWish 24 = .ok (.dup, 1) := by decide +kernel
theorem dX1_addWish_25 : decode cX1_addWish 25 = .ok (.getfield 77, 3) := by decide +kernel
theorem dX1_addWish_28 : decode cX1_addWish 28 = .ok (.iconst 1, 1) := by decide +kernel
theorem dX1_addWish_29 : decode cX1_addWish 29 = .ok (.iadd, 1) := by decide +kernel
theorem dX1_addWish_30 : decode cX1_addWish 30 = .ok (.putfield 77, 3) := by decide +kernel
theorem dX1_addWish_33 : decode cX1_addWish 33 = .ok (.aload_n 0, 1) := by decide +kernel
theorem dX1_addWish_34 : decode cX1_addWish 34 = .ok (.getfield 45, 3) := by decide +kernel
theorem dX1_addWish_37 : decode cX1_addWish 37 = .ok (.iload_n 2, 1) := by decide +kernel
theorem dX1_addWish_38 : decode cX1_addWish 38 = .ok (.dup2, 1) := by decide +kernel
theorem dX1_addWish_39 : decode cX1_addWish 39 = .ok (.iaload, 1) := by decide +kernel
theorem dX1_addWish_40 : decode cX1_addWish 40 = .ok (.iconst 1, 1) := by decide +kernel
theorem dX1_addWish_41 : decode cX1_addWish 41 = .ok (.iload_n 1, 1) := by decide +kernel
theorem dX1_addWish_42 : decode cX1_addWish 42 = .ok (.ishl, 1) := by decide +kernel
theorem dX1_addWish_43 : decode cX1_addWish 43 = .ok (.ior, 1) := by decide +kernel
theorem dX1_addWish_44 : decode cX1_addWish 44 = .ok (.iastore, 1) := by decide +kernel
theorem dX1_addWish_45 : decode cX1_addWish 45 = .ok (.aload_n 0, 1) := by decide +kernel
theorem dX1_addWish_46 : decode cX1_addWish 46 = .ok (.getfield 36, 3) := by decide +kernel
theorem dX1_addWish_49 : decode cX1_addWish 49 = .ok (.iload_n 2, 1) := by decide +kernel
theorem dX1_addWish_50 : decode cX1_addWish 50 = .ok (.dup2, 1) := by decide +kernel
theorem dX1_addWish_51 : decode cX1_addWish 51 = .ok (.iaload, 1) := by decide +kernel
theorem dX1_addWish_52 : decode cX1_addWish 52 = .ok (.iload_n 3, 1) := by decide +kernel
theorem dX1_addWish_53 : decode cX1_addWish 53 = .ok (.iadd, 1) := by decide +kernel
theorem dX1_addWish_54 : decode cX1_addWish 54 = .ok (.iastore, 1) := by decide +kernel
theorem dX1_addWish_55 : decode cX1_addWish 55 = .ok (.iload_n 3, 1) := by decide +kernel
theorem dX1_addWish_56 : decode cX1_addWish 56 = .ok (.ifCond .le 15, 3) := by decide +kernel
theorem dX1_addWish_59 : decode cX1_addWish 59 = .ok (.aload_n 0, 1) := by decide +kernel
theorem dX1_addWish_60 : decode cX1_addWish 60 = .ok (.getfield 39, 3) := by decide +kernel
theorem dX1_addWish_63 : decode cX1_addWish 63 = .ok (.iload_n 2, 1) := by decide +kernel
theorem dX1_addWish_64 : decode cX1_addWish 64 = .ok (.dup2, 1) := by decide +kernel
theorem dX1_addWish_65 : decode cX1_addWish 65 = .ok (.iaload, 1) := by decide +kernel
theorem dX1_addWish_66 : decode cX1_addWish 66 = .ok (.iconst 1, 1) := by decide +kernel
theorem dX1_addWish_67 : decode cX1_addWish 67 = .ok (.iload_n 1, 1) := by decide +kernel
theorem dX1_addWish_68 : decode cX1_addWish 68 = .ok (.ishl, 1) := by decide +kernel
theorem dX1_addWish_69 : decode cX1_addWish 69 = .ok (.ior, 1) := by decide +kernel
theorem dX1_addWish_70 : decode cX1_addWish 70 = .ok (.iastore, 1) := by decide +kernel
theorem dX1_addWish_71 : decode cX1_addWish 71 = .ok (.iload_n 3, 1) := by decide +kernel
theorem dX1_addWish_72 : decode cX1_addWish 72 = .ok (.ifCond .ge 15, 3) := by decide +kernel
theorem dX1_addWish_75 : decode cX1_addWish 75 = .ok (.aload_n 0, 1) := by decide +kernel
theorem dX1_addWish_76 : decode cX1_addWish 76 = .ok (.getfield 42, 3) := by decide +kernel
theorem dX1_addWish_79 : decode cX1_addWish 79 = .ok (.iload_n 2, 1) := by decide +kernel
theorem dX1_addWish_80 : decode cX1_addWish 80 = .ok (.dup2, 1) := by decide +kernel
theorem dX1_addWish_81 : decode cX1_addWish 81 = .ok (.iaload, 1) := by decide +kernel
theorem dX1_addWish_82 : decode cX1_addWish 82 = .ok (.iconst 1, 1) := by decide +kernel
theorem dX1_addWish_83 : decode cX1_addWish 83 = .ok (.iload_n 1, 1) := by decide +kernel
theorem dX1_addWish_84 : decode cX1_addWish 84 = .ok (.ishl, 1) := by decide +kernel
theorem dX1_addWish_85 : decode cX1_addWish 85 = .ok (.ior, 1) := by decide +kernel
theorem dX1_addWish_86 : decode cX1_addWish 86 = .ok (.iastore, 1) := by decide +kernel
theorem dX1_addWish_87 : decode cX1_addWish 87 = .ok (.return_, 1) := by decide +kernel
theorem dX1_addDeal_0 : decode cX1_addDeal 0 = .ok (.aload_n 0, 1) := by decide +kernel
theorem dX1_addDeal_1 : decode cX1_addDeal 1 = .ok (.getfield 80, 3) := by decide +kernel
theorem dX1_addDeal_4 : decode cX1_addDeal 4 = .ok (.iconst 4, 1) := by decide +kernel
theorem dX1_addDeal_5 : decode cX1_addDeal 5 = .ok (.if_icmp .ge 48, 3) := by decide +kernel
theorem dX1_addDeal_8 : decode cX1_addDeal 8 = .ok (.aload_n 0, 1) := by decide +kernel
theorem dX1_addDeal_9 : decode cX1_addDeal 9 = .ok (.getfield 20, 3) := by decide +kernel
theorem dX1_addDeal_12 : decode cX1_addDeal 12 = .ok (.iload_n 1, 1) := by decide +kernel
theorem dX1_addDeal_13 : decode cX1_addDeal 13 = .ok (.invokevirtual 97, 3) := by decide +kernel
theorem dX1_addDeal_16 : decode cX1_addDeal 16 = .ok (.ifCond .eq 37, 3) := by decide +kernel
theorem dX1_addDeal_19 : decode cX1_addDeal 19 = .ok (.aload_n 0, 1) := by decide +kernel
theorem dX1_addDeal_20 : decode cX1_addDeal 20 = .ok (.getfield 23, 3) := by decide +kernel
theorem dX1_addDeal_23 : decode cX1_addDeal 23 = .ok (.iload_n 2, 1) := by decide +kernel
theorem dX1_addDeal_24 : decode cX1_addDeal 24 = .ok (.invokevirtual 97, 3) := by decide +kernel
theorem dX1_addDeal_27 : decode cX1_addDeal 27 = .ok (.ifCond .eq 26, 3) := by decide +kernel
theorem dX1_addDeal_30 : decode cX1_addDeal 30 = .ok (.aload_n 0, 1) := by decide +kernel
theorem dX1_addDeal_31 : decode cX1_addDeal 31 = .ok (.getfield 20, 3) := by decide +kernel
theorem dX1_addDeal_34 : decode cX1_addDeal 34 = .ok (.iload_n 3, 1) := by decide +kernel
theorem dX1_addDeal_35 : decode cX1_addDeal 35 = .ok (.invokevirtual 97, 3) := by decide +kernel
theorem dX1_addDeal_38 : decode cX1_addDeal 38 = .ok (.ifCond .eq 15, 3) := by decide +kernel
theorem dX1_addDeal_41 : decode cX1_addDeal 41 = .ok (.aload_n 0, 1) := by decide +kernel
theorem dX1_addDeal_42 : decode cX1_addDeal 42 = .ok (.getfield 23, 3) := by decide +kernel
theorem dX1_addDeal_45 : decode cX1_addDeal 45 = .ok (.iload 4, 2) := by decide +kernel
theorem dX1_addDeal_47 : decode cX1_addDeal 47 = .ok (.invokevirtual 97, 3) := by decide +kernel
theorem dX1_addDeal_50 : decode cX1_addDeal 50 = .ok (.ifCond .ne 4, 3) := by decide +kernel
theorem dX1_addDeal_53 : decode cX1_addDeal 53 = .ok (.return_, 1) := by decide +kernel
theorem dX1_addDeal_54 : decode cX1_addDeal 54 = .ok (.aload_n 0, 1) := by decide +kernel
theorem dX1_addDeal_55 : decode cX1_addDeal 55 = .ok (.getfield 48, 3) := by decide +kernel
theorem dX1_addDeal_58 : decode cX1_addDeal 58 = .ok (.aload_n 0, 1) := by decide +kernel
theorem dX1_addDeal_59 : decode cX1_addDeal 59 = .ok (.getfield 80, 3) := by decide +kernel
theorem dX1_addDeal_62 : decode cX1_addDeal 62 = .ok (.iload_n 1, 1) := by decide +kernel
theorem dX1_addDeal_63 : decode cX1_addDeal 63 = .ok (.iastore, 1) := by decide +kernel
theorem dX1_addDeal_64 : decode cX1_addDeal 64 = .ok (.aload_n 0, 1) := by decide +kernel
theorem dX1_addDeal_65 : decode cX1_addDeal 65 = .ok (.getfield 51, 3) := by decide +kernel
theorem dX1_addDeal_68 : decode cX1_addDeal 68 = .ok (.aload_n 0, 1) := by decide +kernel
theorem dX1_addDeal_69 : decode cX1_addDeal 69 = .ok (.getfield 80, 3) := by decide +kernel
theorem dX1_addDeal_72 : decode cX1_addDeal 72 = .ok (.iload_n 2, 1) := by decide +kernel
theorem dX1_addDeal_73 : decode cX1_addDeal 73 = .ok (.iastore, 1) := by decide +kernel
theorem dX1_addDeal_74 : decode cX1_addDeal 74 = .ok (.aload_n 0, 1) := by decide +kernel
theorem dX1_addDeal_75 : decode cX1_addDeal 75 = .ok (.getfield 54, 3) := by decide +kernel
theorem dX1_addDeal_78 : decode cX1_addDeal 78 = .ok (.aload_n 0, 1) := by decide +kernel
theorem dX1_addDeal_79 : decode cX1_addDeal 79 = .ok (.getfield 80, 3) := by decide +kernel
theorem dX1_addDeal_82 : decode cX1_addDeal 82 = .ok (.iload_n 3, 1) := by decide +kernel
theorem dX1_addDeal_83 : decode cX1_addDeal 83 = .ok (.iastore, 1) := by decide +kernel
theorem dX1_addDeal_84 : decode cX1_addDeal 84 = .ok (.aload_n 0, 1) := by decide +kernel
theorem dX1_addDeal_85 : decode cX1_addDeal 85 = .ok (.getfield 57, 3) := by decide +kernel
theorem dX1_addDeal_88 : decode cX1_addDeal 88 = .ok (.aload_n 0, 1) := by decide +kernel
theorem dX1_addDeal_89 : decode cX1_addDeal 89 = .ok (.getfield 80, 3) := by decide +kernel
theorem dX1_addDeal_92 : decode cX1_addDeal 92 = .ok (.iload 4, 2) := by decide +kernel
theorem dX1_addDeal_94 : decode cX1_addDeal 94 = .ok (.iastore, 1) := by decide +kernel
theorem dX1_addDeal_95 : decode cX1_addDeal 95 = .ok (.aload_n 0, 1) := by decide +kernel
theorem dX1_addDeal_96 : decode cX1_addDeal 96 = .ok (.dup, 1) := by decide +kernel
theorem dX1_addDeal_97 : decode cX1_addDeal 97 = .ok (.getfield 80, 3) := by decide +kernel
theorem dX1_addDeal_100 : decode cX1_addDeal 100 = .ok (.iconst 1, 1) := by decide +kernel
theorem dX1_addDeal_101 : decode cX1_addDeal 101 = .ok (.iadd, 1) := by decide +kernel
theorem dX1_addDeal_102 : decode cX1_addDeal 102 = .ok (.putfield 80, 3) := by decide +kernel
theorem dX1_addDeal_105 : decode cX1_addDeal 105 = .ok (.return_, 1) := by decide +kernel
theorem dX1_isStool_0 : decode cX1_isStool 0 = .ok (.aload_n 0, 1) := by decide +kernel
theorem dX1_isStool_1 : decode cX1_isStool 1 = .ok (.getfield 14, 3) := by decide +kernel
theorem dX1_isStool_4 : decode cX1_isStool 4 = .ok (.iload_n 1, 1) := by decide +kernel
theorem dX1_isStool_5 : decode cX1_isStool 5 = .ok (.invokevirtual 97, 3) := by decide +kernel
theorem dX1_isStool_8 : decode cX1_isStool 8 = .ok (.ifCond .eq 18, 3) := by decide +kernel
theorem dX1_isStool_11 : decode cX1_isStool 11 = .ok (.aload_n 0, 1) := by decide +kernel
theorem dX1_isStool_12 : decode cX1_isStool 12 = .ok (.getfield 71, 3) := by decide +kernel
theorem dX1_isStool_15 : decode cX1_isStool 15 = .ok (.iload_n 1, 1) := by decide +kernel
theorem dX1_isStool_16 : decode cX1_isStool 16 = .ok (.ishr, 1) := by decide +kernel
theorem dX1_isStool_17 : decode cX1_isStool 17 = .ok (.iconst 1, 1) := by decide +kernel
theorem dX1_isStool_18 : decode cX1_isStool 18 = .ok (.iand, 1) := by decide +kernel
theorem dX1_isStool_19 : decode cX1_isStool 19 = .ok (.ifCond .eq 7, 3) := by decide +kernel
theorem dX1_isStool_22 : decode cX1_isStool 22 = .ok (.iconst 1, 1) := by decide +kernel
theorem dX1_isStool_23 : decode cX1_isStool 23 = .ok (.goto 4, 3) := by decide +kernel
theorem dX1_isStool_26 : decode cX1_isStool 26 = .ok (.iconst 0, 1) := by decide +kernel
theorem dX1_isStool_27 : decode cX1_isStool 27 = .ok (.ireturn, 1) := by decide +kernel
theorem dX1_boundMen_0 : decode cX1_boundMen 0 = .ok (.iconst 0, 1) := by decide +kernel
theorem dX1_boundMen_1 : decode cX1_boundMen 1 = .ok (.istore_n 3, 1) := by decide +kernel
theorem dX1_boundMen_2 : decode cX1_boundMen 2 = .ok (.iconst 0, 1) := by decide +kernel
theorem dX1_boundMen_3 : decode cX1_boundMen 3 = .ok (.istore 4, 2) := by decide +kernel
theorem dX1_boundMen_5 : decode cX1_boundMen 5 = .ok (.iload 4, 2) := by decide +kernel
theorem dX1_boundMen_7 : decode cX1_boundMen 7 = .ok (.aload_n 0, 1) := by decide +kernel
theorem dX1_boundMen_8 : decode cX1_boundMen 8 = .ok (.getfield 80, 3) := by decide +kernel
theorem dX1_boundMen_11 : decode cX1_boundMen 11 = .ok (.if_icmp .ge 47, 3) := by decide +kernel
theorem dX1_boundMen_14 : decode cX1_boundMen 14 = .ok (.iload 4, 2) := by decide +kernel
theorem dX1_boundMen_16 : decode cX1_boundMen 16 = .ok (.iconst 4, 1) := by decide +kernel
theorem dX1_boundMen_17 : decode cX1_boundMen 17 = .ok (.if_icmp .ge 41, 3) := by decide +kernel
theorem dX1_boundMen_20 : decode cX1_boundMen 20 = .ok (.aload_n 0, 1) := by decide +kernel
theorem dX1_boundMen_21 : decode cX1_boundMen 21 = .ok (.getfield 51, 3) := by decide +kernel
theorem dX1_boundMen_24 : decode cX1_boundMen 24 = .ok (.iload 4, 2) := by decide +kernel
theorem dX1_boundMen_26 : decode cX1_boundMen 26 = .ok (.iaload, 1) := by decide +kernel
theorem dX1_boundMen_27 : decode cX1_boundMen 27 = .ok (.iload_n 1, 1) := by decide +kernel
theorem dX1_boundMen_28 : decode cX1_boundMen 28 = .ok (.if_icmp .ne 24, 3) := by decide +kernel
theorem dX1_boundMen_31 : decode cX1_boundMen 31 = .ok (.iload_n 2, 1) := by decide +kernel
theorem dX1_boundMen_32 : decode cX1_boundMen 32 = .ok (.iload 4, 2) := by decide +kernel
theorem dX1_boundMen_34 : decode cX1_boundMen 34 = .ok (.ishr, 1) := by decide +kernel
theorem dX1_boundMen_35 : decode cX1_boundMen 35 = .ok (.iconst 1, 1) := by decide +kernel
theorem dX1_boundMen_36 : decode cX1_boundMen 36 = .ok (.iand, 1) := by decide +kernel
theorem dX1_boundMen_37 : decode cX1_boundMen 37 = .ok (.ifCond .eq 15, 3) := by decide +kernel
theorem dX1_boundMen_40 : decode cX1_boundMen 40 = .ok (.iload_n 3, 1) := by decide +kernel
theorem dX1_boundMen_41 : decode cX1_boundMen 41 = .ok (.iconst 1, 1) := by decide +kernel
theorem dX1_boundMen_42 : decode cX1_boundMen 42 = .ok (.aload_n 0, 1) := by decide +kernel
theorem dX1_boundMen_43 : decode cX1_boundMen 43 = .ok (.getfield 48, 3) := by decide +kernel
theorem dX1_boundMen_46 : decode cX1_boundMen 46 = .ok (.iload 4, 2) := by decide +kernel
theorem dX1_boundMen_48 : decode cX1_boundMen 48 = .ok (.iaload, 1) := by decide +kernel
theorem dX1_boundMen_49 : decode cX1_boundMen 49 = .ok (.ishl, 1) := by decide +kernel
theorem dX1_boundMen_50 : decode cX1_boundMen 50 = .ok (.ior, 1) := by decide +kernel
theorem dX1_boundMen_51 : decode cX1_boundMen 51 = .ok (.istore_n 3, 1) := by decide +kernel
theorem dX1_boundMen_52 : decode cX1_boundMen 52 = .ok (.iinc 4 1, 3) := by decide +kernel
theorem dX1_boundMen_55 : decode cX1_boundMen 55 = .ok (.goto (-50), 3) := by decide +kernel
theorem dX1_boundMen_58 : decode cX1_boundMen 58 = .ok (.iload_n 3, 1) := by decide +kernel
theorem dX1_boundMen_59 : decode cX1_boundMen 59 = .ok (.ireturn, 1) := by decide +kernel
theorem dX2_init_0 : decode cX2_init 0 = .ok (.aload_n 0, 1) := by decide +kernel
theorem dX2_init_1 : decode cX2_init 1 = .ok (.invokespecial 3, 3) := by decide +kernel
theorem dX2_init_4 : decode cX2_init 4 = .ok (.aload_n 0, 1) := by decide +kernel
theorem dX2_init_5 : decode cX2_init 5 = .ok (.iload_n 1, 1) := by decide +kernel
theorem dX2_init_6 : decode cX2_init 6 = .ok (.iconst 0, 1) := by decide +kernel
theorem dX2_init_7 : decode cX2_init 7 = .ok (.invokestatic 9, 3) := by decide +kernel
theorem dX2_init_10 : decode cX2_init 10 = .ok (.newarray .long, 2) := by decide +kernel
theorem dX2_init_12 : decode cX2_init 12 = .ok (.putfield 15, 3) := by decide +kernel
theorem dX2_init_15 : decode cX2_init 15 = .ok (.return_, 1) := by decide +kernel
theorem dX2_isFull_0 : decode cX2_isFull 0 = .ok (.aload_n 0, 1) := by decide +kernel
theorem dX2_isFull_1 : decode cX2_isFull 1 = .ok (.getfield 21, 3) := by decide +kernel
theorem dX2_isFull_4 : decode cX2_isFull 4 = .ok (.aload_n 0, 1) := by decide +kernel
theorem dX2_isFull_5 : decode cX2_isFull 5 = .ok (.getfield 15, 3) := by decide +kernel
theorem dX2_isFull_8 : decode cX2_isFull 8 = .ok (.arraylength, 1) := by decide +kernel
theorem dX2_isFull_9 : decode cX2_isFull 9 = .ok (.if_icmp .lt 7, 3) := by decide +kernel
theorem dX2_isFull_12 : decode cX2_isFull 12 = .ok (.iconst 1, 1) := by decide +kernel
theorem dX2_isFull_13 : decode cX2_isFull 13 = .ok (.goto 4, 3) := by decide +kernel
theorem dX2_isFull_16 : decode cX2_isFull 16 = .ok (.iconst 0, 1) := by decide +kernel
theorem dX2_isFull_17 : decode cX2_isFull 17 = .ok (.ireturn, 1) := by decide +kernel
theorem dX2_has_0 : decode cX2_has 0 = .ok (.iload_n 1, 1) := by decide +kernel
theorem dX2_has_1 : decode cX2_has 1 = .ok (.ifCond .lt 15, 3) := by decide +kernel
theorem dX2_has_4 : decode cX2_has 4 = .ok (.iload_n 1, 1) := by decide +kernel
theorem dX2_has_5 : decode cX2_has 5 = .ok (.aload_n 0, 1) := by decide +kernel
theorem dX2_has_6 : decode cX2_has 6 = .ok (.getfield 21, 3) := by decide +kernel
theorem dX2_has_9 : decode cX2_has 9 = .ok (.if_icmp .ge 7, 3) := by decide +kernel
theorem dX2_has_12 : decode cX2_has 12 = .ok (.iconst 1, 1) := by decide +kernel
theorem dX2_has_13 : decode cX2_has 13 = .ok (.goto 4, 3) := by decide +kernel
theorem dX2_has_16 : decode cX2_has 16 = .ok (.iconst 0, 1) := by decide +kernel
theorem dX2_has_17 : decode cX2_has 17 = .ok (.ireturn, 1) := by decide +kernel
theorem dX2_find_0 : decode cX2_find 0 = .ok (.iconst 0, 1) := by decide +kernel
theorem dX2_find_1 : decode cX2_find 1 = .ok (.istore_n 3, 1) := by decide +kernel
theorem dX2_find_2 : decode cX2_find 2 = .ok (.iload_n 3, 1) := by decide +kernel
theorem dX2_find_3 : decode cX2_find 3 = .ok (.aload_n 0, 1) := by decide +kernel
theorem dX2_find_4 : decode cX2_find 4 = .ok (.getfield 21, 3) := by decide +kernel
theorem dX2_find_7 : decode cX2_find 7 = .ok (.if_icmp .ge 31, 3) := by decide +kernel
theorem dX2_find_10 : decode cX2_find 10 = .ok (.iload_n 3, 1) := by decide +kernel
theorem dX2_find_11 : decode cX2_find 11 = .ok (.aload_n 0, 1) := by decide +kernel
theorem dX2_find_12 : decode cX2_find 12 = .ok (.getfield 15, 3) := by decide +kernel
theorem dX2_find_15 : decode cX2_find 15 = .ok (.arraylength, 1) := by decide +kernel
theorem dX2_find_16 : decode cX2_find 16 = .ok (.if_icmp .ge 22, 3) := by decide +kernel
theorem dX2_find_19 : decode cX2_find 19 = .ok (.aload_n 0, 1) := by decide +kernel
theorem dX2_find_20 : decode cX2_find 20 = .ok (.getfield 15, 3) := by decide +kernel
theorem dX2_find_23 : decode cX2_find 23 = .ok (.iload_n 3, 1) := by decide +kernel
theorem dX2_find_24 : decode cX2_find 24 = .ok (.laload, 1) := by decide +kernel
theorem dX2_find_25 : decode cX2_find 25 = .ok (.lload_n 1, 1) := by decide +kernel
theorem dX2_find_26 : decode cX2_find 26 = .ok (.lcmp, 1) := by decide +kernel
theorem dX2_find_27 : decode cX2_find 27 = .ok (.ifCond .ne 5, 3) := by decide +kernel
theorem dX2_find_30 : decode cX2_find 30 = .ok (.iload_n 3, 1) := by decide +kernel
theorem dX2_find_31 : decode cX2_find 31 = .ok (.ireturn, 1) := by decide +kernel
theorem dX2_find_32 : decode cX2_find 32 = .ok (.iinc 3 1, 3) := by decide +kernel
theorem dX2_find_35 : decode cX2_find 35 = .ok (.goto (-33), 3) := by decide +kernel
theorem dX2_find_38 : decode cX2_find 38 = .ok (.iconst (-1), 1) := by decide +kernel
theorem dX2_find_39 : decode cX2_find 39 = .ok (.ireturn, 1) := by decide +kernel
theorem dX2_add_0 : decode cX2_add 0 = .ok (.aload_n 0, 1) := by decide +kernel
theorem dX2_add_1 : decode cX2_add 1 = .ok (.invokevirtual 25, 3) := by decide +kernel
theorem dX2_add_4 : decode cX2_add 4 = .ok (.ifCond .ne 23, 3) := by decide +kernel
theorem dX2_add_7 : decode cX2_add 7 = .ok (.aload_n 0, 1) := by decide +kernel
theorem dX2_add_8 : decode cX2_add 8 = .ok (.getfield 15, 3) := by decide +kernel
theorem dX2_add_11 : decode cX2_add 11 = .ok (.aload_n 0, 1) := by decide +kernel
theorem dX2_add_12 : decode cX2_add 12 = .ok (.getfield 21, 3) := by decide +kernel
theorem dX2_add_15 : decode cX2_add 15 = .ok (.lload_n 1, 1) := by decide +kernel
theorem dX2_add_16 : decode cX2_add 16 = .ok (.lastore, 1) := by decide +kernel
theorem dX2_add_17 : decode cX2_add 17 = .ok (.aload_n 0, 1) := by decide +kernel
theorem dX2_add_18 : decode cX2_add 18 = .ok (.dup, 1) := by decide +kernel
theorem dX2_add_19 : decode cX2_add 19 = .ok (.getfield 21, 3) := by decide +kernel
theorem dX2_add_22 : decode cX2_add 22 = .ok (.iconst 1, 1) := by decide +kernel
theorem dX2_add_23 : decode cX2_add 23 = .ok (.iadd, 1) := by decide +kernel
theorem dX2_add_24 : decode cX2_add 24 = .ok (.putfield 21, 3) := by decide +kernel
theorem dX2_add_27 : decode cX2_add 27 = .ok (.return_, 1) := by decide +kernel
theorem dX5_init_0 : decode cX5_init 0 = .ok (.aload_n 0, 1) := by decide +kernel
theorem dX5_init_1 : decode cX5_init 1 = .ok (.invokespecial 3, 3) := by decide +kernel
theorem dX5_init_4 : decode cX5_init 4 = .ok (.aload_n 0, 1) := by decide +kernel
theorem dX5_init_5 : decode cX5_init 5 = .ok (.sipush 400, 3) := by decide +kernel
theorem dX5_init_8 : decode cX5_init 8 = .ok (.newarray .int, 2) := by decide +kernel
theorem dX5_init_10 : decode cX5_init 10 = .ok (.putfield 11, 3) := by decide +kernel
theorem dX5_init_13 : decode cX5_init 13 = .ok (.aload_n 0, 1) := by decide +kernel
theorem dX5_init_14 : decode cX5_init 14 = .ok (.bipush 42, 2) := by decide +kernel
theorem dX5_init_16 : decode cX5_init 16 = .ok (.newarray .int, 2) := by decide +kernel
theorem dX5_init_18 : decode cX5_init 18 = .ok (.putfield 15, 3) := by decide +kernel
theorem dX5_init_21 : decode cX5_init 21 = .ok (.aload_n 0, 1) := by decide +kernel
theorem dX5_init_22 : decode cX5_init 22 = .ok (.invokevirtual 18, 3) := by decide +kernel
theorem dX5_init_25 : decode cX5_init 25 = .ok (.return_, 1) := by decide +kernel
theorem dX5_clear_0 : decode cX5_clear 0 = .ok (.aload_n 0, 1) := by decide +kernel
theorem dX5_clear_1 : decode cX5_clear 1 = .ok (.iconst 0, 1) := by decide +kernel
theorem dX5_clear_2 : decode cX5_clear 2 = .ok (.putfield 21, 3) := by decide +kernel
theorem dX5_clear_5 : decode cX5_clear 5 = .ok (.aload_n 0, 1) := by decide +kernel
theorem dX5_clear_6 : decode cX5_clear 6 = .ok (.iconst 0, 1) := by decide +kernel
theorem dX5_clear_7 : decode cX5_clear 7 = .ok (.putfield 25, 3) := by decide +kernel
theorem dX5_clear_10 : decode cX5_clear 10 = .ok (.aload_n 0, 1) := by decide +kernel
theorem dX5_clear_11 : decode cX5_clear 11 = .ok (.getfield 11, 3) := by decide +kernel
theorem dX5_clear_14 : decode cX5_clear 14 = .ok (.iconst 0, 1) := by decide +kernel
theorem dX5_clear_15 : decode cX5_clear 15 = .ok (.sipush 10144, 3) := by decide +kernel
theorem dX5_clear_18 : decode cX5_clear 18 = .ok (.iastore, 1) := by decide +kernel
theorem dX5_clear_19 : decode cX5_clear 19 = .ok (.aload_n 0, 1) := by decide +kernel
theorem dX5_clear_20 : decode cX5_clear 20 = .ok (.getfield 11, 3) := by decide +kernel
theorem dX5_clear_23 : decode cX5_clear 23 = .ok (.iconst 1, 1) := by decide +kernel
theorem dX5_clear_24 : decode cX5_clear 24 = .ok (.sipush 10145, 3) := by decide +kernel
theorem dX5_clear_27 : decode cX5_clear 27 = .ok (.iastore, 1) := by decide +kernel
theorem dX5_clear_28 : decode cX5_clear 28 = .ok (.aload_n 0, 1) := by decide +kernel
theorem dX5_clear_29 : decode cX5_clear 29 = .ok (.getfield 11, 3) := by decide +kernel
theorem dX5_clear_32 : decode cX5_clear 32 = .ok (.iconst 2, 1) := by decide +kernel
theorem dX5_clear_33 : decode cX5_clear 33 = .ok (.sipush 10062, 3) := by decide +kernel
theorem dX5_clear_36 : decode cX5_clear 36 = .ok (.iastore, 1) := by decide +kernel
theorem dX5_clear_37 : decode cX5_clear 37 = .ok (.aload_n 0, 1) := by decide +kernel
theorem dX5_clear_38 : decode cX5_clear 38 = .ok (.iconst 3, 1) := by decide +kernel
theorem dX5_clear_39 : decode cX5_clear 39 = .ok (.putfield 31, 3) := by decide +kernel
theorem dX5_clear_42 : decode cX5_clear 42 = .ok (.return_, 1) := by decide +kernel
theorem dX5_begin_0 : decode cX5_begin 0 = .ok (.aload_n 0, 1) := by decide +kernel
theorem dX5_begin_1 : decode cX5_begin 1 = .ok (.iconst 1, 1) := by decide +kernel
theorem dX5_begin_2 : decode cX5_begin 2 = .ok (.putfield 21, 3) := by decide +kernel
theorem dX5_begin_5 : decode cX5_begin 5 = .ok (.aload_n 0, 1) := by decide +kernel
theorem dX5_begin_6 : decode cX5_begin 6 = .ok (.iconst 0, 1) := by decide +kernel
theorem dX5_begin_7 : decode cX5_begin 7 = .ok (.putfield 25, 3) := by decide +kernel
theorem dX5_begin_10 : decode cX5_begin 10 = .ok (.aload_n 0, 1) := by decide +kernel
theorem dX5_begin_11 : decode cX5_begin 11 = .ok (.iconst 0, 1) := by decide +kernel
theorem dX5_begin_12 : decode cX5_begin 12 = .ok (.putfield 31, 3) := by decide +kernel
theorem dX5_begin_15 : decode cX5_begin 15 = .ok (.return_, 1) := by decide +kernel
theorem dX5_addNumber_0 : decode cX5_addNumber 0 = .ok (.aload_n 0, 1) := by decide +kernel
theorem dX5_addNumber_1 : decode cX5_addNumber 1 = .ok (.getfield 31, 3) := by decide +kernel
theorem dX5_addNumber_4 : decode cX5_addNumber 4 = .ok (.sipush 400, 3) := by decide +kernel
theorem dX5_addNumber_7 : decode cX5_addNumber 7 = .ok (.if_icmp .ge 23, 3) := by decide +kernel
theorem dX5_addNumber_10 : decode cX5_addNumber 10 = .ok (.aload_n 0, 1) := by decide +kernel
theorem dX5_addNumber_11 : decode cX5_addNumber 11 = .ok (.getfield 11, 3) := by decide +kernel
theorem dX5_addNumber_14 : decode cX5_addNumber 14 = .ok (.aload_n 0, 1) := by decide +kernel
theorem dX5_addNumber_15 : decode cX5_addNumber 15 = .ok (.getfield 31, 3) := by decide +kernel
theorem dX5_addNumber_18 : decode cX5_addNumber 18 = .ok (.iload_n 1, 1) := by decide +kernel
theorem dX5_addNumber_19 : decode cX5_addNumber 19 = .ok (.iastore, 1) := by decide +kernel
theorem dX5_addNumber_20 : decode cX5_addNumber 20 = .ok (.aload_n 0, 1) := by decide +kernel
theorem dX5_addNumber_21 : decode cX5_addNumber 21 = .ok (.dup, 1) := by decide +kernel
theorem dX5_addNumber_22 : decode cX5_addNumber 22 = .ok (.getfield 31, 3) := by decide +kernel
theorem dX5_addNumber_25 : decode cX5_addNumber 25 = .ok (.iconst 1, 1) := by decide +kernel
theorem dX5_addNumber_26 : decode cX5_addNumber 26 = .ok (.iadd, 1) := by decide +kernel
theorem dX5_addNumber_27 : decode cX5_addNumber 27 = .ok (.putfield 31, 3) := by decide +kernel
theorem dX5_addNumber_30 : decode cX5_addNumber 30 = .ok (.return_, 1) := by decide +kernel
theorem dX5_addToken_0 : decode cX5_addToken 0 = .ok (.aload_n 0, 1) := by decide +kernel
theorem dX5_addToken_1 : decode cX5_addToken 1 = .ok (.sipush 10000, 3) := by decide +kernel
theorem dX5_addToken_4 : decode cX5_addToken 4 = .ok (.iload_n 1, 1) := by decide +kernel
theorem dX5_addToken_5 : decode cX5_addToken 5 = .ok (.iadd, 1) := by decide +kernel
theorem dX5_addToken_6 : decode cX5_addToken 6 = .ok (.invokevirtual 34, 3) := by decide +kernel
theorem dX5_addToken_9 : decode cX5_addToken 9 = .ok (.return_, 1) := by decide +kernel
theorem dX5_passes_0 : decode cX5_passes 0 = .ok (.iconst 0, 1) := by decide +kernel
theorem dX5_passes_1 : decode cX5_passes 1 = .ok (.istore 5, 2) := by decide +kernel
theorem dX5_passes_3 : decode cX5_passes 3 = .ok (.iconst 0, 1) := by decide +kernel
theorem dX5_passes_4 : decode cX5_passes 4 = .ok (.istore 6, 2) := by decide +kernel
theorem dX5_passes_6 : decode cX5_passes 6 = .ok (.iload 6, 2) := by decide +kernel
theorem dX5_passes_8 : decode cX5_passes 8 = .ok (.aload_n 0, 1) := by decide +kernel
theorem dX5_passes_9 : decode cX5_passes 9 = .ok (.getfield 31, 3) := by decide +kernel
theorem dX5_passes_12 : decode cX5_passes 12 = .ok (.if_icmp .ge 153, 3) := by decide +kernel
theorem dX5_passes_15 : decode cX5_passes 15 = .ok (.iload 6, 2) := by decide +kernel
theorem dX5_passes_17 : decode cX5_passes 17 = .ok (.sipush 400, 3) := by decide +kernel
theorem dX5_passes_20 : decode cX5_passes 20 = .ok (.if_icmp .ge 145, 3) := by decide +kernel
theorem dX5_passes_23 : decode cX5_passes 23 = .ok (.aload_n 0, 1) := by decide +kernel
theorem dX5_passes_24 : decode cX5_passes 24 = .ok (.getfield 11, 3) := by decide +kernel
theorem dX5_passes_27 : decode cX5_passes 27 = .ok (.iload 6, 2) := by decide +kernel
theorem dX5_passes_29 : decode cX5_passes 29 = .ok (.iaload, 1) := by decide +kernel
theorem dX5_passes_30 : decode cX5_passes 30 = .ok (.istore 7, 2) := by decide +kernel
theorem dX5_passes_32 : decode cX5_passes 32 = .ok (.iload 7, 2) := by decide +kernel
theorem dX5_passes_34 : decode cX5_passes 34 = .ok (.sipush 10143, 3) := by decide +kernel
theorem dX5_passes_37 : decode cX5_passes 37 = .ok (.if_icmp .ne 38, 3) := by decide +kernel
theorem dX5_passes_40 : decode cX5_passes 40 = .ok (.iload 5, 2) := by decide +kernel
theorem dX5_passes_42 : decode cX5_passes 42 = .ok (.iconst 1, 1) := by decide +kernel
theorem dX5_passes_43 : decode cX5_passes 43 = .ok (.if_icmp .lt 116, 3) := by decide +kernel
theorem dX5_passes_46 : decode cX5_passes 46 = .ok (.aload_n 0, 1) := by decide +kernel
theorem dX5_passes_47 : decode cX5_passes 47 = .ok (.getfield 15, 3) := by decide +kernel
theorem dX5_passes_50 : decode cX5_passes 50 = .ok (.iload 5, 2) := by decide +kernel
theorem dX5_passes_52 : decode cX5_passes 52 = .ok (.iconst 1, 1) := by decide +kernel
theorem dX5_passes_53 : decode cX5_passes 53 = .ok (.isub, 1) := by decide +kernel
theorem dX5_passes_54 : decode cX5_passes 54 = .ok (.aload_n 0, 1) := by decide +kernel
theorem dX5_passes_55 : decode cX5_passes 55 = .ok (.getfield 15, 3) := by decide +kernel
theorem dX5_passes_58 : decode cX5_passes 58 = .ok (.iload 5, 2) := by decide +kernel
theorem dX5_passes_60 : decode cX5_passes 60 = .ok (.iconst 1, 1) := by decide +kernel
theorem dX5_passes_61 : decode cX5_passes 61 = .ok (.isub, 1) := by decide +kernel
theorem dX5_passes_62 : decode cX5_passes 62 = .ok (.iaload, 1) := by decide +kernel
theorem dX5_passes_63 : decode cX5_passes 63 = .ok (.ifCond .ne 7, 3) := by decide +kernel
theorem dX5_passes_66 : decode cX5_passes 66 = .ok (.iconst 1, 1) := by decide +kernel
theorem dX5_passes_67 : decode cX5_passes 67 = .ok (.goto 4, 3) := by decide +kernel
theorem dX5_passes_70 : decode cX5_passes 70 = .ok (.iconst 0, 1) := by decide +kernel
theorem dX5_passes_71 : decode cX5_passes 71 = .ok (.iastore, 1) := by decide +kernel
theorem dX5_passes_72 : decode cX5_passes 72 = .ok (.goto 87, 3) := by decide +kernel
theorem dX5_passes_75 : decode cX5_passes 75 = .ok (.iload 7, 2) := by decide +kernel
theorem dX5_passes_77 : decode cX5_passes 77 = .ok (.invokestatic 38, 3) := by decide +kernel
theorem dX5_passes_80 : decode cX5_passes 80 = .ok (.ifCond .eq 36, 3) := by decide +kernel
theorem dX5_passes_83 : decode cX5_passes 83 = .ok (.iload 5, 2) := by decide +kernel
theorem dX5_passes_85 : decode cX5_passes 85 = .ok (.aload_n 0, 1) := by decide +kernel
theorem dX5_passes_86 : decode cX5_passes 86 = .ok (.getfield 15, 3) := by decide +kernel
theorem dX5_passes_89 : decode cX5_passes 89 = .ok (.arraylength, 1) := by decide +kernel
theorem dX5_passes_90 : decode cX5_passes 90 = .ok (.if_icmp .ge 69, 3) := by decide +kernel
theorem dX5_passes_93 : decode cX5_passes 93 = .ok (.aload_n 0, 1) := by decide +kernel
theorem dX5_passes_94 : decode cX5_passes 94 = .ok (.getfield 15, 3) := by decide +kernel
theorem dX5_passes_97 : decode cX5_passes 97 = .ok (.iload 5, 2) := by decide +kernel
theorem dX5_passes_99 : decode cX5_passes 99 = .ok (.iload 7, 2) := by decide +kernel
theorem dX5_passes_101 : decode cX5_passes 101 = .ok (.iload_n 1, 1) := by decide +kernel
theorem dX5_passes_102 : decode cX5_passes 102 = .ok (.iload_n 2, 1) := by decide +kernel
theorem dX5_passes_103 : decode cX5_passes 103 = .ok (.iload_n 3, 1) := by decide +kernel
theorem dX5_passes_104 : decode cX5_passes 104 = .ok (.iload 4, 2) := by decide +kernel
theorem dX5_passes_106 : decode cX5_passes 106 = .ok (.invokestatic 42, 3) := by decide +kernel
theorem dX5_passes_109 : decode cX5_passes 109 = .ok (.iastore, 1) := by decide +kernel
theorem dX5_passes_110 : decode cX5_passes 110 = .ok (.iinc 5 1, 3) := by decide +kernel
theorem dX5_passes_113 : decode cX5_passes 113 = .ok (.goto 46, 3) := by decide +kernel
theorem dX5_passes_116 : decode cX5_passes 116 = .ok (.iload 5, 2) := by decide +kernel
theorem dX5_passes_118 : decode cX5_passes 118 = .ok (.iconst 2, 1) := by decide +kernel
theorem dX5_passes_119 : decode cX5_passes 119 = .ok (.if_icmp .lt 40, 3) := by decide +kernel
theorem dX5_passes_122 : decode cX5_passes 122 = .ok (.iinc 5 (-1), 3) := by decide +kernel
theorem dX5_passes_125 : decode cX5_passes 125 = .ok (.aload_n 0, 1) := by decide +kernel
theorem dX5_passes_126 : decode cX5_passes 126 = .ok (.getfield 15, 3) := by decide +kernel
theorem dX5_passes_129 : decode cX5_passes 129 = .ok (.iload 5, 2) := by decide +kernel
theorem dX5_passes_131 : decode cX5_passes 131 = .ok (.iconst 1, 1) := by decide +kernel
theorem dX5_passes_132 : decode cX5_passes 132 = .ok (.isub, 1) := by decide +kernel
theorem dX5_passes_133 : decode cX5_passes 133 = .ok (.iload 7, 2) := by decide +kernel
theorem dX5_passes_135 : decode cX5_passes 135 = .ok (.sipush 10000, 3) := by decide +kernel
theorem dX5_passes_138 : decode cX5_passes 138 = .ok (.isub, 1) := by decide +kernel
theorem dX5_passes_139 : decode cX5_passes 139 = .ok (.aload_n 0, 1) := by decide +kernel
theorem dX5_passes_140 : decode cX5_passes 140 = .ok (.getfield 15, 3) := by decide +kernel
theorem dX5_passes_143 : decode cX5_passes 143 = .ok (.iload 5, 2) := by decide +kernel
theorem dX5_passes_145 : decode cX5_passes 145 = .ok (.iconst 1, 1) := by decide +kernel
theorem dX5_passes_146 : decode cX5_passes 146 = .ok (.isub, 1) := by decide +kernel
theorem dX5_passes_147 : decode cX5_passes 147 = .ok (.iaload, 1) := by decide +kernel
theorem dX5_passes_148 : decode cX5_passes 148 = .ok (.aload_n 0, 1) := by decide +kernel
theorem dX5_passes_149 : decode cX5_passes 149 = .ok (.getfield 15, 3) := by decide +kernel
theorem dX5_passes_152 : decode cX5_passes 152 = .ok (.iload 5, 2) := by decide +kernel
theorem dX5_passes_154 : decode cX5_passes 154 = .ok (.iaload, 1) := by decide +kernel
theorem dX5_passes_155 : decode cX5_passes 155 = .ok (.invokestatic 46, 3) := by decide +kernel
theorem dX5_passes_158 : decode cX5_passes 158 = .ok (.iastore, 1) := by decide +kernel
theorem dX5_passes_159 : decode cX5_passes 159 = .ok (.iinc 6 1, 3) := by decide +kernel
theorem dX5_passes_162 : decode cX5_passes 162 = .ok (.goto (-156), 3) := by decide +kernel
theorem dX5_passes_165 : decode cX5_passes 165 = .ok (.iload 5, 2) := by decide +kernel
theorem dX5_passes_167 : decode cX5_passes 167 = .ok (.iconst 1, 1) := by decide +kernel
theorem dX5_passes_168 : decode cX5_passes 168 = .ok (.if_icmp .lt 19, 3) := by decide +kernel
theorem dX5_passes_171 : decode cX5_passes 171 = .ok (.aload_n 0, 1) := by decide +kernel
theorem dX5_passes_172 : decode cX5_passes 172 = .ok (.getfield 15, 3) := by decide +kernel
theorem dX5_passes_175 : decode cX5_passes 175 = .ok (.iload 5, 2) := by decide +kernel
theorem dX5_passes_177 : decode cX5_passes 177 = .ok (.iconst 1, 1) := by decide +kernel
theorem dX5_passes_178 : decode cX5_passes 178 = .ok (.isub, 1) := by decide +kernel
theorem dX5_passes_179 : decode cX5_passes 179 = .ok (.iaload, 1) := by decide +kernel
theorem dX5_passes_180 : decode cX5_passes 180 = .ok (.ifCond .eq 7, 3) := by decide +kernel
theorem dX5_passes_183 : decode cX5_passes 183 = .ok (.iconst 1, 1) := by decide +kernel
theorem dX5_passes_184 : decode cX5_passes 184 = .ok (.goto 4, 3) := by decide +kernel
theorem dX5_passes_187 : decode cX5_passes 187 = .ok (.iconst 0, 1) := by decide +kernel
theorem dX5_passes_188 : decode cX5_passes 188 = .ok (.ireturn, 1) := by decide +kernel
theorem dX5_isOperand_0 : decode cX5_isOperand 0 = .ok (.iload_n 0, 1) := by decide +kernel
theorem dX5_isOperand_1 : decode cX5_isOperand 1 = .ok (.sipush 10000, 3) := by decide +kernel
theorem dX5_isOperand_4 : decode cX5_isOperand 4 = .ok (.if_icmp .lt 17, 3) := by decide +kernel
theorem dX5_isOperand_7 : decode cX5_isOperand 7 = .ok (.iload_n 0, 1) := by decide +kernel
theorem dX5_isOperand_8 : decode cX5_isOperand 8 = .ok (.sipush 10144, 3) := by decide +kernel
theorem dX5_isOperand_11 : decode cX5_isOperand 11 = .ok (.if_icmp .lt 14, 3) := by decide +kernel
theorem dX5_isOperand_14 : decode cX5_isOperand 14 = .ok (.iload_n 0, 1) := by decide +kernel
theorem dX5_isOperand_15 : decode cX5_isOperand 15 = .ok (.sipush 10148, 3) := by decide +kernel
theorem dX5_isOperand_18 : decode cX5_isOperand 18 = .ok (.if_icmp .gt 7, 3) := by decide +kernel
theorem dX5_isOperand_21 : decode cX5_isOperand 21 = .ok (.iconst 1, 1) := by decide +kernel
theorem dX5_isOperand_22 : decode cX5_isOperand 22 = .ok (.goto 4, 3) := by decide +kernel
theorem dX5_isOperand_25 : decode cX5_isOperand 25 = .ok (.iconst 0, 1) := by decide +kernel
theorem dX5_isOperand_26 : decode cX5_isOperand 26 = .ok (.ireturn, 1) := by decide +kernel
theorem dX5_operand_0 : decode cX5_operand 0 = .ok (.iload_n 0, 1) := by decide +kernel
theorem dX5_operand_1 : decode cX5_operand 1 = .ok (.sipush 10000, 3) := by decide +kernel
theorem dX5_operand_4 : decode cX5_operand 4 = .ok (.isub, 1) := by decide +kernel
theorem dX5_operand_5 : decode cX5_operand 5 = .ok (.tableswitch 49 144 148 #[35, 37, 39, 41, 44], 35) := by decide +kernel
theorem dX5_operand_40 : decode cX5_operand 40 = .ok (.iload_n 1, 1) := by decide +kernel
theorem dX5_operand_41 : decode cX5_operand 41 = .ok (.ireturn, 1) := by decide +kernel
theorem dX5_operand_42 : decode cX5_operand 42 = .ok (.iload_n 2, 1) := by decide +kernel
theorem dX5_operand_43 : decode cX5_operand 43 = .ok (.ireturn, 1) := by decide +kernel
theorem dX5_operand_44 : decode cX5_operand 44 = .ok (.iload_n 3, 1) := by decide +kernel
theorem dX5_operand_45 : decode cX5_operand 45 = .ok (.ireturn, 1) := by decide +kernel
theorem dX5_operand_46 : decode cX5_operand 46 = .ok (.iload 4, 2) := by decide +kernel
theorem dX5_operand_48 : decode cX5_operand 48 = .ok (.ireturn, 1) := by decide +kernel
theorem dX5_operand_49 : decode cX5_operand 49 = .ok (.iload_n 3, 1) := by decide +kernel
theorem dX5_operand_50 : decode cX5_operand 50 = .ok (.iload 4, 2) := by decide +kernel
theorem dX5_operand_52 : decode cX5_operand 52 = .ok (.iadd, 1) := by decide +kernel
theorem dX5_operand_53 : decode cX5_operand 53 = .ok (.ireturn, 1) := by decide +kernel
theorem dX5_operand_54 : decode cX5_operand 54 = .ok (.iload_n 0, 1) := by decide +kernel
theorem dX5_operand_55 : decode cX5_operand 55 = .ok (.ireturn, 1) := by decide +kernel
theorem dX5_join_0 : decode cX5_join 0 = .ok (.iload_n 0, 1) := by decide +kernel
theorem dX5_join_1 : decode cX5_join 1 = .ok (.lookupswitch 136 #[(43, 128), (45, 132), (60, 95), (61, 117), (62, 106), (141, 67), (142, 81)], 67) := by decide +kernel
theorem dX5_join_68 : decode cX5_join 68 = .ok (.iload_n 1, 1) := by decide +kernel
theorem dX5_join_69 : decode cX5_join 69 = .ok (.ifCond .ne 7, 3) := by decide +kernel
theorem dX5_join_72 : decode cX5_join 72 = .ok (.iload_n 2, 1) := by decide +kernel
theorem dX5_join_73 : decode cX5_join 73 = .ok (.ifCond .eq 7, 3) := by decide +kernel
theorem dX5_join_76 : decode cX5_join 76 = .ok (.iconst 1, 1) := by decide +kernel
theorem dX5_join_77 : decode cX5_join 77 = .ok (.goto 4, 3) := by decide +kernel
theorem dX5_join_80 : decode cX5_join 80 = .ok (.iconst 0, 1) := by decide +kernel
theorem dX5_join_81 : decode cX5_join 81 = .ok (.ireturn, 1) := by decide +kernel
theorem dX5_join_82 : decode cX5_join 82 = .ok (.iload_n 1, 1) := by decide +kernel
theorem dX5_join_83 : decode cX5_join 83 = .ok (.ifCond .eq 11, 3) := by decide +kernel
theorem dX5_join_86 : decode cX5_join 86 = .ok (.iload_n 2, 1) := by decide +kernel
theorem dX5_join_87 : decode cX5_join 87 = .ok (.ifCond .eq 7, 3) := by decide +kernel
theorem dX5_join_90 : decode cX5_join 90 = .ok (.iconst 1, 1) := by decide +kernel
theorem dX5_join_91 : decode cX5_join 91 = .ok (.goto 4, 3) := by decide +kernel
theorem dX5_join_94 : decode cX5_join 94 = .ok (.iconst 0, 1) := by decide +kernel
theorem dX5_join_95 : decode cX5_join 95 = .ok (.ireturn, 1) := by decide +kernel
theorem dX5_join_96 : decode cX5_join 96 = .ok (.iload_n 1, 1) := by decide +kernel
theorem dX5_join_97 : decode cX5_join 97 = .ok (.iload_n 2, 1) := by decide +kernel
theorem dX5_join_98 : decode cX5_join 98 = .ok (.if_icmp .ge 7, 3) := by decide +kernel
theorem dX5_join_101 : decode cX5_join 101 = .ok (.iconst 1, 1) := by decide +kernel
theorem dX5_join_102 : decode cX5_join 102 = .ok (.goto 4, 3) := by decide +kernel
theorem dX5_join_105 : decode cX5_join 105 = .ok (.iconst 0, 1) := by decide +kernel
theorem dX5_join_106 : decode cX5_join 106 = .ok (.ireturn, 1) := by decide +kernel
theorem dX5_join_107 : decode cX5_join 107 = .ok (.iload_n 1, 1) := by decide +kernel
theorem dX5_join_108 : decode cX5_join 108 = .ok (.iload_n 2, 1) := by decide +kernel
theorem dX5_join_109 : decode cX5_join 109 = .ok (.if_icmp .le 7, 3) := by decide +kernel
theorem dX5_join_112 : decode cX5_join 112 = .ok (.iconst 1, 1) := by decide +kernel
theorem dX5_join_113 : decode cX5_join 113 = .ok (.goto 4, 3) := by decide +kernel
theorem dX5_join_116 : decode cX5_join 116 = .ok (.iconst 0, 1) := by decide +kernel
theorem dX5_join_117 : decode cX5_join 117 = .ok (.ireturn, 1) := by decide +kernel
theorem dX5_join_118 : decode cX5_join 118 = .ok (.iload_n 1, 1) := by decide +kernel
theorem dX5_join_119 : decode cX5_join 119 = .ok (.iload_n 2, 1) := by decide +kernel
theorem dX5_join_120 : decode cX5_join 120 = .ok (.if_icmp .ne 7, 3) := by decide +kernel
theorem dX5_join_123 : decode cX5_join 123 = .ok (.iconst 1, 1) := by decide +kernel
theorem dX5_join_124 : decode cX5_join 124 = .ok (.goto 4, 3) := by decide +kernel
theorem dX5_join_127 : decode cX5_join 127 = .ok (.iconst 0, 1) := by decide +kernel
theorem dX5_join_128 : decode cX5_join 128 = .ok (.ireturn, 1) := by decide +kernel
theorem dX5_join_129 : decode cX5_join 129 = .ok (.iload_n 1, 1) := by decide +kernel
theorem dX5_join_130 : decode cX5_join 130 = .ok (.iload_n 2, 1) := by decide +kernel
theorem dX5_join_131 : decode cX5_join 131 = .ok (.iadd, 1) := by decide +kernel
theorem dX5_join_132 : decode cX5_join 132 = .ok (.ireturn, 1) := by decide +kernel
theorem dX5_join_133 : decode cX5_join 133 = .ok (.iload_n 1, 1) := by decide +kernel
theorem dX5_join_134 : decode cX5_join 134 = .ok (.iload_n 2, 1) := by decide +kernel
theorem dX5_join_135 : decode cX5_join 135 = .ok (.isub, 1) := by decide +kernel
theorem dX5_join_136 : decode cX5_join 136 = .ok (.ireturn, 1) := by decide +kernel
theorem dX5_join_137 : decode cX5_join 137 = .ok (.iload_n 1, 1) := by decide +kernel
theorem dX5_join_138 : decode cX5_join 138 = .ok (.iload_n 2, 1) := by decide +kernel
theorem dX5_join_139 : decode cX5_join 139 = .ok (.imul, 1) := by decide +kernel
theorem dX5_join_140 : decode cX5_join 140 = .ok (.ireturn, 1) := by decide +kernel
theorem dX7_init_0 : decode cX7_init 0 = .ok (.aload_n 0, 1) := by decide +kernel
theorem dX7_init_1 : decode cX7_init 1 = .ok (.invokespecial 3, 3) := by decide +kernel
theorem dX7_init_4 : decode cX7_init 4 = .ok (.aload_n 0, 1) := by decide +kernel
theorem dX7_init_5 : decode cX7_init 5 = .ok (.sipush 1700, 3) := by decide +kernel
theorem dX7_init_8 : decode cX7_init 8 = .ok (.newarray .byte, 2) := by decide +kernel
theorem dX7_init_10 : decode cX7_init 10 = .ok (.putfield 9, 3) := by decide +kernel
theorem dX7_init_13 : decode cX7_init 13 = .ok (.return_, 1) := by decide +kernel
theorem dX7_hasRoomForFive_0 : decode cX7_hasRoomForFive 0 = .ok (.aload_n 0, 1) := by decide +kernel
theorem dX7_hasRoomForFive_1 : decode cX7_hasRoomForFive 1 = .ok (.getfield 15, 3) := by decide +kernel
theorem dX7_hasRoomForFive_4 : decode cX7_hasRoomForFive 4 = .ok (.bipush 20, 2) := by decide +kernel
theorem dX7_hasRoomForFive_6 : decode cX7_hasRoomForFive 6 = .ok (.iadd, 1) := by decide +kernel
theorem dX7_hasRoomForFive_7 : decode cX7_hasRoomForFive 7 = .ok (.sipush 1700, 3) := by decide +kernel
theorem dX7_hasRoomForFive_10 : decode cX7_hasRoomForFive 10 = .ok (.if_icmp .gt 7, 3) := by decide +kernel
theorem dX7_hasRoomForFive_13 : decode cX7_hasRoomForFive 13 = .ok (.iconst 1, 1) := by decide +kernel
theorem dX7_hasRoomForFive_14 : decode cX7_hasRoomForFive 14 = .ok (.goto 4, 3) := by decide +kernel
theorem dX7_hasRoomForFive_17 : decode cX7_hasRoomForFive 17 = .ok (.iconst 0, 1) := by decide +kernel
theorem dX7_hasRoomForFive_18 : decode cX7_hasRoomForFive 18 = .ok (.ireturn, 1) := by decide +kernel
theorem dX7_put_0 : decode cX7_put 0 = .ok (.bipush 24, 2) := by decide +kernel
theorem dX7_put_2 : decode cX7_put 2 = .ok (.istore_n 2, 1) := by decide +kernel
theorem dX7_put_3 : decode cX7_put 3 = .ok (.iload_n 2, 1) := by decide +kernel
theorem dX7_put_4 : decode cX7_put 4 = .ok (.ifCond .lt 42, 3) := by decide +kernel
theorem dX7_put_7 : decode cX7_put 7 = .ok (.aload_n 0, 1) := by decide +kernel
theorem dX7_put_8 : decode cX7_put 8 = .ok (.getfield 15, 3) := by decide +kernel
theorem dX7_put_11 : decode cX7_put 11 = .ok (.sipush 1700, 3) := by decide +kernel
theorem dX7_put_14 : decode cX7_put 14 = .ok (.if_icmp .ge 26, 3) := by decide +kernel
theorem dX7_put_17 : decode cX7_put 17 = .ok (.aload_n 0, 1) := by decide +kernel
theorem dX7_put_18 : decode cX7_put 18 = .ok (.getfield 9, 3) := by decide +kernel
theorem dX7_put_21 : decode cX7_put 21 = .ok (.aload_n 0, 1) := by decide +kernel
theorem dX7_put_22 : decode cX7_put 22 = .ok (.getfield 15, 3) := by decide +kernel
theorem dX7_put_25 : decode cX7_put 25 = .ok (.iload_n 1, 1) := by decide +kernel
theorem dX7_put_26 : decode cX7_put 26 = .ok (.iload_n 2, 1) := by decide +kernel
theorem dX7_put_27 : decode cX7_put 27 = .ok (.ishr, 1) := by decide +kernel
theorem dX7_put_28 : decode cX7_put 28 = .ok (.i2b, 1) := by decide +kernel
theorem dX7_put_29 : decode cX7_put 29 = .ok (.bastore, 1) := by decide +kernel
theorem dX7_put_30 : decode cX7_put 30 = .ok (.aload_n 0, 1) := by decide +kernel
theorem dX7_put_31 : decode cX7_put 31 = .ok (.dup, 1) := by decide +kernel
theorem dX7_put_32 : decode cX7_put 32 = .ok (.getfield 15, 3) := by decide +kernel
theorem dX7_put_35 : decode cX7_put 35 = .ok (.iconst 1, 1) := by decide +kernel
theorem dX7_put_36 : decode cX7_put 36 = .ok (.iadd, 1) := by decide +kernel
theorem dX7_put_37 : decode cX7_put 37 = .ok (.putfield 15, 3) := by decide +kernel
theorem dX7_put_40 : decode cX7_put 40 = .ok (.iinc 2 (-8), 3) := by decide +kernel
theorem dX7_put_43 : decode cX7_put 43 = .ok (.goto (-40), 3) := by decide +kernel
theorem dX7_put_46 : decode cX7_put 46 = .ok (.return_, 1) := by decide +kernel
theorem dX3_init_0 : decode cX3_init 0 = .ok (.aload_n 0, 1) := by decide +kernel
theorem dX3_init_1 : decode cX3_init 1 = .ok (.invokespecial 3, 3) := by decide +kernel
theorem dX3_init_4 : decode cX3_init 4 = .ok (.aload_n 0, 1) := by decide +kernel
theorem dX3_init_5 : decode cX3_init 5 = .ok (.sipush 4096, 3) := by decide +kernel
theorem dX3_init_8 : decode cX3_init 8 = .ok (.newarray .long, 2) := by decide +kernel
theorem dX3_init_10 : decode cX3_init 10 = .ok (.putfield 11, 3) := by decide +kernel
theorem dX3_init_13 : decode cX3_init 13 = .ok (.aload_n 0, 1) := by decide +kernel
theorem dX3_init_14 : decode cX3_init 14 = .ok (.bipush 64, 2) := by decide +kernel
theorem dX3_init_16 : decode cX3_init 16 = .ok (.newarray .long, 2) := by decide +kernel
theorem dX3_init_18 : decode cX3_init 18 = .ok (.putfield 15, 3) := by decide +kernel
theorem dX3_init_21 : decode cX3_init 21 = .ok (.aload_n 0, 1) := by decide +kernel
theorem dX3_init_22 : decode cX3_init 22 = .ok (.sipush 343, 3) := by decide +kernel
theorem dX3_init_25 : decode cX3_init 25 = .ok (.newarray .boolean, 2) := by decide +kernel
theorem dX3_init_27 : decode cX3_init 27 = .ok (.putfield 18, 3) := by decide +kernel
theorem dX3_init_30 : decode cX3_init 30 = .ok (.aload_n 0, 1) := by decide +kernel
theorem dX3_init_31 : decode cX3_init 31 = .ok (.iconst 4, 1) := by decide +kernel
theorem dX3_init_32 : decode cX3_init 32 = .ok (.newarray .int, 2) := by decide +kernel
theorem dX3_init_34 : decode cX3_init 34 = .ok (.putfield 22, 3) := by decide +kernel
theorem dX3_init_37 : decode cX3_init 37 = .ok (.aload_n 0, 1) := by decide +kernel
theorem dX3_init_38 : decode cX3_init 38 = .ok (.iconst 4, 1) := by decide +kernel
theorem dX3_init_39 : decode cX3_init 39 = .ok (.newarray .int, 2) := by decide +kernel
theorem dX3_init_41 : decode cX3_init 41 = .ok (.putfield 26, 3) := by decide +kernel
theorem dX3_init_44 : decode cX3_init 44 = .ok (.aload_n 0, 1) := by decide +kernel
theorem dX3_init_45 : decode cX3_init 45 = .ok (.iconst 4, 1) := by decide +kernel
theorem dX3_init_46 : decode cX3_init 46 = .ok (.newarray .int, 2) := by decide +kernel
theorem dX3_init_48 : decode cX3_init 48 = .ok (.putfield 29, 3) := by decide +kernel
theorem dX3_init_51 : decode cX3_init 51 = .ok (.aload_n 0, 1) := by decide +kernel
theorem dX3_init_52 : decode cX3_init 52 = .ok (.bipush 24, 2) := by decide +kernel
theorem dX3_init_54 : decode cX3_init 54 = .ok (.newarray .int, 2) := by decide +kernel
theorem dX3_init_56 : decode cX3_init 56 = .ok (.putfield 32, 3) := by decide +kernel
theorem dX3_init_59 : decode cX3_init 59 = .ok (.aload_n 0, 1) := by decide +kernel
theorem dX3_init_60 : decode cX3_init 60 = .ok (.iconst 4, 1) := by decide +kernel
theorem dX3_init_61 : decode cX3_init 61 = .ok (.newarray .int, 2) := by decide +kernel
theorem dX3_init_63 : decode cX3_init 63 = .ok (.putfield 35, 3) := by decide +kernel
theorem dX3_init_66 : decode cX3_init 66 = .ok (.aload_n 0, 1) := by decide +kernel
theorem dX3_init_67 : decode cX3_init 67 = .ok (.aload_n 1, 1) := by decide +kernel
theorem dX3_init_68 : decode cX3_init 68 = .ok (.putfield 38, 3) := by decide +kernel
theorem dX3_init_71 : decode cX3_init 71 = .ok (.return_, 1) := by decide +kernel
theorem dX3_search_0 : decode cX3_search 0 = .ok (.aload_n 0, 1) := by decide +kernel
theorem dX3_search_1 : decode cX3_search 1 = .ok (.aload_n 1, 1) := by decide +kernel
theorem dX3_search_2 : decode cX3_search 2 = .ok (.getfield 42, 3) := by decide +kernel
theorem dX3_search_5 : decode cX3_search 5 = .ok (.putfield 38, 3) := by decide +kernel
theorem dX3_search_8 : decode cX3_search 8 = .ok (.aload_n 0, 1) := by decide +kernel
theorem dX3_search_9 : decode cX3_search 9 = .ok (.iload_n 2, 1) := by decide +kernel
theorem dX3_search_10 : decode cX3_search 10 = .ok (.putfield 45, 3) := by decide +kernel
theorem dX3_search_13 : decode cX3_search 13 = .ok (.aload_n 0, 1) := by decide +kernel
theorem dX3_search_14 : decode cX3_search 14 = .ok (.iconst 0, 1) := by decide +kernel
theorem dX3_search_15 : decode cX3_search 15 = .ok (.putfield 49, 3) := by decide +kernel
theorem dX3_search_18 : decode cX3_search 18 = .ok (.aload_n 0, 1) := by decide +kernel
theorem dX3_search_19 : decode cX3_search 19 = .ok (.iconst 0, 1) := by decide +kernel
theorem dX3_search_20 : decode cX3_search 20 = .ok (.putfield 52, 3) := by decide +kernel
theorem dX3_search_23 : decode cX3_search 23 = .ok (.aload_n 0, 1) := by decide +kernel
theorem dX3_search_24 : decode cX3_search 24 = .ok (.aload_n 1, 1) := by decide +kernel
theorem dX3_search_25 : decode cX3_search 25 = .ok (.invokevirtual 55, 3) := by decide +kernel
theorem dX3_search_28 : decode cX3_search 28 = .ok (.istore 6, 2) := by decide +kernel
theorem dX3_search_30 : decode cX3_search 30 = .ok (.iload 6, 2) := by decide +kernel
theorem dX3_search_32 : decode cX3_search 32 = .ok (.ifCond .eq 8, 3) := by decide +kernel
theorem dX3_search_35 : decode cX3_search 35 = .ok (.iload 5, 2) := by decide +kernel
theorem dX3_search_37 : decode cX3_search 37 = .ok (.ifCond .ne 5, 3) := by decide +kernel
theorem dX3_search_40 : decode cX3_search 40 = .ok (.iconst 0, 1) := by decide +kernel
theorem dX3_search_41 : decode cX3_search 41 = .ok (.ireturn, 1) := by decide +kernel
theorem dX3_search_42 : decode cX3_search 42 = .ok (.aload_n 0, 1) := by decide +kernel
theorem dX3_search_43 : decode cX3_search 43 = .ok (.invokevirtual 59, 3) := by decide +kernel
theorem dX3_search_46 : decode cX3_search 46 = .ok (.aload_n 0, 1) := by decide +kernel
theorem dX3_search_47 : decode cX3_search 47 = .ok (.iload 4, 2) := by decide +kernel
theorem dX3_search_49 : decode cX3_search 49 = .ok (.invokevirtual 62, 3) := by decide +kernel
theorem dX3_search_52 : decode cX3_search 52 = .ok (.aload_n 0, 1) := by decide +kernel
theorem dX3_search_53 : decode cX3_search 53 = .ok (.invokevirtual 66, 3) := by decide +kernel
theorem dX3_search_56 : decode cX3_search 56 = .ok (.aload_n 0, 1) := by decide +kernel
theorem dX3_search_57 : decode cX3_search 57 = .ok (.invokevirtual 69, 3) := by decide +kernel
theorem dX3_search_60 : decode cX3_search 60 = .ok (.iconst 1, 1) := by decide +kernel
theorem dX3_search_61 : decode cX3_search 61 = .ok (.iconst 2, 1) := by decide +kernel
theorem dX3_search_62 : decode cX3_search 62 = .ok (.aload_n 0, 1) := by decide +kernel
theorem dX3_search_63 : decode cX3_search 63 = .ok (.getfield 72, 3) := by decide +kernel
theorem dX3_search_66 : decode cX3_search 66 = .ok (.imul, 1) := by decide +kernel
theorem dX3_search_67 : decode cX3_search 67 = .ok (.aload_n 0, 1) := by decide +kernel
theorem dX3_search_68 : decode cX3_search 68 = .ok (.getfield 75, 3) := by decide +kernel
theorem dX3_search_71 : decode cX3_search 71 = .ok (.iadd, 1) := by decide +kernel
theorem dX3_search_72 : decode cX3_search 72 = .ok (.ishl, 1) := by decide +kernel
theorem dX3_search_73 : decode cX3_search 73 = .ok (.istore 7, 2) := by decide +kernel
theorem dX3_search_75 : decode cX3_search 75 = .ok (.iconst 0, 1) := by decide +kernel
theorem dX3_search_76 : decode cX3_search 76 = .ok (.istore 8, 2) := by decide +kernel
theorem dX3_search_78 : decode cX3_search 78 = .ok (.iload 8, 2) := by decide +kernel
theorem dX3_search_80 : decode cX3_search 80 = .ok (.iload 7, 2) := by decide +kernel
theorem dX3_search_82 : decode cX3_search 82 = .ok (.if_icmp .ge 25, 3) := by decide +kernel
theorem dX3_search_85 : decode cX3_search 85 = .ok (.iload 8, 2) := by decide +kernel
theorem dX3_search_87 : decode cX3_search 87 = .ok (.sipush 4096, 3) := by decide +kernel
theorem dX3_search_90 : decode cX3_search 90 = .ok (.if_icmp .ge 17, 3) := by decide +kernel
theorem dX3_search_93 : decode cX3_search 93 = .ok (.aload_n 0, 1) := by decide +kernel
theorem dX3_search_94 : decode cX3_search 94 = .ok (.getfield 11, 3) := by decide +kernel
theorem dX3_search_97 : decode cX3_search 97 = .ok (.iload 8, 2) := by decide +kernel
theorem dX3_search_99 : decode cX3_search 99 = .ok (.lconst 0, 1) := by decide +kernel
theorem dX3_search_100 : decode cX3_search 100 = .ok (.lastore, 1) := by decide +kernel
theorem dX3_search_101 : decode cX3_search 101 = .ok (.iinc 8 1, 3) := by decide +kernel
theorem dX3_search_104 : decode cX3_search 104 = .ok (.goto (-26), 3) := by decide +kernel
theorem dX3_search_107 : decode cX3_search 107 = .ok (.aload_n 0, 1) := by decide +kernel
theorem dX3_search_108 : decode cX3_search 108 = .ok (.getfield 11, 3) := by decide +kernel
theorem dX3_search_111 : decode cX3_search 111 = .ok (.aload_n 0, 1) := by decide +kernel
theorem dX3_search_112 : decode cX3_search 112 = .ok (.aload_n 1, 1) := by decide +kernel
theorem dX3_search_113 : decode cX3_search 113 = .ok (.invokevirtual 78, 3) := by decide +kernel
theorem dX3_search_116 : decode cX3_search 116 = .ok (.lconst 1, 1) := by decide +kernel
theorem dX3_search_117 : decode cX3_search 117 = .ok (.iload_n 3, 1) := by decide +kernel
theorem dX3_search_118 : decode cX3_search 118 = .ok (.lshl, 1) := by decide +kernel
theorem dX3_search_119 : decode cX3_search 119 = .ok (.aload_n 0, 1) := by decide +kernel
theorem dX3_search_120 : decode cX3_search 120 = .ok (.getfield 81, 3) := by decide +kernel
theorem dX3_search_123 : decode cX3_search 123 = .ok (.land, 1) := by decide +kernel
theorem dX3_search_124 : decode cX3_search 124 = .ok (.lastore, 1) := by decide +kernel
theorem dX3_search_125 : decode cX3_search 125 = .ok (.aload_n 0, 1) := by decide +kernel
theorem dX3_search_126 : decode cX3_search 126 = .ok (.iconst 1, 1) := by decide +kernel
theorem dX3_search_127 : decode cX3_search 127 = .ok (.putfield 85, 3) := by decide +kernel
theorem dX3_search_130 : decode cX3_search 130 = .ok (.iconst 0, 1) := by decide +kernel
theorem dX3_search_131 : decode cX3_search 131 = .ok (.istore 8, 2) := by decide +kernel
theorem dX3_search_133 : decode cX3_search 133 = .ok (.iload 8, 2) := by decide +kernel
theorem dX3_search_135 : decode cX3_search 135 = .ok (.iload 5, 2) := by decide +kernel
theorem dX3_search_137 : decode cX3_search 137 = .ok (.if_icmp .ge 67, 3) := by decide +kernel
theorem dX3_search_140 : decode cX3_search 140 = .ok (.aload_n 0, 1) := by decide +kernel
theorem dX3_search_141 : decode cX3_search 141 = .ok (.getfield 49, 3) := by decide +kernel
theorem dX3_search_144 : decode cX3_search 144 = .ok (.iload 6, 2) := by decide +kernel
theorem dX3_search_146 : decode cX3_search 146 = .ok (.if_icmp .ge 58, 3) := by decide +kernel
theorem dX3_search_149 : decode cX3_search 149 = .ok (.aload_n 0, 1) := by decide +kernel
theorem dX3_search_150 : decode cX3_search 150 = .ok (.getfield 85, 3) := by decide +kernel
theorem dX3_search_153 : decode cX3_search 153 = .ok (.ifCond .eq 51, 3) := by decide +kernel
theorem dX3_search_156 : decode cX3_search 156 = .ok (.aload_n 0, 1) := by decide +kernel
theorem dX3_search_157 : decode cX3_search 157 = .ok (.iconst 0, 1) := by decide +kernel
theorem dX3_search_158 : decode cX3_search 158 = .ok (.putfield 85, 3) := by decide +kernel
theorem dX3_search_161 : decode cX3_search 161 = .ok (.iload 7, 2) := by decide +kernel
theorem dX3_search_163 : decode cX3_search 163 = .ok (.iconst 1, 1) := by decide +kernel
theorem dX3_search_164 : decode cX3_search 164 = .ok (.isub, 1) := by decide +kernel
theorem dX3_search_165 : decode cX3_search 165 = .ok (.istore 9, 2) := by decide +kernel
theorem dX3_search_167 : decode cX3_search 167 = .ok (.iload 9, 2) := by decide +kernel
theorem dX3_search_169 : decode cX3_search 169 = .ok (.ifCond .lt 29, 3) := by decide +kernel
theorem dX3_search_172 : decode cX3_search 172 = .ok (.aload_n 0, 1) := by decide +kernel
theorem dX3_search_173 : decode cX3_search 173 = .ok (.getfield 11, 3) := by decide +kernel
theorem dX3_search_176 : decode cX3_search 176 = .ok (.iload 9, 2) := by decide +kernel
theorem dX3_search_178 : decode cX3_search 178 = .ok (.laload, 1) := by decide +kernel
theorem dX3_search_179 : decode cX3_search 179 = .ok (.lconst 0, 1) := by decide +kernel
theorem dX3_search_180 : decode cX3_search 180 = .ok (.lcmp, 1) := by decide +kernel
theorem dX3_search_181 : decode cX3_search 181 = .ok (.ifCond .eq 11, 3) := by decide +kernel
theorem dX3_search_184 : decode cX3_search 184 = .ok (.aload_n 0, 1) := by decide +kernel
theorem dX3_search_185 : decode cX3_search 185 = .ok (.iload 9, 2) := by decide +kernel
theorem dX3_search_187 : decode cX3_search 187 = .ok (.iload 8, 2) := by decide +kernel
theorem dX3_search_189 : decode cX3_search 189 = .ok (.invokevirtual 89, 3) := by decide +kernel
theorem dX3_search_192 : decode cX3_search 192 = .ok (.iinc 9 (-1), 3) := by decide +kernel
theorem dX3_search_195 : decode cX3_search 195 = .ok (.goto (-28), 3) := by decide +kernel
theorem dX3_search_198 : decode cX3_search 198 = .ok (.iinc 8 1, 3) := by decide +kernel
theorem dX3_search_201 : decode cX3_search 201 = .ok (.goto (-68), 3) := by decide +kernel
theorem dX3_search_204 : decode cX3_search 204 = .ok (.aload_n 0, 1) := by decide +kernel
theorem dX3_search_205 : decode cX3_search 205 = .ok (.getfield 49, 3) := by decide +kernel
theorem dX3_search_208 : decode cX3_search 208 = .ok (.ireturn, 1) := by decide +kernel
theorem dX3_findGoals_0 : decode cX3_findGoals 0 = .ok (.iconst 0, 1) := by decide +kernel
theorem dX3_findGoals_1 : decode cX3_findGoals 1 = .ok (.istore_n 2, 1) := by decide +kernel
theorem dX3_findGoals_2 : decode cX3_findGoals 2 = .ok (.aload_n 0, 1) := by decide +kernel
theorem dX3_findGoals_3 : decode cX3_findGoals 3 = .ok (.iconst 0, 1) := by decide +kernel
theorem dX3_findGoals_4 : decode cX3_findGoals 4 = .ok (.putfield 72, 3) := by decide +kernel
theorem dX3_findGoals_7 : decode cX3_findGoals 7 = .ok (.iconst 0, 1) := by decide +kernel
theorem dX3_findGoals_8 : decode cX3_findGoals 8 = .ok (.istore_n 3, 1) := by decide +kernel
theorem dX3_findGoals_9 : decode cX3_findGoals 9 = .ok (.iload_n 3, 1) := by decide +kernel
theorem dX3_findGoals_10 : decode cX3_findGoals 10 = .ok (.aload_n 0, 1) := by decide +kernel
theorem dX3_findGoals_11 : decode cX3_findGoals 11 = .ok (.getfield 38, 3) := by decide +kernel
theorem dX3_findGoals_14 : decode cX3_findGoals 14 = .ok (.getfield 93, 3) := by decide +kernel
theorem dX3_findGoals_17 : decode cX3_findGoals 17 = .ok (.getfield 99, 3) := by decide +kernel
theorem dX3_findGoals_20 : decode cX3_findGoals 20 = .ok (.if_icmp .ge 111, 3) := by decide +kernel
theorem dX3_findGoals_23 : decode cX3_findGoals 23 = .ok (.aload_n 1, 1) := by decide +kernel
theorem dX3_findGoals_24 : decode cX3_findGoals 24 = .ok (.iload_n 3, 1) := by decide +kernel
theorem dX3_findGoals_25 : decode cX3_findGoals 25 = .ok (.invokevirtual 104, 3) := by decide +kernel
theorem dX3_findGoals_28 : decode cX3_findGoals 28 = .ok (.istore 4, 2) := by decide +kernel
theorem dX3_findGoals_30 : decode cX3_findGoals 30 = .ok (.aload_n 0, 1) := by decide +kernel
theorem dX3_findGoals_31 : decode cX3_findGoals 31 = .ok (.getfield 35, 3) := by decide +kernel
theorem dX3_findGoals_34 : decode cX3_findGoals 34 = .ok (.iload_n 3, 1) := by decide +kernel
theorem dX3_findGoals_35 : decode cX3_findGoals 35 = .ok (.iload 4, 2) := by decide +kernel
theorem dX3_findGoals_37 : decode cX3_findGoals 37 = .ok (.ifCond .eq 20, 3) := by decide +kernel
theorem dX3_findGoals_40 : decode cX3_findGoals 40 = .ok (.aload_n 0, 1) := by decide +kernel
theorem dX3_findGoals_41 : decode cX3_findGoals 41 = .ok (.getfield 38, 3) := by decide +kernel
theorem dX3_findGoals_44 : decode cX3_findGoals 44 = .ok (.getfield 108, 3) := by decide +kernel
theorem dX3_findGoals_47 : decode cX3_findGoals 47 = .ok (.iload_n 3, 1) := by decide +kernel
theorem dX3_findGoals_48 : decode cX3_findGoals 48 = .ok (.iaload, 1) := by decide +kernel
theorem dX3_findGoals_49 : decode cX3_findGoals 49 = .ok (.aload_n 1, 1) := by decide +kernel
theorem dX3_findGoals_50 : decode cX3_findGoals 50 = .ok (.getfield 111, 3) := by decide +kernel
theorem dX3_findGoals_53 : decode cX3_findGoals 53 = .ok (.isub, 1) := by decide +kernel
theorem dX3_findGoals_54 : decode cX3_findGoals 54 = .ok (.goto 4, 3) := by decide +kernel
theorem dX3_findGoals_57 : decode cX3_findGoals 57 = .ok (.iconst 0, 1) := by decide +kernel
theorem dX3_findGoals_58 : decode cX3_findGoals 58 = .ok (.iastore, 1) := by decide +kernel
theorem dX3_findGoals_59 : decode cX3_findGoals 59 = .ok (.aload_n 0, 1) := by decide +kernel
theorem dX3_findGoals_60 : decode cX3_findGoals 60 = .ok (.getfield 26, 3) := by decide +kernel
theorem dX3_findGoals_63 : decode cX3_findGoals 63 = .ok (.iload_n 3, 1) := by decide +kernel
theorem dX3_findGoals_64 : decode cX3_findGoals 64 = .ok (.iconst (-1), 1) := by decide +kernel
theorem dX3_findGoals_65 : decode cX3_findGoals 65 = .ok (.iastore, 1) := by decide +kernel
theorem dX3_findGoals_66 : decode cX3_findGoals 66 = .ok (.iload 4, 2) := by decide +kernel
theorem dX3_findGoals_68 : decode cX3_findGoals 68 = .ok (.ifCond .eq 57, 3) := by decide +kernel
theorem dX3_findGoals_71 : decode cX3_findGoals 71 = .ok (.aload_n 0, 1) := by decide +kernel
theorem dX3_findGoals_72 : decode cX3_findGoals 72 = .ok (.getfield 38, 3) := by decide +kernel
theorem dX3_findGoals_75 : decode cX3_findGoals 75 = .ok (.getfield 114, 3) := by decide +kernel
theorem dX3_findGoals_78 : decode cX3_findGoals 78 = .ok (.iload_n 3, 1) := by decide +kernel
theorem dX3_findGoals_79 : decode cX3_findGoals 79 = .ok (.iaload, 1) := by decide +kernel
theorem dX3_findGoals_80 : decode cX3_findGoals 80 = .ok (.ifCond .le 45, 3) := by decide +kernel
theorem dX3_findGoals_83 : decode cX3_findGoals 83 = .ok (.aload_n 0, 1) := by decide +kernel
theorem dX3_findGoals_84 : decode cX3_findGoals 84 = .ok (.getfield 26, 3) := by decide +kernel
theorem dX3_findGoals_87 : decode cX3_findGoals 87 = .ok (.iload_n 3, 1) := by decide +kernel
theorem dX3_findGoals_88 : decode cX3_findGoals 88 = .ok (.aload_n 0, 1) := by decide +kernel
theorem dX3_findGoals_89 : decode cX3_findGoals 89 = .ok (.getfield 72, 3) := by decide +kernel
theorem dX3_findGoals_92 : decode cX3_findGoals 92 = .ok (.iastore, 1) := by decide +kernel
theorem dX3_findGoals_93 : decode cX3_findGoals 93 = .ok (.aload_n 0, 1) := by decide +kernel
theorem dX3_findGoals_94 : decode cX3_findGoals 94 = .ok (.getfield 22, 3) := by decide +kernel
theorem dX3_findGoals_97 : decode cX3_findGoals 97 = .ok (.aload_n 0, 1) := by decide +kernel
theorem dX3_findGoals_98 : decode cX3_findGoals 98 = .ok (.getfield 72, 3) := by decide +kernel
theorem dX3_findGoals_101 : decode cX3_findGoals 101 = .ok (.iload_n 3, 1) := by decide +kernel
theorem dX3_findGoals_102 : decode cX3_findGoals 102 = .ok (.iastore, 1) := by decide +kernel
theorem dX3_findGoals_103 : decode cX3_findGoals 103 = .ok (.aload_n 0, 1) := by decide +kernel
theorem dX3_findGoals_104 : decode cX3_findGoals 104 = .ok (.dup, 1) := by decide +kernel
theorem dX3_findGoals_105 : decode cX3_findGoals 105 = .ok (.getfield 72, 3) := by decide +kernel
theorem dX3_findGoals_108 : decode cX3_findGoals 108 = .ok (.iconst 1, 1) := by decide +kernel
theorem dX3_findGoals_109 : decode cX3_findGoals 109 = .ok (.iadd, 1) := by decide +kernel
theorem dX3_findGoals_110 : decode cX3_findGoals 110 = .ok (.putfield 72, 3) := by decide +kernel
theorem dX3_findGoals_113 : decode cX3_findGoals 113 = .ok (.iload_n 2, 1) := by decide +kernel
theorem dX3_findGoals_114 : decode cX3_findGoals 114 = .ok (.aload_n 0, 1) := by decide +kernel
theorem dX3_findGoals_115 : decode cX3_findGoals 115 = .ok (.getfield 38, 3) := by decide +kernel
theorem dX3_findGoals_118 : decode cX3_findGoals 118 = .ok (.getfield 114, 3) := by decide +kernel
theorem dX3_findGoals_121 : decode cX3_findGoals 121 = .ok (.iload_n 3, 1) := by decide +kernel
theorem dX3_findGoals_122 : decode cX3_findGoals 122 = .ok (.iaload, 1) := by decide +kernel
theorem dX3_findGoals_123 : decode cX3_findGoals 123 = .ok (.iadd, 1) := by decide +kernel
theorem dX3_findGoals_124 : decode cX3_findGoals 124 = .ok (.istore_n 2, 1) := by decide +kernel
theorem dX3_findGoals_125 : decode cX3_findGoals 125 = .ok (.iinc 3 1, 3) := by decide +kernel
theorem dX3_findGoals_128 : decode cX3_findGoals 128 = .ok (.goto (-119), 3) := by decide +kernel
theorem dX3_findGoals_131 : decode cX3_findGoals 131 = .ok (.iload_n 2, 1) := by decide +kernel
theorem dX3_findGoals_132 : decode cX3_findGoals 132 = .ok (.ireturn, 1) := by decide +kernel
theorem dX3_findLinks_0 : decode cX3_findLinks 0 = .ok (.aload_n 0, 1) := by decide +kernel
theorem dX3_findLinks_1 : decode cX3_findLinks 1 = .ok (.iconst 0, 1) := by decide +kernel
theorem dX3_findLinks_2 : decode cX3_findLinks 2 = .ok (.putfield 75, 3) := by decide +kernel
theorem dX3_findLinks_5 : decode cX3_findLinks 5 = .ok (.aload_n 0, 1) := by decide +kernel
theorem dX3_findLinks_6 : decode cX3_findLinks 6 = .ok (.getfield 32, 3) := by decide +kernel
theorem dX3_findLinks_9 : decode cX3_findLinks 9 = .ok (.iconst 0, 1) := by decide +kernel
theorem dX3_findLinks_10 : decode cX3_findLinks 10 = .ok (.invokestatic 117, 3) := by decide +kernel
theorem dX3_findLinks_13 : decode cX3_findLinks 13 = .ok (.iconst 0, 1) := by decide +kernel
theorem dX3_findLinks_14 : decode cX3_findLinks 14 = .ok (.istore_n 1, 1) := by decide +kernel
theorem dX3_findLinks_15 : decode cX3_findLinks 15 = .ok (.iload_n 1, 1) := by decide +kernel
theorem dX3_findLinks_16 : decode cX3_findLinks 16 = .ok (.aload_n 0, 1) := by decide +kernel
theorem dX3_findLinks_17 : decode cX3_findLinks 17 = .ok (.getfield 38, 3) := by decide +kernel
theorem dX3_findLinks_20 : decode cX3_findLinks 20 = .ok (.getfield 123, 3) := by decide +kernel
theorem dX3_findLinks_23 : decode cX3_findLinks 23 = .ok (.if_icmp .ge 83, 3) := by decide +kernel
theorem dX3_findLinks_26 : decode cX3_findLinks 26 = .ok (.aload_n 0, 1) := by decide +kernel
theorem dX3_findLinks_27 : decode cX3_findLinks 27 = .ok (.getfield 26, 3) := by decide +kernel
theorem dX3_findLinks_30 : decode cX3_findLinks 30 = .ok (.aload_n 0, 1) := by decide +kernel
theorem dX3_findLinks_31 : decode cX3_findLinks 31 = .ok (.getfield 38, 3) := by decide +kernel
theorem dX3_findLinks_34 : decode cX3_findLinks 34 = .ok (.getfield 126, 3) := by decide +kernel
theorem dX3_findLinks_37 : decode cX3_findLinks 37 = .ok (.iload_n 1, 1) := by decide +kernel
theorem dX3_findLinks_38 : decode cX3_findLinks 38 = .ok (.iaload, 1) := by decide +kernel
theorem dX3_findLinks_39 : decode cX3_findLinks 39 = .ok (.iaload, 1) := by decide +kernel
theorem dX3_findLinks_40 : decode cX3_findLinks 40 = .ok (.ifCond .lt 60, 3) := by decide +kernel
theorem dX3_findLinks_43 : decode cX3_findLinks 43 = .ok (.aload_n 0, 1) := by decide +kernel
theorem dX3_findLinks_44 : decode cX3_findLinks 44 = .ok (.getfield 38, 3) := by decide +kernel
theorem dX3_findLinks_47 : decode cX3_findLinks 47 = .ok (.getfield 129, 3) := by decide +kernel
theorem dX3_findLinks_50 : decode cX3_findLinks 50 = .ok (.iload_n 1, 1) := by decide +kernel
theorem dX3_findLinks_51 : decode cX3_findLinks 51 = .ok (.iaload, 1) := by decide +kernel
theorem dX3_findLinks_52 : decode cX3_findLinks 52 = .ok (.iconst 4, 1) := by decide +kernel
theorem dX3_findLinks_53 : decode cX3_findLinks 53 = .ok (.imul, 1) := by decide +kernel
theorem dX3_findLinks_54 : decode cX3_findLinks 54 = .ok (.aload_n 0, 1) := by decide +kernel
theorem dX3_findLinks_55 : decode cX3_findLinks 55 = .ok (.getfield 38, 3) := by decide +kernel
theorem dX3_findLinks_58 : decode cX3_findLinks 58 = .ok (.getfield 132, 3) := by decide +kernel
theorem dX3_findLinks_61 : decode cX3_findLinks 61 = .ok (.iload_n 1, 1) := by decide +kernel
theorem dX3_findLinks_62 : decode cX3_findLinks 62 = .ok (.iaload, 1) := by decide +kernel
theorem dX3_findLinks_63 : decode cX3_findLinks 63 = .ok (.iadd, 1) := by decide +kernel
theorem dX3_findLinks_64 : decode cX3_findLinks 64 = .ok (.istore_n 2, 1) := by decide +kernel
theorem dX3_findLinks_65 : decode cX3_findLinks 65 = .ok (.aload_n 0, 1) := by decide +kernel
theorem dX3_findLinks_66 : decode cX3_findLinks 66 = .ok (.getfield 32, 3) := by decide +kernel
theorem dX3_findLinks_69 : decode cX3_findLinks 69 = .ok (.iload_n 2, 1) := by decide +kernel
theorem dX3_findLinks_70 : decode cX3_findLinks 70 = .ok (.dup2, 1) := by decide +kernel
theorem dX3_findLinks_71 : decode cX3_findLinks 71 = .ok (.iaload, 1) := by decide +kernel
theorem dX3_findLinks_72 : decode cX3_findLinks 72 = .ok (.iconst 1, 1) := by decide +kernel
theorem dX3_findLinks_73 : decode cX3_findLinks 73 = .ok (.aload_n 0, 1) := by decide +kernel
theorem dX3_findLinks_74 : decode cX3_findLinks 74 = .ok (.getfield 75, 3) := by decide +kernel
theorem dX3_findLinks_77 : decode cX3_findLinks 77 = .ok (.ishl, 1) := by decide +kernel
theorem dX3_findLinks_78 : decode cX3_findLinks 78 = .ok (.ior, 1) := by decide +kernel
theorem dX3_findLinks_79 : decode cX3_findLinks 79 = .ok (.iastore, 1) := by decide +kernel
theorem dX3_findLinks_80 : decode cX3_findLinks 80 = .ok (.aload_n 0, 1) := by decide +kernel
theorem dX3_findLinks_81 : decode cX3_findLinks 81 = .ok (.getfield 29, 3) := by decide +kernel
theorem dX3_findLinks_84 : decode cX3_findLinks 84 = .ok (.aload_n 0, 1) := by decide +kernel
theorem dX3_findLinks_85 : decode cX3_findLinks 85 = .ok (.getfield 75, 3) := by decide +kernel
theorem dX3_findLinks_88 : decode cX3_findLinks 88 = .ok (.iload_n 1, 1) := by decide +kernel
theorem dX3_findLinks_89 : decode cX3_findLinks 89 = .ok (.iastore, 1) := by decide +kernel
theorem dX3_findLinks_90 : decode cX3_findLinks 90 = .ok (.aload_n 0, 1) := by decide +kernel
theorem dX3_findLinks_91 : decode cX3_findLinks 91 = .ok (.dup, 1) := by decide +kernel
theorem dX3_findLinks_92 : decode cX3_findLinks 92 = .ok (.getfield 75, 3) := by decide +kernel
theorem dX3_findLinks_95 : decode cX3_findLinks 95 = .ok (.iconst 1, 1) := by decide +kernel
theorem dX3_findLinks_96 : decode cX3_findLinks 96 = .ok (.iadd, 1) := by decide +kernel
theorem dX3_findLinks_97 : decode cX3_findLinks 97 = .ok (.putfield 75, 3) := by decide +kernel
theorem dX3_findLinks_100 : decode cX3_findLinks 100 = .ok (.iinc 1 1, 3) := by decide +kernel
theorem dX3_findLinks_103 : decode cX3_findLinks 103 = .ok (.goto (-88), 3) := by decide +kernel
theorem dX3_findLinks_106 : decode cX3_findLinks 106 = .ok (.return_, 1) := by decide +kernel
theorem dX3_fillFitting_0 : decode cX3_fillFitting 0 = .ok (.aload_n 0, 1) := by decide +kernel
theorem dX3_fillFitting_1 : decode cX3_fillFitting 1 = .ok (.lconst 0, 1) := by decide +kernel
theorem dX3_fillFitting_2 : decode cX3_fillFitting 2 = .ok (.putfield 81, 3) := by decide +kernel
theorem dX3_fillFitting_5 : decode cX3_fillFitting 5 = .ok (.iconst 0, 1) := by decide +kernel
theorem dX3_fillFitting_6 : decode cX3_fillFitting 6 = .ok (.istore_n 2, 1) := by decide +kernel
theorem dX3_fillFitting_7 : decode cX3_fillFitting 7 = .ok (.iload_n 2, 1) := by decide +kernel
theorem dX3_fillFitting_8 : decode cX3_fillFitting 8 = .ok (.bipush 64, 2) := by decide +kernel
theorem dX3_fillFitting_10 : decode cX3_fillFitting 10 = .ok (.if_icmp .ge 40, 3) := by decide +kernel
theorem dX3_fillFitting_13 : decode cX3_fillFitting 13 = .ok (.iload_n 2, 1) := by decide +kernel
theorem dX3_fillFitting_14 : decode cX3_fillFitting 14 = .ok (.aload_n 0, 1) := by decide +kernel
theorem dX3_fillFitting_15 : decode cX3_fillFitting 15 = .ok (.getfield 45, 3) := by decide +kernel
theorem dX3_fillFitting_18 : decode cX3_fillFitting 18 = .ok (.iconst (-1), 1) := by decide +kernel
theorem dX3_fillFitting_19 : decode cX3_fillFitting 19 = .ok (.ixor, 1) := by decide +kernel
theorem dX3_fillFitting_20 : decode cX3_fillFitting 20 = .ok (.iand, 1) := by decide +kernel
theorem dX3_fillFitting_21 : decode cX3_fillFitting 21 = .ok (.ifCond .ne 23, 3) := by decide +kernel
theorem dX3_fillFitting_24 : decode cX3_fillFitting 24 = .ok (.iload_n 2, 1) := by decide +kernel
theorem dX3_fillFitting_25 : decode cX3_fillFitting 25 = .ok (.invokestatic 135, 3) := by decide +kernel
theorem dX3_fillFitting_28 : decode cX3_fillFitting 28 = .ok (.iload_n 1, 1) := by decide +kernel
theorem dX3_fillFitting_29 : decode cX3_fillFitting 29 = .ok (.if_icmp .gt 15, 3) := by decide +kernel
theorem dX3_fillFitting_32 : decode cX3_fillFitting 32 = .ok (.aload_n 0, 1) := by decide +kernel
theorem dX3_fillFitting_33 : decode cX3_fillFitting 33 = .ok (.dup, 1) := by decide +kernel
theorem dX3_fillFitting_34 : decode cX3_fillFitting 34 = .ok (.getfield 81, 3) := by decide +kernel
theorem dX3_fillFitting_37 : decode cX3_fillFitting 37 = .ok (.lconst 1, 1) := by decide +kernel
theorem dX3_fillFitting_38 : decode cX3_fillFitting 38 = .ok (.iload_n 2, 1) := by decide +kernel
theorem dX3_fillFitting_39 : decode cX3_fillFitting 39 = .ok (.lshl, 1) := by decide +kernel
theorem dX3_fillFitting_40 : decode cX3_fillFitting 40 = .ok (.lor, 1) := by decide +kernel
theorem dX3_fillFitting_41 : decode cX3_fillFitting 41 = .ok (.putfield 81, 3) := by decide +kernel
theorem dX3_fillFitting_44 : decode cX3_fillFitting 44 = .ok (.iinc 2 1, 3) := by decide +kernel
theorem dX3_fillFitting_47 : decode cX3_fillFitting 47 = .ok (.goto (-40), 3) := by decide +kernel
theorem dX3_fillFitting_50 : decode cX3_fillFitting 50 = .ok (.return_, 1) := by decide +kernel
theorem dX3_fillVerdicts_0 : decode cX3_fillVerdicts 0 = .ok (.aload_n 0, 1) := by decide +kernel
theorem dX3_fillVerdicts_1 : decode cX3_fillVerdicts 1 = .ok (.getfield 45, 3) := by decide +kernel
theorem dX3_fillVerdicts_4 : decode cX3_fillVerdicts 4 = .ok (.invokestatic 135, 3) := by decide +kernel
theorem dX3_fillVerdicts_7 : decode cX3_fillVerdicts 7 = .ok (.istore_n 1, 1) := by decide +kernel
theorem dX3_fillVerdicts_8 : decode cX3_fillVerdicts 8 = .ok (.iconst 0, 1) := by decide +kernel
theorem dX3_fillVerdicts_9 : decode cX3_fillVerdicts 9 = .ok (.istore_n 2, 1) := by decide +kernel
theorem dX3_fillVerdicts_10 : decode cX3_fillVerdicts 10 = .ok (.iload_n 2, 1) := by decide +kernel
theorem dX3_fillVerdicts_11 : decode cX3_fillVerdicts 11 = .ok (.iload_n 1, 1) := by decide +kernel
theorem dX3_fillVerdicts_12 : decode cX3_fillVerdicts 12 = .ok (.if_icmp .gt 73, 3) := by decide +kernel
theorem dX3_fillVerdicts_15 : decode cX3_fillVerdicts 15 = .ok (.iconst 0, 1) := by decide +kernel
theorem dX3_fillVerdicts_16 : decode cX3_fillVerdicts 16 = .ok (.istore_n 3, 1) := by decide +kernel
theorem dX3_fillVerdicts_17 : decode cX3_fillVerdicts 17 = .ok (.iload_n 3, 1) := by decide +kernel
theorem dX3_fillVerdicts_18 : decode cX3_fillVerdicts 18 = .ok (.iload_n 2, 1) := by decide +kernel
theorem dX3_fillVerdicts_19 : decode cX3_fillVerdicts 19 = .ok (.if_icmp .gt 60, 3) := by decide +kernel
theorem dX3_fillVerdicts_22 : decode cX3_fillVerdicts 22 = .ok (.iconst 0, 1) := by decide +kernel
theorem dX3_fillVerdicts_23 : decode cX3_fillVerdicts 23 = .ok (.istore 4, 2) := by decide +kernel
theorem dX3_fillVerdicts_25 : decode cX3_fillVerdicts 25 = .ok (.iload 4, 2) := by decide +kernel
theorem dX3_fillVerdicts_27 : decode cX3_fillVerdicts 27 = .ok (.iload_n 2, 1) := by decide +kernel
theorem dX3_fillVerdicts_28 : decode cX3_fillVerdicts 28 = .ok (.iload_n 3, 1) := by decide +kernel
theorem dX3_fillVerdicts_29 : decode cX3_fillVerdicts 29 = .ok (.isub, 1) := by decide +kernel
theorem dX3_fillVerdicts_30 : decode cX3_fillVerdicts 30 = .ok (.if_icmp .gt 43, 3) := by decide +kernel
theorem dX3_fillVerdicts_33 : decode cX3_fillVerdicts 33 = .ok (.aload_n 0, 1) := by decide +kernel
theorem dX3_fillVerdicts_34 : decode cX3_fillVerdicts 34 = .ok (.getfield 18, 3) := by decide +kernel
theorem dX3_fillVerdicts_37 : decode cX3_fillVerdicts 37 = .ok (.iload_n 3, 1) := by decide +kernel
theorem dX3_fillVerdicts_38 : decode cX3_fillVerdicts 38 = .ok (.bipush 7, 2) := by decide +kernel
theorem dX3_fillVerdicts_40 : decode cX3_fillVerdicts 40 = .ok (.imul, 1) := by decide +kernel
theorem dX3_fillVerdicts_41 : decode cX3_fillVerdicts 41 = .ok (.iload 4, 2) := by decide +kernel
theorem dX3_fillVerdicts_43 : decode cX3_fillVerdicts 43 = .ok (.iadd, 1) := by decide +kernel
theorem dX3_fillVerdicts_44 : decode cX3_fillVerdicts 44 = .ok (.bipush 7, 2) := by decide +kernel
theorem dX3_fillVerdicts_46 : decode cX3_fillVerdicts 46 = .ok (.imul, 1) := by decide +kernel
theorem dX3_fillVerdicts_47 : decode cX3_fillVerdicts 47 = .ok (.iload_n 2, 1) := by decide +kernel
theorem dX3_fillVerdicts_48 : decode cX3_fillVerdicts 48 = .ok (.iadd, 1) := by decide +kernel
theorem dX3_fillVerdicts_49 : decode cX3_fillVerdicts 49 = .ok (.aload_n 0, 1) := by decide +kernel
theorem dX3_fillVerdicts_50 : decode cX3_fillVerdicts 50 = .ok (.getfield 38, 3) := by decide +kernel
theorem dX3_fillVerdicts_53 : decode cX3_fillVerdicts 53 = .ok (.getfield 141, 3) := by decide +kernel
theorem dX3_fillVerdicts_56 : decode cX3_fillVerdicts 56 = .ok (.iload_n 3, 1) := by decide +kernel
theorem dX3_fillVerdicts_57 : decode cX3_fillVerdicts 57 = .ok (.iload 4, 2) := by decide +kernel
theorem dX3_fillVerdicts_59 : decode cX3_fillVerdicts 59 = .ok (.iload_n 2, 1) := by decide +kernel
theorem dX3_fillVerdicts_60 : decode cX3_fillVerdicts 60 = .ok (.iload_n 1, 1) := by decide +kernel
theorem dX3_fillVerdicts_61 : decode cX3_fillVerdicts 61 = .ok (.iload_n 2, 1) := by decide +kernel
theorem dX3_fillVerdicts_62 : decode cX3_fillVerdicts 62 = .ok (.isub, 1) := by decide +kernel
theorem dX3_fillVerdicts_63 : decode cX3_fillVerdicts 63 = .ok (.invokevirtual 145, 3) := by decide +kernel
theorem dX3_fillVerdicts_66 : decode cX3_fillVerdicts 66 = .ok (.bastore, 1) := by decide +kernel
theorem dX3_fillVerdicts_67 : decode cX3_fillVerdicts 67 = .ok (.iinc 4 1, 3) := by decide +kernel
theorem dX3_fillVerdicts_70 : decode cX3_fillVerdicts 70 = .ok (.goto (-45), 3) := by decide +kernel
theorem dX3_fillVerdicts_73 : decode cX3_fillVerdicts 73 = .ok (.iinc 3 1, 3) := by decide +kernel
theorem dX3_fillVerdicts_76 : decode cX3_fillVerdicts 76 = .ok (.goto (-59), 3) := by decide +kernel
theorem dX3_fillVerdicts_79 : decode cX3_fillVerdicts 79 = .ok (.iinc 2 1, 3) := by decide +kernel
theorem dX3_fillVerdicts_82 : decode cX3_fillVerdicts 82 = .ok (.goto (-72), 3) := by decide +kernel
theorem dX3_fillVerdicts_85 : decode cX3_fillVerdicts 85 = .ok (.return_, 1) := by decide +kernel
theorem dX3_fillPassing_0 : decode cX3_fillPassing 0 = .ok (.iconst 0, 1) := by decide +kernel
theorem dX3_fillPassing_1 : decode cX3_fillPassing 1 = .ok (.istore_n 1, 1) := by decide +kernel
theorem dX3_fillPassing_2 : decode cX3_fillPassing 2 = .ok (.iload_n 1, 1) := by decide +kernel
theorem dX3_fillPassing_3 : decode cX3_fillPassing 3 = .ok (.aload_n 0, 1) := by decide +kernel
theorem dX3_fillPassing_4 : decode cX3_fillPassing 4 = .ok (.getfield 72, 3) := by decide +kernel
theorem dX3_fillPassing_7 : decode cX3_fillPassing 7 = .ok (.if_icmp .ge 53, 3) := by decide +kernel
theorem dX3_fillPassing_10 : decode cX3_fillPassing 10 = .ok (.iconst 0, 1) := by decide +kernel
theorem dX3_fillPassing_11 : decode cX3_fillPassing 11 = .ok (.istore_n 2, 1) := by decide +kernel
theorem dX3_fillPassing_12 : decode cX3_fillPassing 12 = .ok (.iload_n 2, 1) := by decide +kernel
theorem dX3_fillPassing_13 : decode cX3_fillPassing 13 = .ok (.iconst 1, 1) := by decide +kernel
theorem dX3_fillPassing_14 : decode cX3_fillPassing 14 = .ok (.aload_n 0, 1) := by decide +kernel
theorem dX3_fillPassing_15 : decode cX3_fillPassing 15 = .ok (.getfield 75, 3) := by decide +kernel
theorem dX3_fillPassing_18 : decode cX3_fillPassing 18 = .ok (.ishl, 1) := by decide +kernel
theorem dX3_fillPassing_19 : decode cX3_fillPassing 19 = .ok (.if_icmp .ge 35, 3) := by decide +kernel
theorem dX3_fillPassing_22 : decode cX3_fillPassing 22 = .ok (.aload_n 0, 1) := by decide +kernel
theorem dX3_fillPassing_23 : decode cX3_fillPassing 23 = .ok (.getfield 15, 3) := by decide +kernel
theorem dX3_fillPassing_26 : decode cX3_fillPassing 26 = .ok (.iload_n 1, 1) := by decide +kernel
theorem dX3_fillPassing_27 : decode cX3_fillPassing 27 = .ok (.bipush 16, 2) := by decide +kernel
theorem dX3_fillPassing_29 : decode cX3_fillPassing 29 = .ok (.imul, 1) := by decide +kernel
theorem dX3_fillPassing_30 : decode cX3_fillPassing 30 = .ok (.iload_n 2, 1) := by decide +kernel
theorem dX3_fillPassing_31 : decode cX3_fillPassing 31 = .ok (.iadd, 1) := by decide +kernel
theorem dX3_fillPassing_32 : decode cX3_fillPassing 32 = .ok (.aload_n 0, 1) := by decide +kernel
theorem dX3_fillPassing_33 : decode cX3_fillPassing 33 = .ok (.aload_n 0, 1) := by decide +kernel
theorem dX3_fillPassing_34 : decode cX3_fillPassing 34 = .ok (.getfield 22, 3) := by decide +kernel
theorem dX3_fillPassing_37 : decode cX3_fillPassing 37 = .ok (.iload_n 1, 1) := by decide +kernel
theorem dX3_fillPassing_38 : decode cX3_fillPassing 38 = .ok (.iaload, 1) := by decide +kernel
theorem dX3_fillPassing_39 : decode cX3_fillPassing 39 = .ok (.aload_n 0, 1) := by decide +kernel
theorem dX3_fillPassing_40 : decode cX3_fillPassing 40 = .ok (.iload_n 2, 1) := by decide +kernel
theorem dX3_fillPassing_41 : decode cX3_fillPassing 41 = .ok (.invokevirtual 151, 3) := by decide +kernel
theorem dX3_fillPassing_44 : decode cX3_fillPassing 44 = .ok (.invokevirtual 154, 3) := by decide +kernel
theorem dX3_fillPassing_47 : decode cX3_fillPassing 47 = .ok (.lastore, 1) := by decide +kernel
theorem dX3_fillPassing_48 : decode cX3_fillPassing 48 = .ok (.iinc 2 1, 3) := by decide +kernel
theorem dX3_fillPassing_51 : decode cX3_fillPassing 51 = .ok (.goto (-39), 3) := by decide +kernel
theorem dX3_fillPassing_54 : decode cX3_fillPassing 54 = .ok (.iinc 1 1, 3) := by decide +kernel
theorem dX3_fillPassing_57 : decode cX3_fillPassing 57 = .ok (.goto (-55), 3) := by decide +kernel
theorem dX3_fillPassing_60 : decode cX3_fillPassing 60 = .ok (.return_, 1) := by decide +kernel
theorem dX3_passingSets_0 : decode cX3_passingSets 0 = .ok (.aload_n 0, 1) := by decide +kernel
theorem dX3_passingSets_1 : decode cX3_passingSets 1 = .ok (.getfield 38, 3) := by decide +kernel
theorem dX3_passingSets_4 : decode cX3_passingSets 4 = .ok (.iload_n 1, 1) := by decide +kernel
theorem dX3_passingSets_5 : decode cX3_passingSets 5 = .ok (.iload_n 2, 1) := by decide +kernel
theorem dX3_passingSets_6 : decode cX3_passingSets 6 = .ok (.invokevirtual 158, 3) := by decide +kernel
theorem dX3_passingSets_9 : decode cX3_passingSets 9 = .ok (.istore_n 3, 1) := by decide +kernel
theorem dX3_passingSets_10 : decode cX3_passingSets 10 = .ok (.aload_n 0, 1) := by decide +kernel
theorem dX3_passingSets_11 : decode cX3_passingSets 11 = .ok (.getfield 38, 3) := by decide +kernel
theorem dX3_passingSets_14 : decode cX3_passingSets 14 = .ok (.getfield 162, 3) := by decide +kernel
theorem dX3_passingSets_17 : decode cX3_passingSets 17 = .ok (.iload_n 1, 1) := by decide +kernel
theorem dX3_passingSets_18 : decode cX3_passingSets 18 = .ok (.iaload, 1) := by decide +kernel
theorem dX3_passingSets_19 : decode cX3_passingSets 19 = .ok (.iload_n 3, 1) := by decide +kernel
theorem dX3_passingSets_20 : decode cX3_passingSets 20 = .ok (.ior, 1) := by decide +kernel
theorem dX3_passingSets_21 : decode cX3_passingSets 21 = .ok (.istore 4, 2) := by decide +kernel
theorem dX3_passingSets_23 : decode cX3_passingSets 23 = .ok (.aload_n 0, 1) := by decide +kernel
theorem dX3_passingSets_24 : decode cX3_passingSets 24 = .ok (.getfield 38, 3) := by decide +kernel
theorem dX3_passingSets_27 : decode cX3_passingSets 27 = .ok (.getfield 165, 3) := by decide +kernel
theorem dX3_passingSets_30 : decode cX3_passingSets 30 = .ok (.iload_n 1, 1) := by decide +kernel
theorem dX3_passingSets_31 : decode cX3_passingSets 31 = .ok (.iaload, 1) := by decide +kernel
theorem dX3_passingSets_32 : decode cX3_passingSets 32 = .ok (.iload_n 3, 1) := by decide +kernel
theorem dX3_passingSets_33 : decode cX3_passingSets 33 = .ok (.iconst (-1), 1) := by decide +kernel
theorem dX3_passingSets_34 : decode cX3_passingSets 34 = .ok (.ixor, 1) := by decide +kernel
theorem dX3_passingSets_35 : decode cX3_passingSets 35 = .ok (.iand, 1) := by decide +kernel
theorem dX3_passingSets_36 : decode cX3_passingSets 36 = .ok (.istore 5, 2) := by decide +kernel
theorem dX3_passingSets_38 : decode cX3_passingSets 38 = .ok (.lconst 0, 1) := by decide +kernel
theorem dX3_passingSets_39 : decode cX3_passingSets 39 = .ok (.lstore 6, 2) := by decide +kernel
theorem dX3_passingSets_41 : decode cX3_passingSets 41 = .ok (.iconst 0, 1) := by decide +kernel
theorem dX3_passingSets_42 : decode cX3_passingSets 42 = .ok (.istore 8, 2) := by decide +kernel
theorem dX3_passingSets_44 : decode cX3_passingSets 44 = .ok (.iload 8, 2) := by decide +kernel
theorem dX3_passingSets_46 : decode cX3_passingSets 46 = .ok (.bipush 64, 2) := by decide +kernel
theorem dX3_passingSets_48 : decode cX3_passingSets 48 = .ok (.if_icmp .ge 77, 3) := by decide +kernel
theorem dX3_passingSets_51 : decode cX3_passingSets 51 = .ok (.iload 8, 2) := by decide +kernel
theorem dX3_passingSets_53 : decode cX3_passingSets 53 = .ok (.iload 4, 2) := by decide +kernel
theorem dX3_passingSets_55 : decode cX3_passingSets 55 = .ok (.iand, 1) := by decide +kernel
theorem dX3_passingSets_56 : decode cX3_passingSets 56 = .ok (.invokestatic 135, 3) := by decide +kernel
theorem dX3_passingSets_59 : decode cX3_passingSets 59 = .ok (.istore 9, 2) := by decide +kernel
theorem dX3_passingSets_61 : decode cX3_passingSets 61 = .ok (.iload 8, 2) := by decide +kernel
theorem dX3_passingSets_63 : decode cX3_passingSets 63 = .ok (.iload 5, 2) := by decide +kernel
theorem dX3_passingSets_65 : decode cX3_passingSets 65 = .ok (.iand, 1) := by decide +kernel
theorem dX3_passingSets_66 : decode cX3_passingSets 66 = .ok (.invokestatic 135, 3) := by decide +kernel
theorem dX3_passingSets_69 : decode cX3_passingSets 69 = .ok (.istore 10, 2) := by decide +kernel
theorem dX3_passingSets_71 : decode cX3_passingSets 71 = .ok (.aload_n 0, 1) := by decide +kernel
theorem dX3_passingSets_72 : decode cX3_passingSets 72 = .ok (.getfield 81, 3) := by decide +kernel
theorem dX3_passingSets_75 : decode cX3_passingSets 75 = .ok (.iload 8, 2) := by decide +kernel
theorem dX3_passingSets_77 : decode cX3_passingSets 77 = .ok (.lushr, 1) := by decide +kernel
theorem dX3_passingSets_78 : decode cX3_passingSets 78 = .ok (.lconst 1, 1) := by decide +kernel
theorem dX3_passingSets_79 : decode cX3_passingSets 79 = .ok (.land, 1) := by decide +kernel
theorem dX3_passingSets_80 : decode cX3_passingSets 80 = .ok (.lconst 0, 1) := by decide +kernel
theorem dX3_passingSets_81 : decode cX3_passingSets 81 = .ok (.lcmp, 1) := by decide +kernel
theorem dX3_passingSets_82 : decode cX3_passingSets 82 = .ok (.ifCond .eq 37, 3) := by decide +kernel
theorem dX3_passingSets_85 : decode cX3_passingSets 85 = .ok (.aload_n 0, 1) := by decide +kernel
theorem dX3_passingSets_86 : decode cX3_passingSets 86 = .ok (.getfield 18, 3) := by decide +kernel
theorem dX3_passingSets_89 : decode cX3_passingSets 89 = .ok (.iload 9, 2) := by decide +kernel
theorem dX3_passingSets_91 : decode cX3_passingSets 91 = .ok (.bipush 7, 2) := by decide +kernel
theorem dX3_passingSets_93 : decode cX3_passingSets 93 = .ok (.imul, 1) := by decide +kernel
theorem dX3_passingSets_94 : decode cX3_passingSets 94 = .ok (.iload 10, 2) := by decide +kernel
theorem dX3_passingSets_96 : decode cX3_passingSets 96 = .ok (.iadd, 1) := by decide +kernel
theorem dX3_passingSets_97 : decode cX3_passingSets 97 = .ok (.bipush 7, 2) := by decide +kernel
theorem dX3_passingSets_99 : decode cX3_passingSets 99 = .ok (.imul, 1) := by decide +kernel
theorem dX3_passingSets_100 : decode cX3_passingSets 100 = .ok (.iload 8, 2) := by decide +kernel
theorem dX3_passingSets_102 : decode cX3_passingSets 102 = .ok (.invokestatic 135, 3) := by decide +kernel
theorem dX3_passingSets_105 : decode cX3_passingSets 105 = .ok (.iadd, 1) := by decide +kernel
theorem dX3_passingSets_106 : decode cX3_passingSets 106 = .ok (.baload, 1) := by decide +kernel
theorem dX3_passingSets_107 : decode cX3_passingSets 107 = .ok (.ifCond .eq 12, 3) := by decide +kernel
theorem dX3_passingSets_110 : decode cX3_passingSets 110 = .ok (.lload 6, 2) := by decide +kernel
theorem dX3_passingSets_112 : decode cX3_passingSets 112 = .ok (.lconst 1, 1) := by decide +kernel
theorem dX3_passingSets_113 : decode cX3_passingSets 113 = .ok (.iload 8, 2) := by decide +kernel
theorem dX3_passingSets_115 : decode cX3_passingSets 115 = .ok (.lshl, 1) := by decide +kernel
theorem dX3_passingSets_116 : decode cX3_passingSets 116 = .ok (.lor, 1) := by decide +kernel
theorem dX3_passingSets_117 : decode cX3_passingSets 117 = .ok (.lstore 6, 2) := by decide +kernel
theorem dX3_passingSets_119 : decode cX3_passingSets 119 = .ok (.iinc 8 1, 3) := by decide +kernel
theorem dX3_passingSets_122 : decode cX3_passingSets 122 = .ok (.goto (-78), 3) := by decide +kernel
theorem dX3_passingSets_125 : decode cX3_passingSets 125 = .ok (.lload 6, 2) := by decide +kernel
theorem dX3_passingSets_127 : decode cX3_passingSets 127 = .ok (.lreturn, 1) := by decide +kernel
theorem dX3_dealsOf_0 : decode cX3_dealsOf 0 = .ok (.iconst 0, 1) := by decide +kernel
theorem dX3_dealsOf_1 : decode cX3_dealsOf 1 = .ok (.istore_n 2, 1) := by decide +kernel
theorem dX3_dealsOf_2 : decode cX3_dealsOf 2 = .ok (.iconst 0, 1) := by decide +kernel
theorem dX3_dealsOf_3 : decode cX3_dealsOf 3 = .ok (.istore_n 3, 1) := by decide +kernel
theorem dX3_dealsOf_4 : decode cX3_dealsOf 4 = .ok (.iload_n 3, 1) := by decide +kernel
theorem dX3_dealsOf_5 : decode cX3_dealsOf 5 = .ok (.aload_n 0, 1) := by decide +kernel
theorem dX3_dealsOf_6 : decode cX3_dealsOf 6 = .ok (.getfield 75, 3) := by decide +kernel
theorem dX3_dealsOf_9 : decode cX3_dealsOf 9 = .ok (.if_icmp .ge 28, 3) := by decide +kernel
theorem dX3_dealsOf_12 : decode cX3_dealsOf 12 = .ok (.iload_n 1, 1) := by decide +kernel
theorem dX3_dealsOf_13 : decode cX3_dealsOf 13 = .ok (.iload_n 3, 1) := by decide +kernel
theorem dX3_dealsOf_14 : decode cX3_dealsOf 14 = .ok (.ishr, 1) := by decide +kernel
theorem dX3_dealsOf_15 : decode cX3_dealsOf 15 = .ok (.iconst 1, 1) := by decide +kernel
theorem dX3_dealsOf_16 : decode cX3_dealsOf 16 = .ok (.iand, 1) := by decide +kernel
theorem dX3_dealsOf_17 : decode cX3_dealsOf 17 = .ok (.ifCond .eq 14, 3) := by decide +kernel
theorem dX3_dealsOf_20 : decode cX3_dealsOf 20 = .ok (.iload_n 2, 1) := by decide +kernel
theorem dX3_dealsOf_21 : decode cX3_dealsOf 21 = .ok (.iconst 1, 1) := by decide +kernel
theorem dX3_dealsOf_22 : decode cX3_dealsOf 22 = .ok (.aload_n 0, 1) := by decide +kernel
theorem dX3_dealsOf_23 : decode cX3_dealsOf 23 = .ok (.getfield 29, 3) := by decide +kernel
theorem dX3_dealsOf_26 : decode cX3_dealsOf 26 = .ok (.iload_n 3, 1) := by decide +kernel
theorem dX3_dealsOf_27 : decode cX3_dealsOf 27 = .ok (.iaload, 1) := by decide +kernel
theorem dX3_dealsOf_28 : decode cX3_dealsOf 28 = .ok (.ishl, 1) := by decide +kernel
theorem dX3_dealsOf_29 : decode cX3_dealsOf 29 = .ok (.ior, 1) := by decide +kernel
theorem dX3_dealsOf_30 : decode cX3_dealsOf 30 = .ok (.istore_n 2, 1) := by decide +kernel
theorem dX3_dealsOf_31 : decode cX3_dealsOf 31 = .ok (.iinc 3 1, 3) := by decide +kernel
theorem dX3_dealsOf_34 : decode cX3_dealsOf 34 = .ok (.goto (-30), 3) := by decide +kernel
theorem dX3_dealsOf_37 : decode cX3_dealsOf 37 = .ok (.iload_n 2, 1) := by decide +kernel
theorem dX3_dealsOf_38 : decode cX3_dealsOf 38 = .ok (.ireturn, 1) := by decide +kernel
theorem dX3_startKey_0 : decode cX3_startKey 0 = .ok (.iconst 0, 1) := by decide +kernel
theorem dX3_startKey_1 : decode cX3_startKey 1 = .ok (.istore_n 2, 1) := by decide +kernel
theorem dX3_startKey_2 : decode cX3_startKey 2 = .ok (.iconst 0, 1) := by decide +kernel
theorem dX3_startKey_3 : decode cX3_startKey 3 = .ok (.istore_n 3, 1) := by decide +kernel
theorem dX3_startKey_4 : decode cX3_startKey 4 = .ok (.iload_n 3, 1) := by decide +kernel
theorem dX3_startKey_5 : decode cX3_startKey 5 = .ok (.aload_n 0, 1) := by decide +kernel
theorem dX3_startKey_6 : decode cX3_startKey 6 = .ok (.getfield 72, 3) := by decide +kernel
theorem dX3_startKey_9 : decode cX3_startKey 9 = .ok (.if_icmp .ge 32, 3) := by decide +kernel
theorem dX3_startKey_12 : decode cX3_startKey 12 = .ok (.aload_n 1, 1) := by decide +kernel
theorem dX3_startKey_13 : decode cX3_startKey 13 = .ok (.getfield 168, 3) := by decide +kernel
theorem dX3_startKey_16 : decode cX3_startKey 16 = .ok (.aload_n 0, 1) := by decide +kernel
theorem dX3_startKey_17 : decode cX3_startKey 17 = .ok (.getfield 22, 3) := by decide +kernel
theorem dX3_startKey_20 : decode cX3_startKey 20 = .ok (.iload_n 3, 1) := by decide +kernel
theorem dX3_startKey_21 : decode cX3_startKey 21 = .ok (.iaload, 1) := by decide +kernel
theorem dX3_startKey_22 : decode cX3_startKey 22 = .ok (.iaload, 1) := by decide +kernel
theorem dX3_startKey_23 : decode cX3_startKey 23 = .ok (.iconst 1, 1) := by decide +kernel
theorem dX3_startKey_24 : decode cX3_startKey 24 = .ok (.if_icmp .ne 11, 3) := by decide +kernel
theorem dX3_startKey_27 : decode cX3_startKey 27 = .ok (.iload_n 2, 1) := by decide +kernel
theorem dX3_startKey_28 : decode cX3_startKey 28 = .ok (.aload_n 0, 1) := by decide +kernel
theorem dX3_startKey_29 : decode cX3_startKey 29 = .ok (.iload_n 3, 1) := by decide +kernel
theorem dX3_startKey_30 : decode cX3_startKey 30 = .ok (.invokevirtual 171, 3) := by decide +kernel
theorem dX3_startKey_33 : decode cX3_startKey 33 = .ok (.ior, 1) := by decide +kernel
theorem dX3_startKey_34 : decode cX3_startKey 34 = .ok (.istore_n 2, 1) := by decide +kernel
theorem dX3_startKey_35 : decode cX3_startKey 35 = .ok (.iinc 3 1, 3) := by decide +kernel
theorem dX3_startKey_38 : decode cX3_startKey 38 = .ok (.goto (-34), 3) := by decide +kernel
theorem dX3_startKey_41 : decode cX3_startKey 41 = .ok (.aload_n 1, 1) := by decide +kernel
theorem dX3_startKey_42 : decode cX3_startKey 42 = .ok (.invokevirtual 174, 3) := by decide +kernel
theorem dX3_startKey_45 : decode cX3_startKey 45 = .ok (.istore_n 3, 1) := by decide +kernel
theorem dX3_startKey_46 : decode cX3_startKey 46 = .ok (.iconst 0, 1) := by decide +kernel
theorem dX3_startKey_47 : decode cX3_startKey 47 = .ok (.istore 4, 2) := by decide +kernel
theorem dX3_startKey_49 : decode cX3_startKey 49 = .ok (.iload 4, 2) := by decide +kernel
theorem dX3_startKey_51 : decode cX3_startKey 51 = .ok (.aload_n 0, 1) := by decide +kernel
theorem dX3_startKey_52 : decode cX3_startKey 52 = .ok (.getfield 75, 3) := by decide +kernel
theorem dX3_startKey_55 : decode cX3_startKey 55 = .ok (.if_icmp .ge 30, 3) := by decide +kernel
theorem dX3_startKey_58 : decode cX3_startKey 58 = .ok (.iload_n 3, 1) := by decide +kernel
theorem dX3_startKey_59 : decode cX3_startKey 59 = .ok (.aload_n 0, 1) := by decide +kernel
theorem dX3_startKey_60 : decode cX3_startKey 60 = .ok (.getfield 29, 3) := by decide +kernel
theorem dX3_startKey_63 : decode cX3_startKey 63 = .ok (.iload 4, 2) := by decide +kernel
theorem dX3_startKey_65 : decode cX3_startKey 65 = .ok (.iaload, 1) := by decide +kernel
theorem dX3_startKey_66 : decode cX3_startKey 66 = .ok (.ishr, 1) := by decide +kernel
theorem dX3_startKey_67 : decode cX3_startKey 67 = .ok (.iconst 1, 1) := by decide +kernel
theorem dX3_startKey_68 : decode cX3_startKey 68 = .ok (.iand, 1) := by decide +kernel
theorem dX3_startKey_69 : decode cX3_startKey 69 = .ok (.ifCond .eq 10, 3) := by decide +kernel
theorem dX3_startKey_72 : decode cX3_startKey 72 = .ok (.iload_n 2, 1) := by decide +kernel
theorem dX3_startKey_73 : decode cX3_startKey 73 = .ok (.iconst 1, 1) := by decide +kernel
theorem dX3_startKey_74 : decode cX3_startKey 74 = .ok (.iload 4, 2) := by decide +kernel
theorem dX3_startKey_76 : decode cX3_startKey 76 = .ok (.ishl, 1) := by decide +kernel
theorem dX3_startKey_77 : decode cX3_startKey 77 = .ok (.ior, 1) := by decide +kernel
theorem dX3_startKey_78 : decode cX3_startKey 78 = .ok (.istore_n 2, 1) := by decide +kernel
theorem dX3_startKey_79 : decode cX3_startKey 79 = .ok (.iinc 4 1, 3) := by decide +kernel
theorem dX3_startKey_82 : decode cX3_startKey 82 = .ok (.goto (-33), 3) := by decide +kernel
theorem dX3_startKey_85 : decode cX3_startKey 85 = .ok (.iload_n 2, 1) := by decide +kernel
theorem dX3_startKey_86 : decode cX3_startKey 86 = .ok (.ireturn, 1) := by decide +kernel
theorem dX3_spokenBit_0 : decode cX3_spokenBit 0 = .ok (.iconst 1, 1) := by decide +kernel
theorem dX3_spokenBit_1 : decode cX3_spokenBit 1 = .ok (.aload_n 0, 1) := by decide +kernel
theorem dX3_spokenBit_2 : decode cX3_spokenBit 2 = .ok (.getfield 75, 3) := by decide +kernel
theorem dX3_spokenBit_5 : decode cX3_spokenBit 5 = .ok (.iload_n 1, 1) := by decide +kernel
theorem dX3_spokenBit_6 : decode cX3_spokenBit 6 = .ok (.iadd, 1) := by decide +kernel
theorem dX3_spokenBit_7 : decode cX3_spokenBit 7 = .ok (.ishl, 1) := by decide +kernel
theorem dX3_spokenBit_8 : decode cX3_spokenBit 8 = .ok (.ireturn, 1) := by decide +kernel
theorem dX3_passedBit_0 : decode cX3_passedBit 0 = .ok (.iconst 1, 1) := by decide +kernel
theorem dX3_passedBit_1 : decode cX3_passedBit 1 = .ok (.aload_n 0, 1) := by decide +kernel
theorem dX3_passedBit_2 : decode cX3_passedBit 2 = .ok (.getfield 75, 3) := by decide +kernel
theorem dX3_passedBit_5 : decode cX3_passedBit 5 = .ok (.aload_n 0, 1) := by decide +kernel
theorem dX3_passedBit_6 : decode cX3_passedBit 6 = .ok (.getfield 72, 3) := by decide +kernel
theorem dX3_passedBit_9 : decode cX3_passedBit 9 = .ok (.iadd, 1) := by decide +kernel
theorem dX3_passedBit_10 : decode cX3_passedBit 10 = .ok (.iload_n 1, 1) := by decide +kernel
theorem dX3_passedBit_11 : decode cX3_passedBit 11 = .ok (.iadd, 1) := by decide +kernel
theorem dX3_passedBit_12 : decode cX3_passedBit 12 = .ok (.ishl, 1) := by decide +kernel
theorem dX3_passedBit_13 : decode cX3_passedBit 13 = .ok (.ireturn, 1) := by decide +kernel
theorem dX3_step_0 : decode cX3_step 0 = .ok (.aload_n 0, 1) := by decide +kernel
theorem dX3_step_1 : decode cX3_step 1 = .ok (.getfield 11, 3) := by decide +kernel
theorem dX3_step_4 : decode cX3_step 4 = .ok (.iload_n 1, 1) := by decide +kernel
theorem dX3_step_5 : decode cX3_step 5 = .ok (.laload, 1) := by decide +kernel
theorem dX3_step_6 : decode cX3_step 6 = .ok (.lstore_n 3, 1) := by decide +kernel
theorem dX3_step_7 : decode cX3_step 7 = .ok (.lload_n 3, 1) := by decide +kernel
theorem dX3_step_8 : decode cX3_step 8 = .ok (.lstore 5, 2) := by decide +kernel
theorem dX3_step_10 : decode cX3_step 10 = .ok (.iconst 0, 1) := by decide +kernel
theorem dX3_step_11 : decode cX3_step 11 = .ok (.istore 7, 2) := by decide +kernel
theorem dX3_step_13 : decode cX3_step 13 = .ok (.iload 7, 2) := by decide +kernel
theorem dX3_step_15 : decode cX3_step 15 = .ok (.bipush 6, 2) := by decide +kernel
theorem dX3_step_17 : decode cX3_step 17 = .ok (.if_icmp .ge 53, 3) := by decide +kernel
theorem dX3_step_20 : decode cX3_step 20 = .ok (.aload_n 0, 1) := by decide +kernel
theorem dX3_step_21 : decode cX3_step 21 = .ok (.getfield 45, 3) := by decide +kernel
theorem dX3_step_24 : decode cX3_step 24 = .ok (.iload 7, 2) := by decide +kernel
theorem dX3_step_26 : decode cX3_step 26 = .ok (.ishr, 1) := by decide +kernel
theorem dX3_step_27 : decode cX3_step 27 = .ok (.iconst 1, 1) := by decide +kernel
theorem dX3_step_28 : decode cX3_step 28 = .ok (.iand, 1) := by decide +kernel
theorem dX3_step_29 : decode cX3_step 29 = .ok (.ifCond .eq 35, 3) := by decide +kernel
theorem dX3_step_32 : decode cX3_step 32 = .ok (.lload_n 3, 1) := by decide +kernel
theorem dX3_step_33 : decode cX3_step 33 = .ok (.getstatic 178, 3) := by decide +kernel
theorem dX3_step_36 : decode cX3_step 36 = .ok (.iload 7, 2) := by decide +kernel
theorem dX3_step_38 : decode cX3_step 38 = .ok (.laload, 1) := by decide +kernel
theorem dX3_step_39 : decode cX3_step 39 = .ok (.land, 1) := by decide +kernel
theorem dX3_step_40 : decode cX3_step 40 = .ok (.lstore 8, 2) := by decide +kernel
theorem dX3_step_42 : decode cX3_step 42 = .ok (.lload 5, 2) := by decide +kernel
theorem dX3_step_44 : decode cX3_step 44 = .ok (.lload 8, 2) := by decide +kernel
theorem dX3_step_46 : decode cX3_step 46 = .ok (.iconst 1, 1) := by decide +kernel
theorem dX3_step_47 : decode cX3_step 47 = .ok (.iload 7, 2) := by decide +kernel
theorem dX3_step_49 : decode cX3_step 49 = .ok (.ishl, 1) := by decide +kernel
theorem dX3_step_50 : decode cX3_step 50 = .ok (.lshl, 1) := by decide +kernel
theorem dX3_step_51 : decode cX3_step 51 = .ok (.lload_n 3, 1) := by decide +kernel
theorem dX3_step_52 : decode cX3_step 52 = .ok (.lload 8, 2) := by decide +kernel
theorem dX3_step_54 : decode cX3_step 54 = .ok (.lxor, 1) := by decide +kernel
theorem dX3_step_55 : decode cX3_step 55 = .ok (.iconst 1, 1) := by decide +kernel
theorem dX3_step_56 : decode cX3_step 56 = .ok (.iload 7, 2) := by decide +kernel
theorem dX3_step_58 : decode cX3_step 58 = .ok (.ishl, 1) := by decide +kernel
theorem dX3_step_59 : decode cX3_step 59 = .ok (.lushr, 1) := by decide +kernel
theorem dX3_step_60 : decode cX3_step 60 = .ok (.lor, 1) := by decide +kernel
theorem dX3_step_61 : decode cX3_step 61 = .ok (.lor, 1) := by decide +kernel
theorem dX3_step_62 : decode cX3_step 62 = .ok (.lstore 5, 2) := by decide +kernel
theorem dX3_step_64 : decode cX3_step 64 = .ok (.iinc 7 1, 3) := by decide +kernel
theorem dX3_step_67 : decode cX3_step 67 = .ok (.goto (-54), 3) := by decide +kernel
theorem dX3_step_70 : decode cX3_step 70 = .ok (.aload_n 0, 1) := by decide +kernel
theorem dX3_step_71 : decode cX3_step 71 = .ok (.iload_n 1, 1) := by decide +kernel
theorem dX3_step_72 : decode cX3_step 72 = .ok (.lload 5, 2) := by decide +kernel
theorem dX3_step_74 : decode cX3_step 74 = .ok (.aload_n 0, 1) := by decide +kernel
theorem dX3_step_75 : decode cX3_step 75 = .ok (.getfield 81, 3) := by decide +kernel
theorem dX3_step_78 : decode cX3_step 78 = .ok (.land, 1) := by decide +kernel
theorem dX3_step_79 : decode cX3_step 79 = .ok (.invokevirtual 181, 3) := by decide +kernel
theorem dX3_step_82 : decode cX3_step 82 = .ok (.iconst 0, 1) := by decide +kernel
theorem dX3_step_83 : decode cX3_step 83 = .ok (.istore 7, 2) := by decide +kernel
theorem dX3_step_85 : decode cX3_step 85 = .ok (.iload 7, 2) := by decide +kernel
theorem dX3_step_87 : decode cX3_step 87 = .ok (.aload_n 0, 1) := by decide +kernel
theorem dX3_step_88 : decode cX3_step 88 = .ok (.getfield 38, 3) := by decide +kernel
theorem dX3_step_91 : decode cX3_step 91 = .ok (.getfield 93, 3) := by decide +kernel
theorem dX3_step_94 : decode cX3_step 94 = .ok (.getfield 99, 3) := by decide +kernel
theorem dX3_step_97 : decode cX3_step 97 = .ok (.if_icmp .ge 37, 3) := by decide +kernel
theorem dX3_step_100 : decode cX3_step 100 = .ok (.iload_n 2, 1) := by decide +kernel
theorem dX3_step_101 : decode cX3_step 101 = .ok (.aload_n 0, 1) := by decide +kernel
theorem dX3_step_102 : decode cX3_step 102 = .ok (.getfield 35, 3) := by decide +kernel
theorem dX3_step_105 : decode cX3_step 105 = .ok (.iload 7, 2) := by decide +kernel
theorem dX3_step_107 : decode cX3_step 107 = .ok (.iaload, 1) := by decide +kernel
theorem dX3_step_108 : decode cX3_step 108 = .ok (.if_icmp .ge 20, 3) := by decide +kernel
theorem dX3_step_111 : decode cX3_step 111 = .ok (.aload_n 0, 1) := by decide +kernel
theorem dX3_step_112 : decode cX3_step 112 = .ok (.iload_n 1, 1) := by decide +kernel
theorem dX3_step_113 : decode cX3_step 113 = .ok (.lload_n 3, 1) := by decide +kernel
theorem dX3_step_114 : decode cX3_step 114 = .ok (.iload 7, 2) := by decide +kernel
theorem dX3_step_116 : decode cX3_step 116 = .ok (.invokevirtual 185, 3) := by decide +kernel
theorem dX3_step_119 : decode cX3_step 119 = .ok (.aload_n 0, 1) := by decide +kernel
theorem dX3_step_120 : decode cX3_step 120 = .ok (.iload_n 1, 1) := by decide +kernel
theorem dX3_step_121 : decode cX3_step 121 = .ok (.lload_n 3, 1) := by decide +kernel
theorem dX3_step_122 : decode cX3_step 122 = .ok (.iload 7, 2) := by decide +kernel
theorem dX3_step_124 : decode cX3_step 124 = .ok (.iload_n 2, 1) := by decide +kernel
theorem dX3_step_125 : decode cX3_step 125 = .ok (.invokevirtual 189, 3) := by decide +kernel
theorem dX3_step_128 : decode cX3_step 128 = .ok (.iinc 7 1, 3) := by decide +kernel
theorem dX3_step_131 : decode cX3_step 131 = .ok (.goto (-46), 3) := by decide +kernel
theorem dX3_step_134 : decode cX3_step 134 = .ok (.return_, 1) := by decide +kernel
theorem dX3_add_0 : decode cX3_add 0 = .ok (.lload_n 2, 1) := by decide +kernel
theorem dX3_add_1 : decode cX3_add 1 = .ok (.aload_n 0, 1) := by decide +kernel
theorem dX3_add_2 : decode cX3_add 2 = .ok (.getfield 11, 3) := by decide +kernel
theorem dX3_add_5 : decode cX3_add 5 = .ok (.iload_n 1, 1) := by decide +kernel
theorem dX3_add_6 : decode cX3_add 6 = .ok (.laload, 1) := by decide +kernel
theorem dX3_add_7 : decode cX3_add 7 = .ok (.ldc2_w 193, 3) := by decide +kernel
theorem dX3_add_10 : decode cX3_add 10 = .ok (.lxor, 1) := by decide +kernel
theorem dX3_add_11 : decode cX3_add 11 = .ok (.land, 1) := by decide +kernel
theorem dX3_add_12 : decode cX3_add 12 = .ok (.lconst 0, 1) := by decide +kernel
theorem dX3_add_13 : decode cX3_add 13 = .ok (.lcmp, 1) := by decide +kernel
theorem dX3_add_14 : decode cX3_add 14 = .ok (.ifCond .eq 18, 3) := by decide +kernel
theorem dX3_add_17 : decode cX3_add 17 = .ok (.aload_n 0, 1) := by decide +kernel
theorem dX3_add_18 : decode cX3_add 18 = .ok (.getfield 11, 3) := by decide +kernel
theorem dX3_add_21 : decode cX3_add 21 = .ok (.iload_n 1, 1) := by decide +kernel
theorem dX3_add_22 : decode cX3_add 22 = .ok (.dup2, 1) := by decide +kernel
theorem dX3_add_23 : decode cX3_add 23 = .ok (.laload, 1) := by decide +kernel
theorem dX3_add_24 : decode cX3_add 24 = .ok (.lload_n 2, 1) := by decide +kernel
theorem dX3_add_25 : decode cX3_add 25 = .ok (.lor, 1) := by decide +kernel
theorem dX3_add_26 : decode cX3_add 26 = .ok (.lastore, 1) := by decide +kernel
theorem dX3_add_27 : decode cX3_add 27 = .ok (.aload_n 0, 1) := by decide +kernel
theorem dX3_add_28 : decode cX3_add 28 = .ok (.iconst 1, 1) := by decide +kernel
theorem dX3_add_29 : decode cX3_add 29 = .ok (.putfield 85, 3) := by decide +kernel
theorem dX3_add_32 : decode cX3_add 32 = .ok (.return_, 1) := by decide +kernel
theorem dX3_speakStep_0 : decode cX3_speakStep 0 = .ok (.aload_n 0, 1) := by decide +kernel
theorem dX3_speakStep_1 : decode cX3_speakStep 1 = .ok (.getfield 26, 3) := by decide +kernel
theorem dX3_speakStep_4 : decode cX3_speakStep 4 = .ok (.iload 4, 2) := by decide +kernel
theorem dX3_speakStep_6 : decode cX3_speakStep 6 = .ok (.iaload, 1) := by decide +kernel
theorem dX3_speakStep_7 : decode cX3_speakStep 7 = .ok (.istore 5, 2) := by decide +kernel
theorem dX3_speakStep_9 : decode cX3_speakStep 9 = .ok (.iload 5, 2) := by decide +kernel
theorem dX3_speakStep_11 : decode cX3_speakStep 11 = .ok (.ifCond .lt 15, 3) := by decide +kernel
theorem dX3_speakStep_14 : decode cX3_speakStep 14 = .ok (.iload_n 1, 1) := by decide +kernel
theorem dX3_speakStep_15 : decode cX3_speakStep 15 = .ok (.aload_n 0, 1) := by decide +kernel
theorem dX3_speakStep_16 : decode cX3_speakStep 16 = .ok (.iload 5, 2) := by decide +kernel
theorem dX3_speakStep_18 : decode cX3_speakStep 18 = .ok (.invokevirtual 195, 3) := by decide +kernel
theorem dX3_speakStep_21 : decode cX3_speakStep 21 = .ok (.iand, 1) := by decide +kernel
theorem dX3_speakStep_22 : decode cX3_speakStep 22 = .ok (.ifCond .eq 4, 3) := by decide +kernel
theorem dX3_speakStep_25 : decode cX3_speakStep 25 = .ok (.return_, 1) := by decide +kernel
theorem dX3_speakStep_26 : decode cX3_speakStep 26 = .ok (.iload 5, 2) := by decide +kernel
theorem dX3_speakStep_28 : decode cX3_speakStep 28 = .ok (.ifCond .lt 14, 3) := by decide +kernel
theorem dX3_speakStep_31 : decode cX3_speakStep 31 = .ok (.iload_n 1, 1) := by decide +kernel
theorem dX3_speakStep_32 : decode cX3_speakStep 32 = .ok (.aload_n 0, 1) := by decide +kernel
theorem dX3_speakStep_33 : decode cX3_speakStep 33 = .ok (.iload 5, 2) := by decide +kernel
theorem dX3_speakStep_35 : decode cX3_speakStep 35 = .ok (.invokevirtual 171, 3) := by decide +kernel
theorem dX3_speakStep_38 : decode cX3_speakStep 38 = .ok (.ior, 1) := by decide +kernel
theorem dX3_speakStep_39 : decode cX3_speakStep 39 = .ok (.goto 4, 3) := by decide +kernel
theorem dX3_speakStep_42 : decode cX3_speakStep 42 = .ok (.iload_n 1, 1) := by decide +kernel
theorem dX3_speakStep_43 : decode cX3_speakStep 43 = .ok (.istore 6, 2) := by decide +kernel
theorem dX3_speakStep_45 : decode cX3_speakStep 45 = .ok (.iconst 0, 1) := by decide +kernel
theorem dX3_speakStep_46 : decode cX3_speakStep 46 = .ok (.istore 7, 2) := by decide +kernel
theorem dX3_speakStep_48 : decode cX3_speakStep 48 = .ok (.iload 7, 2) := by decide +kernel
theorem dX3_speakStep_50 : decode cX3_speakStep 50 = .ok (.bipush 6, 2) := by decide +kernel
theorem dX3_speakStep_52 : decode cX3_speakStep 52 = .ok (.if_icmp .ge 58, 3) := by decide +kernel
theorem dX3_speakStep_55 : decode cX3_speakStep 55 = .ok (.iload 6, 2) := by decide +kernel
theorem dX3_speakStep_57 : decode cX3_speakStep 57 = .ok (.aload_n 0, 1) := by decide +kernel
theorem dX3_speakStep_58 : decode cX3_speakStep 58 = .ok (.getfield 32, 3) := by decide +kernel
theorem dX3_speakStep_61 : decode cX3_speakStep 61 = .ok (.iload 7, 2) := by decide +kernel
theorem dX3_speakStep_63 : decode cX3_speakStep 63 = .ok (.iconst 4, 1) := by decide +kernel
theorem dX3_speakStep_64 : decode cX3_speakStep 64 = .ok (.imul, 1) := by decide +kernel
theorem dX3_speakStep_65 : decode cX3_speakStep 65 = .ok (.iload 4, 2) := by decide +kernel
theorem dX3_speakStep_67 : decode cX3_speakStep 67 = .ok (.iadd, 1) := by decide +kernel
theorem dX3_speakStep_68 : decode cX3_speakStep 68 = .ok (.iaload, 1) := by decide +kernel
theorem dX3_speakStep_69 : decode cX3_speakStep 69 = .ok (.ior, 1) := by decide +kernel
theorem dX3_speakStep_70 : decode cX3_speakStep 70 = .ok (.istore 8, 2) := by decide +kernel
theorem dX3_speakStep_72 : decode cX3_speakStep 72 = .ok (.iload 8, 2) := by decide +kernel
theorem dX3_speakStep_74 : decode cX3_speakStep 74 = .ok (.iload_n 1, 1) := by decide +kernel
theorem dX3_speakStep_75 : decode cX3_speakStep 75 = .ok (.if_icmp .eq 29, 3) := by decide +kernel
theorem dX3_speakStep_78 : decode cX3_speakStep 78 = .ok (.aload_n 0, 1) := by decide +kernel
theorem dX3_speakStep_79 : decode cX3_speakStep 79 = .ok (.getfield 45, 3) := by decide +kernel
theorem dX3_speakStep_82 : decode cX3_speakStep 82 = .ok (.iload 7, 2) := by decide +kernel
theorem dX3_speakStep_84 : decode cX3_speakStep 84 = .ok (.ishr, 1) := by decide +kernel
theorem dX3_speakStep_85 : decode cX3_speakStep 85 = .ok (.iconst 1, 1) := by decide +kernel
theorem dX3_speakStep_86 : decode cX3_speakStep 86 = .ok (.iand, 1) := by decide +kernel
theorem dX3_speakStep_87 : decode cX3_speakStep 87 = .ok (.ifCond .eq 17, 3) := by decide +kernel
theorem dX3_speakStep_90 : decode cX3_speakStep 90 = .ok (.aload_n 0, 1) := by decide +kernel
theorem dX3_speakStep_91 : decode cX3_speakStep 91 = .ok (.iload 8, 2) := by decide +kernel
theorem dX3_speakStep_93 : decode cX3_speakStep 93 = .ok (.lload_n 2, 1) := by decide +kernel
theorem dX3_speakStep_94 : decode cX3_speakStep 94 = .ok (.getstatic 178, 3) := by decide +kernel
theorem dX3_speakStep_97 : decode cX3_speakStep 97 = .ok (.iload 7, 2) := by decide +kernel
theorem dX3_speakStep_99 : decode cX3_speakStep 99 = .ok (.laload, 1) := by decide +kernel
theorem dX3_speakStep_100 : decode cX3_speakStep 100 = .ok (.land, 1) := by decide +kernel
theorem dX3_speakStep_101 : decode cX3_speakStep 101 = .ok (.invokevirtual 181, 3) := by decide +kernel
theorem dX3_speakStep_104 : decode cX3_speakStep 104 = .ok (.iinc 7 1, 3) := by decide +kernel
theorem dX3_speakStep_107 : decode cX3_speakStep 107 = .ok (.goto (-59), 3) := by decide +kernel
theorem dX3_speakStep_110 : decode cX3_speakStep 110 = .ok (.return_, 1) := by decide +kernel
theorem dX3_voteStep_0 : decode cX3_voteStep 0 = .ok (.aload_n 0, 1) := by decide +kernel
theorem dX3_voteStep_1 : decode cX3_voteStep 1 = .ok (.getfield 26, 3) := by decide +kernel
theorem dX3_voteStep_4 : decode cX3_voteStep 4 = .ok (.iload 4, 2) := by decide +kernel
theorem dX3_voteStep_6 : decode cX3_voteStep 6 = .ok (.iaload, 1) := by decide +kernel
theorem dX3_voteStep_7 : decode cX3_voteStep 7 = .ok (.istore 6, 2) := by decide +kernel
theorem dX3_voteStep_9 : decode cX3_voteStep 9 = .ok (.iload 6, 2) := by decide +kernel
theorem dX3_voteStep_11 : decode cX3_voteStep 11 = .ok (.ifCond .lt 25, 3) := by decide +kernel
theorem dX3_voteStep_14 : decode cX3_voteStep 14 = .ok (.iload_n 1, 1) := by decide +kernel
theorem dX3_voteStep_15 : decode cX3_voteStep 15 = .ok (.aload_n 0, 1) := by decide +kernel
theorem dX3_voteStep_16 : decode cX3_voteStep 16 = .ok (.iload 6, 2) := by decide +kernel
theorem dX3_voteStep_18 : decode cX3_voteStep 18 = .ok (.invokevirtual 171, 3) := by decide +kernel
theorem dX3_voteStep_21 : decode cX3_voteStep 21 = .ok (.iand, 1) := by decide +kernel
theorem dX3_voteStep_22 : decode cX3_voteStep 22 = .ok (.ifCond .eq 14, 3) := by decide +kernel
theorem dX3_voteStep_25 : decode cX3_voteStep 25 = .ok (.iload_n 1, 1) := by decide +kernel
theorem dX3_voteStep_26 : decode cX3_voteStep 26 = .ok (.aload_n 0, 1) := by decide +kernel
theorem dX3_voteStep_27 : decode cX3_voteStep 27 = .ok (.iload 6, 2) := by decide +kernel
theorem dX3_voteStep_29 : decode cX3_voteStep 29 = .ok (.invokevirtual 195, 3) := by decide +kernel
theorem dX3_voteStep_32 : decode cX3_voteStep 32 = .ok (.iand, 1) := by decide +kernel
theorem dX3_voteStep_33 : decode cX3_voteStep 33 = .ok (.ifCond .eq 4, 3) := by decide +kernel
theorem dX3_voteStep_36 : decode cX3_voteStep 36 = .ok (.return_, 1) := by decide +kernel
theorem dX3_voteStep_37 : decode cX3_voteStep 37 = .ok (.iload_n 1, 1) := by decide +kernel
theorem dX3_voteStep_38 : decode cX3_voteStep 38 = .ok (.iconst 1, 1) := by decide +kernel
theorem dX3_voteStep_39 : decode cX3_voteStep 39 = .ok (.aload_n 0, 1) := by decide +kernel
theorem dX3_voteStep_40 : decode cX3_voteStep 40 = .ok (.getfield 75, 3) := by decide +kernel
theorem dX3_voteStep_43 : decode cX3_voteStep 43 = .ok (.ishl, 1) := by decide +kernel
theorem dX3_voteStep_44 : decode cX3_voteStep 44 = .ok (.iconst 1, 1) := by decide +kernel
theorem dX3_voteStep_45 : decode cX3_voteStep 45 = .ok (.isub, 1) := by decide +kernel
theorem dX3_voteStep_46 : decode cX3_voteStep 46 = .ok (.iand, 1) := by decide +kernel
theorem dX3_voteStep_47 : decode cX3_voteStep 47 = .ok (.istore 7, 2) := by decide +kernel
theorem dX3_voteStep_49 : decode cX3_voteStep 49 = .ok (.lload_n 2, 1) := by decide +kernel
theorem dX3_voteStep_50 : decode cX3_voteStep 50 = .ok (.aload_n 0, 1) := by decide +kernel
theorem dX3_voteStep_51 : decode cX3_voteStep 51 = .ok (.getfield 15, 3) := by decide +kernel
theorem dX3_voteStep_54 : decode cX3_voteStep 54 = .ok (.iload 6, 2) := by decide +kernel
theorem dX3_voteStep_56 : decode cX3_voteStep 56 = .ok (.bipush 16, 2) := by decide +kernel
theorem dX3_voteStep_58 : decode cX3_voteStep 58 = .ok (.imul, 1) := by decide +kernel
theorem dX3_voteStep_59 : decode cX3_voteStep 59 = .ok (.iload 7, 2) := by decide +kernel
theorem dX3_voteStep_61 : decode cX3_voteStep 61 = .ok (.iadd, 1) := by decide +kernel
theorem dX3_voteStep_62 : decode cX3_voteStep 62 = .ok (.laload, 1) := by decide +kernel
theorem dX3_voteStep_63 : decode cX3_voteStep 63 = .ok (.land, 1) := by decide +kernel
theorem dX3_voteStep_64 : decode cX3_voteStep 64 = .ok (.lstore 8, 2) := by decide +kernel
theorem dX3_voteStep_66 : decode cX3_voteStep 66 = .ok (.lload 8, 2) := by decide +kernel
theorem dX3_voteStep_68 : decode cX3_voteStep 68 = .ok (.lconst 0, 1) := by decide +kernel
theorem dX3_voteStep_69 : decode cX3_voteStep 69 = .ok (.lcmp, 1) := by decide +kernel
theorem dX3_voteStep_70 : decode cX3_voteStep 70 = .ok (.ifCond .ne 4, 3) := by decide +kernel
theorem dX3_voteStep_73 : decode cX3_voteStep 73 = .ok (.return_, 1) := by decide +kernel
theorem dX3_voteStep_74 : decode cX3_voteStep 74 = .ok (.iload_n 1, 1) := by decide +kernel
theorem dX3_voteStep_75 : decode cX3_voteStep 75 = .ok (.aload_n 0, 1) := by decide +kernel
theorem dX3_voteStep_76 : decode cX3_voteStep 76 = .ok (.iload 6, 2) := by decide +kernel
theorem dX3_voteStep_78 : decode cX3_voteStep 78 = .ok (.invokevirtual 195, 3) := by decide +kernel
theorem dX3_voteStep_81 : decode cX3_voteStep 81 = .ok (.ior, 1) := by decide +kernel
theorem dX3_voteStep_82 : decode cX3_voteStep 82 = .ok (.istore 10, 2) := by decide +kernel
theorem dX3_voteStep_84 : decode cX3_voteStep 84 = .ok (.aload_n 0, 1) := by decide +kernel
theorem dX3_voteStep_85 : decode cX3_voteStep 85 = .ok (.iload 10, 2) := by decide +kernel
theorem dX3_voteStep_87 : decode cX3_voteStep 87 = .ok (.lload 8, 2) := by decide +kernel
theorem dX3_voteStep_89 : decode cX3_voteStep 89 = .ok (.invokevirtual 181, 3) := by decide +kernel
theorem dX3_voteStep_92 : decode cX3_voteStep 92 = .ok (.aload_n 0, 1) := by decide +kernel
theorem dX3_voteStep_93 : decode cX3_voteStep 93 = .ok (.iload 10, 2) := by decide +kernel
theorem dX3_voteStep_95 : decode cX3_voteStep 95 = .ok (.invokevirtual 198, 3) := by decide +kernel
theorem dX3_voteStep_98 : decode cX3_voteStep 98 = .ok (.istore 11, 2) := by decide +kernel
theorem dX3_voteStep_100 : decode cX3_voteStep 100 = .ok (.iload 11, 2) := by decide +kernel
theorem dX3_voteStep_102 : decode cX3_voteStep 102 = .ok (.aload_n 0, 1) := by decide +kernel
theorem dX3_voteStep_103 : decode cX3_voteStep 103 = .ok (.getfield 49, 3) := by decide +kernel
theorem dX3_voteStep_106 : decode cX3_voteStep 106 = .ok (.if_icmp .le 17, 3) := by decide +kernel
theorem dX3_voteStep_109 : decode cX3_voteStep 109 = .ok (.aload_n 0, 1) := by decide +kernel
theorem dX3_voteStep_110 : decode cX3_voteStep 110 = .ok (.iload 11, 2) := by decide +kernel
theorem dX3_voteStep_112 : decode cX3_voteStep 112 = .ok (.putfield 49, 3) := by decide +kernel
theorem dX3_voteStep_115 : decode cX3_voteStep 115 = .ok (.aload_n 0, 1) := by decide +kernel
theorem dX3_voteStep_116 : decode cX3_voteStep 116 = .ok (.iload 5, 2) := by decide +kernel
theorem dX3_voteStep_118 : decode cX3_voteStep 118 = .ok (.iconst 1, 1) := by decide +kernel
theorem dX3_voteStep_119 : decode cX3_voteStep 119 = .ok (.iadd, 1) := by decide +kernel
theorem dX3_voteStep_120 : decode cX3_voteStep 120 = .ok (.putfield 52, 3) := by decide +kernel
theorem dX3_voteStep_123 : decode cX3_voteStep 123 = .ok (.return_, 1) := by decide +kernel
theorem dX3_worthOf_0 : decode cX3_worthOf 0 = .ok (.iconst 0, 1) := by decide +kernel
theorem dX3_worthOf_1 : decode cX3_worthOf 1 = .ok (.istore_n 2, 1) := by decide +kernel
theorem dX3_worthOf_2 : decode cX3_worthOf 2 = .ok (.iconst 0, 1) := by decide +kernel
theorem dX3_worthOf_3 : decode cX3_worthOf 3 = .ok (.istore_n 3, 1) := by decide +kernel
theorem dX3_worthOf_4 : decode cX3_worthOf 4 = .ok (.iload_n 3, 1) := by decide +kernel
theorem dX3_worthOf_5 : decode cX3_worthOf 5 = .ok (.aload_n 0, 1) := by decide +kernel
theorem dX3_worthOf_6 : decode cX3_worthOf 6 = .ok (.getfield 72, 3) := by decide +kernel
theorem dX3_worthOf_9 : decode cX3_worthOf 9 = .ok (.if_icmp .ge 36, 3) := by decide +kernel
theorem dX3_worthOf_12 : decode cX3_worthOf 12 = .ok (.iload_n 1, 1) := by decide +kernel
theorem dX3_worthOf_13 : decode cX3_worthOf 13 = .ok (.aload_n 0, 1) := by decide +kernel
theorem dX3_worthOf_14 : decode cX3_worthOf 14 = .ok (.iload_n 3, 1) := by decide +kernel
theorem dX3_worthOf_15 : decode cX3_worthOf 15 = .ok (.invokevirtual 195, 3) := by decide +kernel
theorem dX3_worthOf_18 : decode cX3_worthOf 18 = .ok (.iand, 1) := by decide +kernel
theorem dX3_worthOf_19 : decode cX3_worthOf 19 = .ok (.ifCond .eq 20, 3) := by decide +kernel
theorem dX3_worthOf_22 : decode cX3_worthOf 22 = .ok (.iload_n 2, 1) := by decide +kernel
theorem dX3_worthOf_23 : decode cX3_worthOf 23 = .ok (.aload_n 0, 1) := by decide +kernel
theorem dX3_worthOf_24 : decode cX3_worthOf 24 = .ok (.getfield 38, 3) := by decide +kernel
theorem dX3_worthOf_27 : decode cX3_worthOf 27 = .ok (.getfield 114, 3) := by decide +kernel
theorem dX3_worthOf_30 : decode cX3_worthOf 30 = .ok (.aload_n 0, 1) := by decide +kernel
theorem dX3_worthOf_31 : decode cX3_worthOf 31 = .ok (.getfield 22, 3) := by decide +kernel
theorem dX3_worthOf_34 : decode cX3_worthOf 34 = .ok (.iload_n 3, 1) := by decide +kernel
theorem dX3_worthOf_35 : decode cX3_worthOf 35 = .ok (.iaload, 1) := by decide +kernel
theorem dX3_worthOf_36 : decode cX3_worthOf 36 = .ok (.iaload, 1) := by decide +kernel
theorem dX3_worthOf_37 : decode cX3_worthOf 37 = .ok (.iadd, 1) := by decide +kernel
theorem dX3_worthOf_38 : decode cX3_worthOf 38 = .ok (.istore_n 2, 1) := by decide +kernel
theorem dX3_worthOf_39 : decode cX3_worthOf 39 = .ok (.iinc 3 1, 3) := by decide +kernel
theorem dX3_worthOf_42 : decode cX3_worthOf 42 = .ok (.goto (-38), 3) := by decide +kernel
theorem dX3_worthOf_45 : decode cX3_worthOf 45 = .ok (.iload_n 2, 1) := by decide +kernel
theorem dX3_worthOf_46 : decode cX3_worthOf 46 = .ok (.ireturn, 1) := by decide +kernel
